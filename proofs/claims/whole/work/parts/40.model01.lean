abbrev rmX12_factor : Room := { frames := 1, cells := 0, slots := 0, locals := 20 }
def wX12_factor (x1 : Int32) (x2 : Int32) (σ : St) (Q : Int32 → St → Prop) : Prop := ((x1 < 0 → Q (0 : Int32) σ) ∧ (¬ (x1 < 0) → (((gv σ 11 49) ≤ x1 → Q (0 : Int32) σ) ∧ (¬ ((gv σ 11 49) ≤ x1) → ((x2 < (-100 : Int32) → Q (0 : Int32) σ) ∧ (¬ (x2 < (-100 : Int32)) → ((x2 ≤ (100 : Int32) → vp_in x1 20 ∧ ∀ σ6 : St, σ6 = pv σ 77 x1.toNatClampNeg x2 → wX12_changes σ6 (fun (σ8 : St) => Q (1 : Int32) σ8)) ∧ (¬ (x2 ≤ (100 : Int32)) → Q (0 : Int32) σ))))))))
set_option maxHeartbeats 4000000 in
set_option maxRecDepth 100000 in
theorem tX12_factor_e {p : Program} {l : Launch} {e : Env} {s : State} {m : MethodId} {args : Array Value} {below : List Frame} {meth : Method} {c : Code} {E : EE} {base : Nat} (C : Cx p E base s m args meth c cX12_factor 3 RX12) (hr : meth.sig.returnType = (some .boolean)) {Q : Int32 → St → Prop} : ∀ (x1 : Int32) (x2 : Int32) (σ : St) (H : Heap) (locs : List Loc) (ls : Array Slot), lv_has ls 3 [(0, .ref (ga E 11)), (1, .int x1), (2, .int x2)] → GW E base s σ H locs → wX12_factor x1 x2 σ Q → W p l e rmX12_factor s m args below meth c H locs 0 0 (MQ below (QI E base Q) args s 0 0 (fun q => base ≤ q)) (F0 m 0 ls []) := by
  intro x1 x2 σ H locs ls hl g h
  refine lv_iload_n C.1 C.2.1 dX12_factor_0 rfl (lv_at hl 1 rfl) ?_
  refine lv_if_lt (tgt := 24) C.1 C.2.1 dX12_factor_1 (by decide) (fun c1 => ?_) (fun c1 => ?_)
  · have h := h.1 c1
    refine lv_iconst (v := 0) C.1 C.2.1 dX12_factor_24 (by decide) ?_
    exact gx_zret C hr g dX12_factor_25 (by decide) h
  · have h := h.2 c1
    refine lv_iload_n C.1 C.2.1 dX12_factor_4 rfl (lv_at hl 1 rfl) ?_
    refine lv_aload_n C.1 C.2.1 dX12_factor_5 rfl (lv_at hl 0 rfl) ?_
    refine gx_getI C g fl_X12_186 dX12_factor_6 sh_11 rfl ?_
    refine lv_icmp_ge (tgt := 24) C.1 C.2.1 dX12_factor_9 (by decide) (fun c2 => ?_) (fun c2 => ?_)
    · have h := h.1 c2
      refine lv_iconst (v := 0) C.1 C.2.1 dX12_factor_24 (by decide) ?_
      exact gx_zret C hr g dX12_factor_25 (by decide) h
    · have h := h.2 c2
      refine lv_iload_n C.1 C.2.1 dX12_factor_12 rfl (lv_at hl 2 rfl) ?_
      refine lv_bipush (v := -100) C.1 C.2.1 dX12_factor_13 (by decide) ?_
      refine lv_icmp_lt (tgt := 24) C.1 C.2.1 dX12_factor_15 (by decide) (fun c3 => ?_) (fun c3 => ?_)
      · have h := h.1 c3
        refine lv_iconst (v := 0) C.1 C.2.1 dX12_factor_24 (by decide) ?_
        exact gx_zret C hr g dX12_factor_25 (by decide) h
      · have h := h.2 c3
        refine lv_iload_n C.1 C.2.1 dX12_factor_18 rfl (lv_at hl 2 rfl) ?_
        refine lv_bipush (v := 100) C.1 C.2.1 dX12_factor_19 (by decide) ?_
        refine lv_icmp_le (tgt := 26) C.1 C.2.1 dX12_factor_21 (by decide) (fun c4 => ?_) (fun c4 => ?_)
        · have h := h.1 c4
          refine lv_aload_n C.1 C.2.1 dX12_factor_26 rfl (lv_at hl 0 rfl) ?_
          refine gx_getR C g fl_X12_107 dX12_factor_27 sh_11 rfl (by decide) ?_
          refine lv_iload_n C.1 C.2.1 dX12_factor_30 rfl (lv_at hl 1 rfl) ?_
          refine lv_iload_n C.1 C.2.1 dX12_factor_31 rfl (lv_at hl 2 rfl) ?_
          obtain ⟨i5, h⟩ := h
          refine gx_iast C g dX12_factor_32 sh_77 i5 (fun H locs σ6 eσ6 g => ?_)
          have h := h σ6 eσ6
          refine lv_aload_n C.1 C.2.1 dX12_factor_33 rfl (lv_at hl 0 rfl) ?_
          refine gx_callv0 g (gx_runV (k := 11) (rest := []) C g mb_X12_changes ml_X12_278 rfl sh_11 (mX12_changes _ _ h) ⟨Nat.le_of_ble_eq_true rfl, Nat.le_of_ble_eq_true rfl⟩ ⟨Nat.le_refl _, Nat.le_refl _⟩ rfl hl.1 rfl (Nat.le_of_ble_eq_true rfl) dX12_factor_34) rfl rfl (fun σ8 H locs h g => ?_)
          refine lv_iconst (v := 1) C.1 C.2.1 dX12_factor_37 (by decide) ?_
          exact gx_zret C hr g dX12_factor_38 (by decide) h
        · have h := h.2 c4
          refine lv_iconst (v := 0) C.1 C.2.1 dX12_factor_24 (by decide) ?_
          exact gx_zret C hr g dX12_factor_25 (by decide) h
theorem mX12_factor {l : Launch} {E : EE} {base : Nat} (x1 : Int32) (x2 : Int32) (σ : St) (Q : Int32 → St → Prop) (h : wX12_factor x1 x2 σ Q) : Met l yX12_factor (wy yX12_factor cX12_factor 3 (some .boolean)) rmX12_factor (va_Pc [.ref (ga E 11), .int x1, .int x2] (fun U => SW E base σ U)) (QI E base Q) (rmX12_factor).cells (rmX12_factor).slots (fun q => base ≤ q) :=
  met_of (by decide) (Nat.le_of_ble_eq_true rfl) (fun p e s m args below meth c C hr g ls hl => tX12_factor_e C hr x1 x2 _ _ _ _ hl g h)
abbrev rmX12_clock : Room := { frames := 0, cells := 0, slots := 0, locals := 0 }
def wX12_clock (x1 : Int32) (σ : St) (Q : Int32 → St → Prop) : Prop := ((x1 < (gv σ 11 51) → Q (0 : Int32) σ) ∧ (¬ (x1 < (gv σ 11 51)) → ((x1 < (240 : Int32) → ∀ σ3 : St, σ3 = pv σ 11 51 x1 → Q (1 : Int32) σ3) ∧ (¬ (x1 < (240 : Int32)) → Q (0 : Int32) σ))))
set_option maxHeartbeats 4000000 in
set_option maxRecDepth 100000 in
theorem tX12_clock_e {p : Program} {l : Launch} {e : Env} {s : State} {m : MethodId} {args : Array Value} {below : List Frame} {meth : Method} {c : Code} {E : EE} {base : Nat} (C : Cx p E base s m args meth c cX12_clock 2 RX12) (hr : meth.sig.returnType = (some .boolean)) {Q : Int32 → St → Prop} : ∀ (x1 : Int32) (σ : St) (H : Heap) (locs : List Loc) (ls : Array Slot), lv_has ls 2 [(0, .ref (ga E 11)), (1, .int x1)] → GW E base s σ H locs → wX12_clock x1 σ Q → W p l e rmX12_clock s m args below meth c H locs 0 0 (MQ below (QI E base Q) args s 0 0 (fun q => base ≤ q)) (F0 m 0 ls []) := by
  intro x1 σ H locs ls hl g h
  refine lv_iload_n C.1 C.2.1 dX12_clock_0 rfl (lv_at hl 1 rfl) ?_
  refine lv_aload_n C.1 C.2.1 dX12_clock_1 rfl (lv_at hl 0 rfl) ?_
  refine gx_getI C g fl_X12_310 dX12_clock_2 sh_11 rfl ?_
  refine lv_icmp_lt (tgt := 15) C.1 C.2.1 dX12_clock_5 (by decide) (fun c1 => ?_) (fun c1 => ?_)
  · have h := h.1 c1
    refine lv_iconst (v := 0) C.1 C.2.1 dX12_clock_15 (by decide) ?_
    exact gx_zret C hr g dX12_clock_16 (by decide) h
  · have h := h.2 c1
    refine lv_iload_n C.1 C.2.1 dX12_clock_8 rfl (lv_at hl 1 rfl) ?_
    refine lv_sipush (v := 240) C.1 C.2.1 dX12_clock_9 (by decide) ?_
    refine lv_icmp_lt (tgt := 17) C.1 C.2.1 dX12_clock_12 (by decide) (fun c2 => ?_) (fun c2 => ?_)
    · have h := h.1 c2
      refine lv_aload_n C.1 C.2.1 dX12_clock_17 rfl (lv_at hl 0 rfl) ?_
      refine lv_iload_n C.1 C.2.1 dX12_clock_18 rfl (lv_at hl 1 rfl) ?_
      refine gx_putI C g fi_X12_310 dX12_clock_19 sh_11 rfl (fun H locs σ3 eσ3 g => ?_)
      have h := h σ3 eσ3
      refine lv_iconst (v := 1) C.1 C.2.1 dX12_clock_22 (by decide) ?_
      exact gx_zret C hr g dX12_clock_23 (by decide) h
    · have h := h.2 c2
      refine lv_iconst (v := 0) C.1 C.2.1 dX12_clock_15 (by decide) ?_
      exact gx_zret C hr g dX12_clock_16 (by decide) h
theorem mX12_clock {l : Launch} {E : EE} {base : Nat} (x1 : Int32) (σ : St) (Q : Int32 → St → Prop) (h : wX12_clock x1 σ Q) : Met l yX12_clock (wy yX12_clock cX12_clock 2 (some .boolean)) rmX12_clock (va_Pc [.ref (ga E 11), .int x1] (fun U => SW E base σ U)) (QI E base Q) (rmX12_clock).cells (rmX12_clock).slots (fun q => base ≤ q) :=
  met_of (by decide) (Nat.le_of_ble_eq_true rfl) (fun p e s m args below meth c C hr g ls hl => tX12_clock_e C hr x1 _ _ _ _ hl g h)
abbrev rmX12_rain : Room := { frames := 1, cells := 0, slots := 0, locals := 21 }
def wX12_rain (x1 : Int32) (x2 : Int32) (x3 : Int32) (σ : St) (Q : Int32 → St → Prop) : Prop := (((gv σ 11 52) = (400 : Int32) → Q (-1 : Int32) σ) ∧ (¬ ((gv σ 11 52) = (400 : Int32)) → ((x1 < 0 → Q (-1 : Int32) σ) ∧ (¬ (x1 < 0) → (((240 : Int32) ≤ x1 → Q (-1 : Int32) σ) ∧ (¬ ((240 : Int32) ≤ x1) → wX12_isMill x2 σ (fun (r4 : Int32) (σ5 : St) => ((r4 = 0 → Q (-1 : Int32) σ5) ∧ (¬ (r4 = 0) → ((x3 < 0 → Q (-1 : Int32) σ5) ∧ (¬ (x3 < 0) → ((x3 ≤ (1000 : Int32) → vp_in (gv σ5 11 52) 400 ∧ ∀ σ10 : St, σ10 = pv σ5 78 (gv σ5 11 52).toNatClampNeg x1 → vp_in (gv σ10 11 52) 400 ∧ ∀ σ12 : St, σ12 = pv σ10 79 (gv σ10 11 52).toNatClampNeg x2 → vp_in (gv σ12 11 52) 400 ∧ ∀ σ14 : St, σ14 = pv σ12 80 (gv σ12 11 52).toNatClampNeg x3 → ∀ σ15 : St, σ15 = pv σ14 11 52 ((gv σ14 11 52) + (1 : Int32)) → Q ((gv σ15 11 52) - (1 : Int32)) σ15) ∧ (¬ (x3 ≤ (1000 : Int32)) → Q (-1 : Int32) σ5)))))))))))))
set_option maxHeartbeats 4000000 in
set_option maxRecDepth 100000 in
theorem tX12_rain_e {p : Program} {l : Launch} {e : Env} {s : State} {m : MethodId} {args : Array Value} {below : List Frame} {meth : Method} {c : Code} {E : EE} {base : Nat} (C : Cx p E base s m args meth c cX12_rain 4 RX12) (hr : meth.sig.returnType = (some .int)) {Q : Int32 → St → Prop} : ∀ (x1 : Int32) (x2 : Int32) (x3 : Int32) (σ : St) (H : Heap) (locs : List Loc) (ls : Array Slot), lv_has ls 4 [(0, .ref (ga E 11)), (1, .int x1), (2, .int x2), (3, .int x3)] → GW E base s σ H locs → wX12_rain x1 x2 x3 σ Q → W p l e rmX12_rain s m args below meth c H locs 0 0 (MQ below (QI E base Q) args s 0 0 (fun q => base ≤ q)) (F0 m 0 ls []) := by
  intro x1 x2 x3 σ H locs ls hl g h
  refine lv_aload_n C.1 C.2.1 dX12_rain_0 rfl (lv_at hl 0 rfl) ?_
  refine gx_getI C g fl_X12_316 dX12_rain_1 sh_11 rfl ?_
  refine lv_sipush (v := 400) C.1 C.2.1 dX12_rain_4 (by decide) ?_
  refine lv_icmp_eq (tgt := 40) C.1 C.2.1 dX12_rain_7 (by decide) (fun c1 => ?_) (fun c1 => ?_)
  · have h := h.1 c1
    refine lv_iconst (v := -1) C.1 C.2.1 dX12_rain_40 (by decide) ?_
    exact gx_iret C hr g dX12_rain_41 h
  · have h := h.2 c1
    refine lv_iload_n C.1 C.2.1 dX12_rain_10 rfl (lv_at hl 1 rfl) ?_
    refine lv_if_lt (tgt := 40) C.1 C.2.1 dX12_rain_11 (by decide) (fun c2 => ?_) (fun c2 => ?_)
    · have h := h.1 c2
      refine lv_iconst (v := -1) C.1 C.2.1 dX12_rain_40 (by decide) ?_
      exact gx_iret C hr g dX12_rain_41 h
    · have h := h.2 c2
      refine lv_iload_n C.1 C.2.1 dX12_rain_14 rfl (lv_at hl 1 rfl) ?_
      refine lv_sipush (v := 240) C.1 C.2.1 dX12_rain_15 (by decide) ?_
      refine lv_icmp_ge (tgt := 40) C.1 C.2.1 dX12_rain_18 (by decide) (fun c3 => ?_) (fun c3 => ?_)
      · have h := h.1 c3
        refine lv_iconst (v := -1) C.1 C.2.1 dX12_rain_40 (by decide) ?_
        exact gx_iret C hr g dX12_rain_41 h
      · have h := h.2 c3
        refine lv_aload_n C.1 C.2.1 dX12_rain_21 rfl (lv_at hl 0 rfl) ?_
        refine lv_iload_n C.1 C.2.1 dX12_rain_22 rfl (lv_at hl 2 rfl) ?_
        refine gx_calli0 g (gx_runV (k := 11) (rest := []) C g mb_X12_isMill ml_X12_319 rfl sh_11 (mX12_isMill x2 _ _ h) ⟨Nat.le_of_ble_eq_true rfl, Nat.le_of_ble_eq_true rfl⟩ ⟨Nat.le_refl _, Nat.le_refl _⟩ rfl hl.1 rfl (Nat.le_of_ble_eq_true rfl) dX12_rain_23) rfl rfl (fun r4 σ5 H locs h g => ?_)
        refine lv_if_eq (tgt := 40) C.1 C.2.1 dX12_rain_26 (by decide) (fun c6 => ?_) (fun c6 => ?_)
        · have h := h.1 c6
          refine lv_iconst (v := -1) C.1 C.2.1 dX12_rain_40 (by decide) ?_
          exact gx_iret C hr g dX12_rain_41 h
        · have h := h.2 c6
          refine lv_iload_n C.1 C.2.1 dX12_rain_29 rfl (lv_at hl 3 rfl) ?_
          refine lv_if_lt (tgt := 40) C.1 C.2.1 dX12_rain_30 (by decide) (fun c7 => ?_) (fun c7 => ?_)
          · have h := h.1 c7
            refine lv_iconst (v := -1) C.1 C.2.1 dX12_rain_40 (by decide) ?_
            exact gx_iret C hr g dX12_rain_41 h
          · have h := h.2 c7
            refine lv_iload_n C.1 C.2.1 dX12_rain_33 rfl (lv_at hl 3 rfl) ?_
            refine lv_sipush (v := 1000) C.1 C.2.1 dX12_rain_34 (by decide) ?_
            refine lv_icmp_le (tgt := 42) C.1 C.2.1 dX12_rain_37 (by decide) (fun c8 => ?_) (fun c8 => ?_)
            · have h := h.1 c8
              refine lv_aload_n C.1 C.2.1 dX12_rain_42 rfl (lv_at hl 0 rfl) ?_
              refine gx_getR C g fl_X12_110 dX12_rain_43 sh_11 rfl (by decide) ?_
              refine lv_aload_n C.1 C.2.1 dX12_rain_46 rfl (lv_at hl 0 rfl) ?_
              refine gx_getI C g fl_X12_316 dX12_rain_47 sh_11 rfl ?_
              refine lv_iload_n C.1 C.2.1 dX12_rain_50 rfl (lv_at hl 1 rfl) ?_
              obtain ⟨i9, h⟩ := h
              refine gx_iast C g dX12_rain_51 sh_78 i9 (fun H locs σ10 eσ10 g => ?_)
              have h := h σ10 eσ10
              refine lv_aload_n C.1 C.2.1 dX12_rain_52 rfl (lv_at hl 0 rfl) ?_
              refine gx_getR C g fl_X12_113 dX12_rain_53 sh_11 rfl (by decide) ?_
              refine lv_aload_n C.1 C.2.1 dX12_rain_56 rfl (lv_at hl 0 rfl) ?_
              refine gx_getI C g fl_X12_316 dX12_rain_57 sh_11 rfl ?_
              refine lv_iload_n C.1 C.2.1 dX12_rain_60 rfl (lv_at hl 2 rfl) ?_
              obtain ⟨i11, h⟩ := h
              refine gx_iast C g dX12_rain_61 sh_79 i11 (fun H locs σ12 eσ12 g => ?_)
              have h := h σ12 eσ12
              refine lv_aload_n C.1 C.2.1 dX12_rain_62 rfl (lv_at hl 0 rfl) ?_
              refine gx_getR C g fl_X12_116 dX12_rain_63 sh_11 rfl (by decide) ?_
              refine lv_aload_n C.1 C.2.1 dX12_rain_66 rfl (lv_at hl 0 rfl) ?_
              refine gx_getI C g fl_X12_316 dX12_rain_67 sh_11 rfl ?_
              refine lv_iload_n C.1 C.2.1 dX12_rain_70 rfl (lv_at hl 3 rfl) ?_
              obtain ⟨i13, h⟩ := h
              refine gx_iast C g dX12_rain_71 sh_80 i13 (fun H locs σ14 eσ14 g => ?_)
              have h := h σ14 eσ14
              refine lv_aload_n C.1 C.2.1 dX12_rain_72 rfl (lv_at hl 0 rfl) ?_
              refine lv_dup C.1 C.2.1 dX12_rain_73 rfl ?_
              refine gx_getI C g fl_X12_316 dX12_rain_74 sh_11 rfl ?_
              refine lv_iconst (v := 1) C.1 C.2.1 dX12_rain_77 (by decide) ?_
              refine lv_iadd C.1 C.2.1 dX12_rain_78 ?_
              refine gx_putI C g fi_X12_316 dX12_rain_79 sh_11 rfl (fun H locs σ15 eσ15 g => ?_)
              have h := h σ15 eσ15
              refine lv_aload_n C.1 C.2.1 dX12_rain_82 rfl (lv_at hl 0 rfl) ?_
              refine gx_getI C g fl_X12_316 dX12_rain_83 sh_11 rfl ?_
              refine lv_iconst (v := 1) C.1 C.2.1 dX12_rain_86 (by decide) ?_
              refine lv_isub C.1 C.2.1 dX12_rain_87 ?_
              exact gx_iret C hr g dX12_rain_88 h
            · have h := h.2 c8
              refine lv_iconst (v := -1) C.1 C.2.1 dX12_rain_40 (by decide) ?_
              exact gx_iret C hr g dX12_rain_41 h
theorem mX12_rain {l : Launch} {E : EE} {base : Nat} (x1 : Int32) (x2 : Int32) (x3 : Int32) (σ : St) (Q : Int32 → St → Prop) (h : wX12_rain x1 x2 x3 σ Q) : Met l yX12_rain (wy yX12_rain cX12_rain 4 (some .int)) rmX12_rain (va_Pc [.ref (ga E 11), .int x1, .int x2, .int x3] (fun U => SW E base σ U)) (QI E base Q) (rmX12_rain).cells (rmX12_rain).slots (fun q => base ≤ q) :=
  met_of (by decide) (Nat.le_of_ble_eq_true rfl) (fun p e s m args below meth c C hr g ls hl => tX12_rain_e C hr x1 x2 x3 _ _ _ _ hl g h)
abbrev rmX12_order : Room := { frames := 1, cells := 0, slots := 0, locals := 21 }
def wX12_order_42 (Q : Int32 → St → Prop) (x1 : Int32) (x2 : Int32) (x3 : Int32) (xt0 : Int32) (xt1 : Int32) (σ : St) : Prop := ((xt0 ≤ xt1 → vp_in (gv σ 11 56) 200 ∧ ∀ σ3 : St, σ3 = pv σ 81 (gv σ 11 56).toNatClampNeg (gv σ 11 51) → vp_in (gv σ3 11 56) 200 ∧ ∀ σ5 : St, σ5 = pv σ3 82 (gv σ3 11 56).toNatClampNeg x1 → vp_in (gv σ5 11 56) 200 ∧ ∀ σ7 : St, σ7 = pv σ5 83 (gv σ5 11 56).toNatClampNeg (vp_nar .boolean x2) → vp_in (gv σ7 11 56) 200 ∧ ∀ σ9 : St, σ9 = pv σ7 84 (gv σ7 11 56).toNatClampNeg x3 → ∀ σ10 : St, σ10 = pv σ9 11 56 ((gv σ9 11 56) + (1 : Int32)) → wX12_changes σ10 (fun (σ12 : St) => Q ((gv σ12 11 56) - (1 : Int32)) σ12)) ∧ (¬ (xt0 ≤ xt1) → Q (-1 : Int32) σ))
def wX12_order (x1 : Int32) (x2 : Int32) (x3 : Int32) (σ : St) (Q : Int32 → St → Prop) : Prop := (((gv σ 11 56) = (200 : Int32) → Q (-1 : Int32) σ) ∧ (¬ ((gv σ 11 56) = (200 : Int32)) → wX12_isMill x1 σ (fun (r2 : Int32) (σ3 : St) => ((r2 = 0 → Q (-1 : Int32) σ3) ∧ (¬ (r2 = 0) → ((x3 < 0 → Q (-1 : Int32) σ3) ∧ (¬ (x3 < 0) → ((x2 = 0 → vp_in x1 7 ∧ wX12_order_42 Q x1 x2 x3 x3 (gv σ3 75 x1.toNatClampNeg) σ3) ∧ (¬ (x2 = 0) → vp_in x1 7 ∧ wX12_order_42 Q x1 x2 x3 x3 (gv σ3 76 x1.toNatClampNeg) σ3)))))))))
set_option maxHeartbeats 4000000 in
set_option maxRecDepth 100000 in
theorem tX12_order_42 {p : Program} {l : Launch} {e : Env} {s : State} {m : MethodId} {args : Array Value} {below : List Frame} {meth : Method} {c : Code} {E : EE} {base : Nat} (C : Cx p E base s m args meth c cX12_order 4 RX12) (hr : meth.sig.returnType = (some .int)) {Q : Int32 → St → Prop} : ∀ (x1 : Int32) (x2 : Int32) (x3 : Int32) (xt0 : Int32) (xt1 : Int32) (σ : St) (H : Heap) (locs : List Loc) (ls : Array Slot), lv_has ls 4 [(0, .ref (ga E 11)), (1, .int x1), (2, .int x2), (3, .int x3)] → GW E base s σ H locs → wX12_order_42 Q x1 x2 x3 xt0 xt1 σ → W p l e rmX12_order s m args below meth c H locs 0 0 (MQ below (QI E base Q) args s 0 0 (fun q => base ≤ q)) (F0 m 42 ls [.int xt1, .int xt0]) := by
  intro x1 x2 x3 xt0 xt1 σ H locs ls hl g h
  refine lv_icmp_le (tgt := 47) C.1 C.2.1 dX12_order_42 (by decide) (fun c1 => ?_) (fun c1 => ?_)
  · have h := h.1 c1
    refine lv_aload_n C.1 C.2.1 dX12_order_47 rfl (lv_at hl 0 rfl) ?_
    refine gx_getR C g fl_X12_119 dX12_order_48 sh_11 rfl (by decide) ?_
    refine lv_aload_n C.1 C.2.1 dX12_order_51 rfl (lv_at hl 0 rfl) ?_
    refine gx_getI C g fl_X12_322 dX12_order_52 sh_11 rfl ?_
    refine lv_aload_n C.1 C.2.1 dX12_order_55 rfl (lv_at hl 0 rfl) ?_
    refine gx_getI C g fl_X12_310 dX12_order_56 sh_11 rfl ?_
    obtain ⟨i2, h⟩ := h
    refine gx_iast C g dX12_order_59 sh_81 i2 (fun H locs σ3 eσ3 g => ?_)
    have h := h σ3 eσ3
    refine lv_aload_n C.1 C.2.1 dX12_order_60 rfl (lv_at hl 0 rfl) ?_
    refine gx_getR C g fl_X12_122 dX12_order_61 sh_11 rfl (by decide) ?_
    refine lv_aload_n C.1 C.2.1 dX12_order_64 rfl (lv_at hl 0 rfl) ?_
    refine gx_getI C g fl_X12_322 dX12_order_65 sh_11 rfl ?_
    refine lv_iload_n C.1 C.2.1 dX12_order_68 rfl (lv_at hl 1 rfl) ?_
    obtain ⟨i4, h⟩ := h
    refine gx_iast C g dX12_order_69 sh_82 i4 (fun H locs σ5 eσ5 g => ?_)
    have h := h σ5 eσ5
    refine lv_aload_n C.1 C.2.1 dX12_order_70 rfl (lv_at hl 0 rfl) ?_
    refine gx_getR C g fl_X12_125 dX12_order_71 sh_11 rfl (by decide) ?_
    refine lv_aload_n C.1 C.2.1 dX12_order_74 rfl (lv_at hl 0 rfl) ?_
    refine gx_getI C g fl_X12_322 dX12_order_75 sh_11 rfl ?_
    refine lv_iload_n C.1 C.2.1 dX12_order_78 rfl (lv_at hl 2 rfl) ?_
    obtain ⟨i6, h⟩ := h
    refine gx_zast C g dX12_order_79 sh_83 i6 (fun H locs σ7 eσ7 g => ?_)
    have h := h σ7 eσ7
    refine lv_aload_n C.1 C.2.1 dX12_order_80 rfl (lv_at hl 0 rfl) ?_
    refine gx_getR C g fl_X12_128 dX12_order_81 sh_11 rfl (by decide) ?_
    refine lv_aload_n C.1 C.2.1 dX12_order_84 rfl (lv_at hl 0 rfl) ?_
    refine gx_getI C g fl_X12_322 dX12_order_85 sh_11 rfl ?_
    refine lv_iload_n C.1 C.2.1 dX12_order_88 rfl (lv_at hl 3 rfl) ?_
    obtain ⟨i8, h⟩ := h
    refine gx_iast C g dX12_order_89 sh_84 i8 (fun H locs σ9 eσ9 g => ?_)
    have h := h σ9 eσ9
    refine lv_aload_n C.1 C.2.1 dX12_order_90 rfl (lv_at hl 0 rfl) ?_
    refine lv_dup C.1 C.2.1 dX12_order_91 rfl ?_
    refine gx_getI C g fl_X12_322 dX12_order_92 sh_11 rfl ?_
    refine lv_iconst (v := 1) C.1 C.2.1 dX12_order_95 (by decide) ?_
    refine lv_iadd C.1 C.2.1 dX12_order_96 ?_
    refine gx_putI C g fi_X12_322 dX12_order_97 sh_11 rfl (fun H locs σ10 eσ10 g => ?_)
    have h := h σ10 eσ10
    refine lv_aload_n C.1 C.2.1 dX12_order_100 rfl (lv_at hl 0 rfl) ?_
    refine gx_callv0 g (gx_runV (k := 11) (rest := []) C g mb_X12_changes ml_X12_278 rfl sh_11 (mX12_changes _ _ h) ⟨Nat.le_of_ble_eq_true rfl, Nat.le_of_ble_eq_true rfl⟩ ⟨Nat.le_refl _, Nat.le_refl _⟩ rfl hl.1 rfl (Nat.le_of_ble_eq_true rfl) dX12_order_101) rfl rfl (fun σ12 H locs h g => ?_)
    refine lv_aload_n C.1 C.2.1 dX12_order_104 rfl (lv_at hl 0 rfl) ?_
    refine gx_getI C g fl_X12_322 dX12_order_105 sh_11 rfl ?_
    refine lv_iconst (v := 1) C.1 C.2.1 dX12_order_108 (by decide) ?_
    refine lv_isub C.1 C.2.1 dX12_order_109 ?_
    exact gx_iret C hr g dX12_order_110 h
  · have h := h.2 c1
    refine lv_iconst (v := -1) C.1 C.2.1 dX12_order_45 (by decide) ?_
    exact gx_iret C hr g dX12_order_46 h
set_option maxHeartbeats 4000000 in
set_option maxRecDepth 100000 in
theorem tX12_order_e {p : Program} {l : Launch} {e : Env} {s : State} {m : MethodId} {args : Array Value} {below : List Frame} {meth : Method} {c : Code} {E : EE} {base : Nat} (C : Cx p E base s m args meth c cX12_order 4 RX12) (hr : meth.sig.returnType = (some .int)) {Q : Int32 → St → Prop} : ∀ (x1 : Int32) (x2 : Int32) (x3 : Int32) (σ : St) (H : Heap) (locs : List Loc) (ls : Array Slot), lv_has ls 4 [(0, .ref (ga E 11)), (1, .int x1), (2, .int x2), (3, .int x3)] → GW E base s σ H locs → wX12_order x1 x2 x3 σ Q → W p l e rmX12_order s m args below meth c H locs 0 0 (MQ below (QI E base Q) args s 0 0 (fun q => base ≤ q)) (F0 m 0 ls []) := by
  intro x1 x2 x3 σ H locs ls hl g h
  refine lv_aload_n C.1 C.2.1 dX12_order_0 rfl (lv_at hl 0 rfl) ?_
  refine gx_getI C g fl_X12_322 dX12_order_1 sh_11 rfl ?_
  refine lv_sipush (v := 200) C.1 C.2.1 dX12_order_4 (by decide) ?_
  refine lv_icmp_eq (tgt := 45) C.1 C.2.1 dX12_order_7 (by decide) (fun c1 => ?_) (fun c1 => ?_)
  · have h := h.1 c1
    refine lv_iconst (v := -1) C.1 C.2.1 dX12_order_45 (by decide) ?_
    exact gx_iret C hr g dX12_order_46 h
  · have h := h.2 c1
    refine lv_aload_n C.1 C.2.1 dX12_order_10 rfl (lv_at hl 0 rfl) ?_
    refine lv_iload_n C.1 C.2.1 dX12_order_11 rfl (lv_at hl 1 rfl) ?_
    refine gx_calli0 g (gx_runV (k := 11) (rest := []) C g mb_X12_isMill ml_X12_319 rfl sh_11 (mX12_isMill x1 _ _ h) ⟨Nat.le_of_ble_eq_true rfl, Nat.le_of_ble_eq_true rfl⟩ ⟨Nat.le_refl _, Nat.le_refl _⟩ rfl hl.1 rfl (Nat.le_of_ble_eq_true rfl) dX12_order_12) rfl rfl (fun r2 σ3 H locs h g => ?_)
    refine lv_if_eq (tgt := 45) C.1 C.2.1 dX12_order_15 (by decide) (fun c4 => ?_) (fun c4 => ?_)
    · have h := h.1 c4
      refine lv_iconst (v := -1) C.1 C.2.1 dX12_order_45 (by decide) ?_
      exact gx_iret C hr g dX12_order_46 h
    · have h := h.2 c4
      refine lv_iload_n C.1 C.2.1 dX12_order_18 rfl (lv_at hl 3 rfl) ?_
      refine lv_if_lt (tgt := 45) C.1 C.2.1 dX12_order_19 (by decide) (fun c5 => ?_) (fun c5 => ?_)
      · have h := h.1 c5
        refine lv_iconst (v := -1) C.1 C.2.1 dX12_order_45 (by decide) ?_
        exact gx_iret C hr g dX12_order_46 h
      · have h := h.2 c5
        refine lv_iload_n C.1 C.2.1 dX12_order_22 rfl (lv_at hl 3 rfl) ?_
        refine lv_iload_n C.1 C.2.1 dX12_order_23 rfl (lv_at hl 2 rfl) ?_
        refine lv_if_eq (tgt := 36) C.1 C.2.1 dX12_order_24 (by decide) (fun c6 => ?_) (fun c6 => ?_)
        · have h := h.1 c6
          refine lv_aload_n C.1 C.2.1 dX12_order_36 rfl (lv_at hl 0 rfl) ?_
          refine gx_getR C g fl_X12_101 dX12_order_37 sh_11 rfl (by decide) ?_
          refine lv_iload_n C.1 C.2.1 dX12_order_40 rfl (lv_at hl 1 rfl) ?_
          obtain ⟨i7, h⟩ := h
          refine gx_iald C g dX12_order_41 sh_75 i7 ?_
          exact tX12_order_42 C hr x1 x2 x3 x3 (gv σ3 75 x1.toNatClampNeg) _ _ _ _ (lv_sub hl [0, 1, 2, 3] rfl) g h
        · have h := h.2 c6
          refine lv_aload_n C.1 C.2.1 dX12_order_27 rfl (lv_at hl 0 rfl) ?_
          refine gx_getR C g fl_X12_104 dX12_order_28 sh_11 rfl (by decide) ?_
          refine lv_iload_n C.1 C.2.1 dX12_order_31 rfl (lv_at hl 1 rfl) ?_
          obtain ⟨i8, h⟩ := h
          refine gx_iald C g dX12_order_32 sh_76 i8 ?_
          refine lv_goto (tgt := 42) C.1 C.2.1 dX12_order_33 (by decide) ?_
          exact tX12_order_42 C hr x1 x2 x3 x3 (gv σ3 76 x1.toNatClampNeg) _ _ _ _ (lv_sub hl [0, 1, 2, 3] rfl) g h
theorem mX12_order {l : Launch} {E : EE} {base : Nat} (x1 : Int32) (x2 : Int32) (x3 : Int32) (σ : St) (Q : Int32 → St → Prop) (h : wX12_order x1 x2 x3 σ Q) : Met l yX12_order (wy yX12_order cX12_order 4 (some .int)) rmX12_order (va_Pc [.ref (ga E 11), .int x1, .int x2, .int x3] (fun U => SW E base σ U)) (QI E base Q) (rmX12_order).cells (rmX12_order).slots (fun q => base ≤ q) :=
  met_of (by decide) (Nat.le_of_ble_eq_true rfl) (fun p e s m args below meth c C hr g ls hl => tX12_order_e C hr x1 x2 x3 _ _ _ _ hl g h)
abbrev rmX12_grist : Room := { frames := 1, cells := 0, slots := 0, locals := 21 }
def wX12_grist (x1 : Int32) (x2 : Int32) (σ : St) (Q : Int32 → St → Prop) : Prop := (((gv σ 11 61) = (60 : Int32) → Q (-1 : Int32) σ) ∧ (¬ ((gv σ 11 61) = (60 : Int32)) → wX12_isMill x1 σ (fun (r2 : Int32) (σ3 : St) => ((r2 = 0 → Q (-1 : Int32) σ3) ∧ (¬ (r2 = 0) → ((x2 < (1 : Int32) → Q (-1 : Int32) σ3) ∧ (¬ (x2 < (1 : Int32)) → ((x2 ≤ (10000 : Int32) → vp_in (gv σ3 11 61) 60 ∧ ∀ σ8 : St, σ8 = pv σ3 85 (gv σ3 11 61).toNatClampNeg x1 → vp_in (gv σ8 11 61) 60 ∧ ∀ σ10 : St, σ10 = pv σ8 86 (gv σ8 11 61).toNatClampNeg x2 → vp_in (gv σ10 11 61) 60 ∧ ∀ σ12 : St, σ12 = pv σ10 87 (gv σ10 11 61).toNatClampNeg (gv σ10 11 51) → ∀ σ13 : St, σ13 = pv σ12 11 61 ((gv σ12 11 61) + (1 : Int32)) → Q ((gv σ13 11 61) - (1 : Int32)) σ13) ∧ (¬ (x2 ≤ (10000 : Int32)) → Q (-1 : Int32) σ3)))))))))
set_option maxHeartbeats 4000000 in
set_option maxRecDepth 100000 in
theorem tX12_grist_e {p : Program} {l : Launch} {e : Env} {s : State} {m : MethodId} {args : Array Value} {below : List Frame} {meth : Method} {c : Code} {E : EE} {base : Nat} (C : Cx p E base s m args meth c cX12_grist 3 RX12) (hr : meth.sig.returnType = (some .int)) {Q : Int32 → St → Prop} : ∀ (x1 : Int32) (x2 : Int32) (σ : St) (H : Heap) (locs : List Loc) (ls : Array Slot), lv_has ls 3 [(0, .ref (ga E 11)), (1, .int x1), (2, .int x2)] → GW E base s σ H locs → wX12_grist x1 x2 σ Q → W p l e rmX12_grist s m args below meth c H locs 0 0 (MQ below (QI E base Q) args s 0 0 (fun q => base ≤ q)) (F0 m 0 ls []) := by
  intro x1 x2 σ H locs ls hl g h
  refine lv_aload_n C.1 C.2.1 dX12_grist_0 rfl (lv_at hl 0 rfl) ?_
  refine gx_getI C g fl_X12_325 dX12_grist_1 sh_11 rfl ?_
  refine lv_bipush (v := 60) C.1 C.2.1 dX12_grist_4 (by decide) ?_
  refine lv_icmp_eq (tgt := 29) C.1 C.2.1 dX12_grist_6 (by decide) (fun c1 => ?_) (fun c1 => ?_)
  · have h := h.1 c1
    refine lv_iconst (v := -1) C.1 C.2.1 dX12_grist_29 (by decide) ?_
    exact gx_iret C hr g dX12_grist_30 h
  · have h := h.2 c1
    refine lv_aload_n C.1 C.2.1 dX12_grist_9 rfl (lv_at hl 0 rfl) ?_
    refine lv_iload_n C.1 C.2.1 dX12_grist_10 rfl (lv_at hl 1 rfl) ?_
    refine gx_calli0 g (gx_runV (k := 11) (rest := []) C g mb_X12_isMill ml_X12_319 rfl sh_11 (mX12_isMill x1 _ _ h) ⟨Nat.le_of_ble_eq_true rfl, Nat.le_of_ble_eq_true rfl⟩ ⟨Nat.le_refl _, Nat.le_refl _⟩ rfl hl.1 rfl (Nat.le_of_ble_eq_true rfl) dX12_grist_11) rfl rfl (fun r2 σ3 H locs h g => ?_)
    refine lv_if_eq (tgt := 29) C.1 C.2.1 dX12_grist_14 (by decide) (fun c4 => ?_) (fun c4 => ?_)
    · have h := h.1 c4
      refine lv_iconst (v := -1) C.1 C.2.1 dX12_grist_29 (by decide) ?_
      exact gx_iret C hr g dX12_grist_30 h
    · have h := h.2 c4
      refine lv_iload_n C.1 C.2.1 dX12_grist_17 rfl (lv_at hl 2 rfl) ?_
      refine lv_iconst (v := 1) C.1 C.2.1 dX12_grist_18 (by decide) ?_
      refine lv_icmp_lt (tgt := 29) C.1 C.2.1 dX12_grist_19 (by decide) (fun c5 => ?_) (fun c5 => ?_)
      · have h := h.1 c5
        refine lv_iconst (v := -1) C.1 C.2.1 dX12_grist_29 (by decide) ?_
        exact gx_iret C hr g dX12_grist_30 h
      · have h := h.2 c5
        refine lv_iload_n C.1 C.2.1 dX12_grist_22 rfl (lv_at hl 2 rfl) ?_
        refine lv_sipush (v := 10000) C.1 C.2.1 dX12_grist_23 (by decide) ?_
        refine lv_icmp_le (tgt := 31) C.1 C.2.1 dX12_grist_26 (by decide) (fun c6 => ?_) (fun c6 => ?_)
        · have h := h.1 c6
          refine lv_aload_n C.1 C.2.1 dX12_grist_31 rfl (lv_at hl 0 rfl) ?_
          refine gx_getR C g fl_X12_131 dX12_grist_32 sh_11 rfl (by decide) ?_
          refine lv_aload_n C.1 C.2.1 dX12_grist_35 rfl (lv_at hl 0 rfl) ?_
          refine gx_getI C g fl_X12_325 dX12_grist_36 sh_11 rfl ?_
          refine lv_iload_n C.1 C.2.1 dX12_grist_39 rfl (lv_at hl 1 rfl) ?_
          obtain ⟨i7, h⟩ := h
          refine gx_iast C g dX12_grist_40 sh_85 i7 (fun H locs σ8 eσ8 g => ?_)
          have h := h σ8 eσ8
          refine lv_aload_n C.1 C.2.1 dX12_grist_41 rfl (lv_at hl 0 rfl) ?_
          refine gx_getR C g fl_X12_134 dX12_grist_42 sh_11 rfl (by decide) ?_
          refine lv_aload_n C.1 C.2.1 dX12_grist_45 rfl (lv_at hl 0 rfl) ?_
          refine gx_getI C g fl_X12_325 dX12_grist_46 sh_11 rfl ?_
          refine lv_iload_n C.1 C.2.1 dX12_grist_49 rfl (lv_at hl 2 rfl) ?_
          obtain ⟨i9, h⟩ := h
          refine gx_iast C g dX12_grist_50 sh_86 i9 (fun H locs σ10 eσ10 g => ?_)
          have h := h σ10 eσ10
          refine lv_aload_n C.1 C.2.1 dX12_grist_51 rfl (lv_at hl 0 rfl) ?_
          refine gx_getR C g fl_X12_137 dX12_grist_52 sh_11 rfl (by decide) ?_
          refine lv_aload_n C.1 C.2.1 dX12_grist_55 rfl (lv_at hl 0 rfl) ?_
          refine gx_getI C g fl_X12_325 dX12_grist_56 sh_11 rfl ?_
          refine lv_aload_n C.1 C.2.1 dX12_grist_59 rfl (lv_at hl 0 rfl) ?_
          refine gx_getI C g fl_X12_310 dX12_grist_60 sh_11 rfl ?_
          obtain ⟨i11, h⟩ := h
          refine gx_iast C g dX12_grist_63 sh_87 i11 (fun H locs σ12 eσ12 g => ?_)
          have h := h σ12 eσ12
          refine lv_aload_n C.1 C.2.1 dX12_grist_64 rfl (lv_at hl 0 rfl) ?_
          refine lv_dup C.1 C.2.1 dX12_grist_65 rfl ?_
          refine gx_getI C g fl_X12_325 dX12_grist_66 sh_11 rfl ?_
          refine lv_iconst (v := 1) C.1 C.2.1 dX12_grist_69 (by decide) ?_
          refine lv_iadd C.1 C.2.1 dX12_grist_70 ?_
          refine gx_putI C g fi_X12_325 dX12_grist_71 sh_11 rfl (fun H locs σ13 eσ13 g => ?_)
          have h := h σ13 eσ13
          refine lv_aload_n C.1 C.2.1 dX12_grist_74 rfl (lv_at hl 0 rfl) ?_
          refine gx_getI C g fl_X12_325 dX12_grist_75 sh_11 rfl ?_
          refine lv_iconst (v := 1) C.1 C.2.1 dX12_grist_78 (by decide) ?_
          refine lv_isub C.1 C.2.1 dX12_grist_79 ?_
          exact gx_iret C hr g dX12_grist_80 h
        · have h := h.2 c6
          refine lv_iconst (v := -1) C.1 C.2.1 dX12_grist_29 (by decide) ?_
          exact gx_iret C hr g dX12_grist_30 h
theorem mX12_grist {l : Launch} {E : EE} {base : Nat} (x1 : Int32) (x2 : Int32) (σ : St) (Q : Int32 → St → Prop) (h : wX12_grist x1 x2 σ Q) : Met l yX12_grist (wy yX12_grist cX12_grist 3 (some .int)) rmX12_grist (va_Pc [.ref (ga E 11), .int x1, .int x2] (fun U => SW E base σ U)) (QI E base Q) (rmX12_grist).cells (rmX12_grist).slots (fun q => base ≤ q) :=
  met_of (by decide) (Nat.le_of_ble_eq_true rfl) (fun p e s m args below meth c C hr g ls hl => tX12_grist_e C hr x1 x2 _ _ _ _ hl g h)
abbrev rmX12_knows : Room := { frames := 0, cells := 0, slots := 0, locals := 0 }
def wX12_knows_24 (Q : St → Prop) : Nat → Int32 → Int32 → St → Prop
  | 0, _, _, _ => False
  | n + 1, x1, x2, σ => ((x1 ≤ x2 → Q σ) ∧ (¬ (x1 ≤ x2) → vp_in x2 400 ∧ vp_in x2 400 ∧ vp_in x2 400 ∧ vp_in (((7 : Int32) * (gv σ 78 x2.toNatClampNeg)) + (gv σ 79 x2.toNatClampNeg)) 1680 ∧ ∀ σ6 : St, σ6 = pv σ 89 (((7 : Int32) * (gv σ 78 x2.toNatClampNeg)) + (gv σ 79 x2.toNatClampNeg)).toNatClampNeg (gv σ 80 x2.toNatClampNeg) → ∀ x2_7 : Int32, x2_7 = x2 + 1 → wX12_knows_24 Q n x1 x2_7 σ6))
def wX12_knows_2 (Q : St → Prop) : Nat → Int32 → Int32 → St → Prop
  | 0, _, _, _ => False
  | n + 1, x1, x2, σ => (((1680 : Int32) ≤ x2 → ∃ j : Nat, wX12_knows_24 Q j x1 (0 : Int32) σ) ∧ (¬ ((1680 : Int32) ≤ x2) → vp_in x2 1680 ∧ ∀ σ3 : St, σ3 = pv σ 89 x2.toNatClampNeg (0 : Int32) → ∀ x2_4 : Int32, x2_4 = x2 + 1 → wX12_knows_2 Q n x1 x2_4 σ3))
def wX12_knows (x1 : Int32) (σ : St) (Q : St → Prop) : Prop := ∃ j : Nat, wX12_knows_2 Q j x1 (0 : Int32) σ
set_option maxHeartbeats 4000000 in
set_option maxRecDepth 100000 in
theorem tX12_knows_24 {p : Program} {l : Launch} {e : Env} {s : State} {m : MethodId} {args : Array Value} {below : List Frame} {meth : Method} {c : Code} {E : EE} {base : Nat} (C : Cx p E base s m args meth c cX12_knows 3 RX12) (hr : meth.sig.returnType = none) {Q : St → Prop} : ∀ (n : Nat) (x1 : Int32) (x2 : Int32) (σ : St) (H : Heap) (locs : List Loc) (ls : Array Slot), lv_has ls 3 [(0, .ref (ga E 11)), (1, .int x1), (2, .int x2)] → GW E base s σ H locs → wX12_knows_24 Q n x1 x2 σ → W p l e rmX12_knows s m args below meth c H locs 0 0 (MQ below (QV E base Q) args s 0 0 (fun q => base ≤ q)) (F0 m 24 ls []) := by
  intro n
  induction n with
  | zero => intro _ _; intros; exact False.elim (by assumption)
  | succ n ih =>
    intro x1 x2 σ H locs ls hl g h
    refine lv_iload_n C.1 C.2.1 dX12_knows_24 rfl (lv_at hl 2 rfl) ?_
    refine lv_iload_n C.1 C.2.1 dX12_knows_25 rfl (lv_at hl 1 rfl) ?_
    refine lv_icmp_ge (tgt := 62) C.1 C.2.1 dX12_knows_26 (by decide) (fun c1 => ?_) (fun c1 => ?_)
    · have h := h.1 c1
      exact gx_vret C hr g dX12_knows_62 h
    · have h := h.2 c1
      refine lv_aload_n C.1 C.2.1 dX12_knows_29 rfl (lv_at hl 0 rfl) ?_
      refine gx_getR C g fl_X12_149 dX12_knows_30 sh_11 rfl (by decide) ?_
      refine lv_bipush (v := 7) C.1 C.2.1 dX12_knows_33 (by decide) ?_
      refine lv_aload_n C.1 C.2.1 dX12_knows_35 rfl (lv_at hl 0 rfl) ?_
      refine gx_getR C g fl_X12_110 dX12_knows_36 sh_11 rfl (by decide) ?_
      refine lv_iload_n C.1 C.2.1 dX12_knows_39 rfl (lv_at hl 2 rfl) ?_
      obtain ⟨i2, h⟩ := h
      refine gx_iald C g dX12_knows_40 sh_78 i2 ?_
      refine lv_imul C.1 C.2.1 dX12_knows_41 ?_
      refine lv_aload_n C.1 C.2.1 dX12_knows_42 rfl (lv_at hl 0 rfl) ?_
      refine gx_getR C g fl_X12_113 dX12_knows_43 sh_11 rfl (by decide) ?_
      refine lv_iload_n C.1 C.2.1 dX12_knows_46 rfl (lv_at hl 2 rfl) ?_
      obtain ⟨i3, h⟩ := h
      refine gx_iald C g dX12_knows_47 sh_79 i3 ?_
      refine lv_iadd C.1 C.2.1 dX12_knows_48 ?_
      refine lv_aload_n C.1 C.2.1 dX12_knows_49 rfl (lv_at hl 0 rfl) ?_
      refine gx_getR C g fl_X12_116 dX12_knows_50 sh_11 rfl (by decide) ?_
      refine lv_iload_n C.1 C.2.1 dX12_knows_53 rfl (lv_at hl 2 rfl) ?_
      obtain ⟨i4, h⟩ := h
      refine gx_iald C g dX12_knows_54 sh_80 i4 ?_
      obtain ⟨i5, h⟩ := h
      refine gx_iast C g dX12_knows_55 sh_89 i5 (fun H locs σ6 eσ6 g => ?_)
      have h := h σ6 eσ6
      obtain ⟨x2_7, ex2_7⟩ : ∃ y : Int32, y = x2 + 1 := ⟨_, rfl⟩
      have h := h x2_7 ex2_7
      refine lv_iinc (v := x2_7) (lv' := [(2, .int x2_7), (0, .ref (ga E 11)), (1, .int x1)]) C.1 C.2.1 dX12_knows_56 hl (k := 2) rfl (by rw [ex2_7]; rfl) (by decide) rfl (fun ls hl => ?_)
      refine lv_goto (tgt := 24) C.1 C.2.1 dX12_knows_59 (by decide) ?_
      exact ih x1 x2_7 _ _ _ _ (lv_sub hl [1, 2, 0] rfl) g h
set_option maxHeartbeats 4000000 in
set_option maxRecDepth 100000 in
theorem tX12_knows_2 {p : Program} {l : Launch} {e : Env} {s : State} {m : MethodId} {args : Array Value} {below : List Frame} {meth : Method} {c : Code} {E : EE} {base : Nat} (C : Cx p E base s m args meth c cX12_knows 3 RX12) (hr : meth.sig.returnType = none) {Q : St → Prop} : ∀ (n : Nat) (x1 : Int32) (x2 : Int32) (σ : St) (H : Heap) (locs : List Loc) (ls : Array Slot), lv_has ls 3 [(0, .ref (ga E 11)), (1, .int x1), (2, .int x2)] → GW E base s σ H locs → wX12_knows_2 Q n x1 x2 σ → W p l e rmX12_knows s m args below meth c H locs 0 0 (MQ below (QV E base Q) args s 0 0 (fun q => base ≤ q)) (F0 m 2 ls []) := by
  intro n
  induction n with
  | zero => intro _ _; intros; exact False.elim (by assumption)
  | succ n ih =>
    intro x1 x2 σ H locs ls hl g h
    refine lv_iload_n C.1 C.2.1 dX12_knows_2 rfl (lv_at hl 2 rfl) ?_
    refine lv_sipush (v := 1680) C.1 C.2.1 dX12_knows_3 (by decide) ?_
    refine lv_icmp_ge (tgt := 22) C.1 C.2.1 dX12_knows_6 (by decide) (fun c1 => ?_) (fun c1 => ?_)
    · have h := h.1 c1
      refine lv_iconst (v := 0) C.1 C.2.1 dX12_knows_22 (by decide) ?_
      refine lv_istore_n (lv' := [(2, .int (0 : Int32)), (0, .ref (ga E 11)), (1, .int x1)]) C.1 C.2.1 dX12_knows_23 rfl hl (by decide) rfl (fun ls hl => ?_)
      obtain ⟨j, h⟩ := h
      exact tX12_knows_24 C hr j x1 (0 : Int32) _ _ _ _ (lv_sub hl [1, 2, 0] rfl) g h
    · have h := h.2 c1
      refine lv_aload_n C.1 C.2.1 dX12_knows_9 rfl (lv_at hl 0 rfl) ?_
      refine gx_getR C g fl_X12_149 dX12_knows_10 sh_11 rfl (by decide) ?_
      refine lv_iload_n C.1 C.2.1 dX12_knows_13 rfl (lv_at hl 2 rfl) ?_
      refine lv_iconst (v := 0) C.1 C.2.1 dX12_knows_14 (by decide) ?_
      obtain ⟨i2, h⟩ := h
      refine gx_iast C g dX12_knows_15 sh_89 i2 (fun H locs σ3 eσ3 g => ?_)
      have h := h σ3 eσ3
      obtain ⟨x2_4, ex2_4⟩ : ∃ y : Int32, y = x2 + 1 := ⟨_, rfl⟩
      have h := h x2_4 ex2_4
      refine lv_iinc (v := x2_4) (lv' := [(2, .int x2_4), (0, .ref (ga E 11)), (1, .int x1)]) C.1 C.2.1 dX12_knows_16 hl (k := 2) rfl (by rw [ex2_4]; rfl) (by decide) rfl (fun ls hl => ?_)
      refine lv_goto (tgt := 2) C.1 C.2.1 dX12_knows_19 (by decide) ?_
      exact ih x1 x2_4 _ _ _ _ (lv_sub hl [1, 2, 0] rfl) g h
set_option maxHeartbeats 4000000 in
set_option maxRecDepth 100000 in
theorem tX12_knows_e {p : Program} {l : Launch} {e : Env} {s : State} {m : MethodId} {args : Array Value} {below : List Frame} {meth : Method} {c : Code} {E : EE} {base : Nat} (C : Cx p E base s m args meth c cX12_knows 3 RX12) (hr : meth.sig.returnType = none) {Q : St → Prop} : ∀ (x1 : Int32) (σ : St) (H : Heap) (locs : List Loc) (ls : Array Slot), lv_has ls 3 [(0, .ref (ga E 11)), (1, .int x1)] → GW E base s σ H locs → wX12_knows x1 σ Q → W p l e rmX12_knows s m args below meth c H locs 0 0 (MQ below (QV E base Q) args s 0 0 (fun q => base ≤ q)) (F0 m 0 ls []) := by
  intro x1 σ H locs ls hl g h
  refine lv_iconst (v := 0) C.1 C.2.1 dX12_knows_0 (by decide) ?_
  refine lv_istore_n (lv' := [(2, .int (0 : Int32)), (0, .ref (ga E 11)), (1, .int x1)]) C.1 C.2.1 dX12_knows_1 rfl hl (by decide) rfl (fun ls hl => ?_)
  obtain ⟨j, h⟩ := h
  exact tX12_knows_2 C hr j x1 (0 : Int32) _ _ _ _ (lv_sub hl [1, 2, 0] rfl) g h
theorem mX12_knows {l : Launch} {E : EE} {base : Nat} (x1 : Int32) (σ : St) (Q : St → Prop) (h : wX12_knows x1 σ Q) : Met l yX12_knows (wy yX12_knows cX12_knows 3 none) rmX12_knows (va_Pc [.ref (ga E 11), .int x1] (fun U => SW E base σ U)) (QV E base Q) (rmX12_knows).cells (rmX12_knows).slots (fun q => base ≤ q) :=
  met_of (by decide) (Nat.le_of_ble_eq_true rfl) (fun p e s m args below meth c C hr g ls hl => tX12_knows_e C hr x1 _ _ _ _ hl g h)
abbrev rmX12_sets : Room := { frames := 0, cells := 0, slots := 0, locals := 0 }
def wX12_sets_97 (Q : St → Prop) (K25 : Int32 → Int32 → Int32 → St → Prop) : Nat → Int32 → Int32 → Int32 → Int32 → St → Prop
  | 0, _, _, _, _, _ => False
  | n + 1, x1, x2, x3, x4, σ => (((14 : Int32) ≤ x4 → ∀ x3_2 : Int32, x3_2 = x3 + 1 → K25 x1 x2 x3_2 σ) ∧ (¬ ((14 : Int32) ≤ x4) → vp_in x4 14 ∧ vp_in (((14 : Int32) * x3) + x4) 3360 ∧ ∀ σ5 : St, σ5 = pv σ 90 (((14 : Int32) * x3) + x4).toNatClampNeg (gv σ 91 x4.toNatClampNeg) → ∀ x4_6 : Int32, x4_6 = x4 + 1 → wX12_sets_97 Q K25 n x1 x2 x3 x4_6 σ5))
def wX12_sets_94 (Q : St → Prop) (K25 : Int32 → Int32 → Int32 → St → Prop) (x1 : Int32) (x2 : Int32) (x3 : Int32) (σ : St) : Prop := ∃ j : Nat, wX12_sets_97 Q K25 j x1 x2 x3 (0 : Int32) σ
def wX12_sets_88 (Q : St → Prop) (K25 : Int32 → Int32 → Int32 → St → Prop) (K32 : Int32 → Int32 → Int32 → St → Prop) (x1 : Int32) (x2 : Int32) (x3 : Int32) (σ : St) : Prop := ∀ x2_1 : Int32, x2_1 = x2 + 1 → K32 x1 x2_1 x3 σ
def wX12_sets_80 (Q : St → Prop) (K25 : Int32 → Int32 → Int32 → St → Prop) (K32 : Int32 → Int32 → Int32 → St → Prop) (x1 : Int32) (x2 : Int32) (x3 : Int32) (xt1 : Int32) (xt2 : Int32) (σ : St) : Prop := vp_in x2 200 ∧ vp_in (xt1 + xt2) 14 ∧ ∀ σ3 : St, σ3 = pv σ 91 (xt1 + xt2).toNatClampNeg (gv σ 84 x2.toNatClampNeg) → wX12_sets_88 Q K25 K32 x1 x2 x3 σ3
def wX12_sets_32 (Q : St → Prop) (K25 : Int32 → Int32 → Int32 → St → Prop) : Nat → Int32 → Int32 → Int32 → St → Prop
  | 0, _, _, _, _ => False
  | n + 1, x1, x2, x3, σ => (((gv σ 11 56) ≤ x2 → wX12_sets_94 Q K25 x1 x2 x3 σ) ∧ (¬ ((gv σ 11 56) ≤ x2) → vp_in x2 200 ∧ ((x3 < (gv σ 81 x2.toNatClampNeg) → wX12_sets_94 Q K25 x1 x2 x3 σ) ∧ (¬ (x3 < (gv σ 81 x2.toNatClampNeg)) → ((x2 = x1 → wX12_sets_88 Q K25 (fun x1' x2' x3' σ' => wX12_sets_32 Q K25 n x1' x2' x3' σ') x1 x2 x3 σ) ∧ (¬ (x2 = x1) → vp_in x2 200 ∧ vp_in x2 200 ∧ (((gv σ 83 x2.toNatClampNeg) = 0 → wX12_sets_80 Q K25 (fun x1' x2' x3' σ' => wX12_sets_32 Q K25 n x1' x2' x3' σ') x1 x2 x3 (gv σ 82 x2.toNatClampNeg) (0 : Int32) σ) ∧ (¬ ((gv σ 83 x2.toNatClampNeg) = 0) → wX12_sets_80 Q K25 (fun x1' x2' x3' σ' => wX12_sets_32 Q K25 n x1' x2' x3' σ') x1 x2 x3 (gv σ 82 x2.toNatClampNeg) (7 : Int32) σ))))))))
def wX12_sets_25 (Q : St → Prop) : Nat → Int32 → Int32 → Int32 → St → Prop
  | 0, _, _, _, _ => False
  | n + 1, x1, x2, x3, σ => (((240 : Int32) ≤ x3 → Q σ) ∧ (¬ ((240 : Int32) ≤ x3) → ∃ j : Nat, wX12_sets_32 Q (fun x1' x2' x3' σ' => wX12_sets_25 Q n x1' x2' x3' σ') j x1 x2 x3 σ))
def wX12_sets_2 (Q : St → Prop) : Nat → Int32 → Int32 → St → Prop
  | 0, _, _, _ => False
  | n + 1, x1, x2, σ => (((14 : Int32) ≤ x2 → ∃ j : Nat, wX12_sets_25 Q j x1 (0 : Int32) (0 : Int32) σ) ∧ (¬ ((14 : Int32) ≤ x2) → vp_in x2 14 ∧ ∀ σ3 : St, σ3 = pv σ 91 x2.toNatClampNeg (0 : Int32) → ∀ x2_4 : Int32, x2_4 = x2 + 1 → wX12_sets_2 Q n x1 x2_4 σ3))
def wX12_sets (x1 : Int32) (σ : St) (Q : St → Prop) : Prop := ∃ j : Nat, wX12_sets_2 Q j x1 (0 : Int32) σ
set_option maxHeartbeats 4000000 in
set_option maxRecDepth 100000 in
theorem tX12_sets_97 {p : Program} {l : Launch} {e : Env} {s : State} {m : MethodId} {args : Array Value} {below : List Frame} {meth : Method} {c : Code} {E : EE} {base : Nat} (C : Cx p E base s m args meth c cX12_sets 5 RX12) (hr : meth.sig.returnType = none) {Q : St → Prop} {K25 : Int32 → Int32 → Int32 → St → Prop} (hK25 : ∀ (x1 : Int32) (x2 : Int32) (x3 : Int32) (σ : St) (H : Heap) (locs : List Loc) (ls : Array Slot), lv_has ls 5 [(0, .ref (ga E 11)), (1, .int x1), (2, .int x2), (3, .int x3)] → GW E base s σ H locs → K25 x1 x2 x3 σ → W p l e rmX12_sets s m args below meth c H locs 0 0 (MQ below (QV E base Q) args s 0 0 (fun q => base ≤ q)) (F0 m 25 ls [])) : ∀ (n : Nat) (x1 : Int32) (x2 : Int32) (x3 : Int32) (x4 : Int32) (σ : St) (H : Heap) (locs : List Loc) (ls : Array Slot), lv_has ls 5 [(0, .ref (ga E 11)), (1, .int x1), (2, .int x2), (3, .int x3), (4, .int x4)] → GW E base s σ H locs → wX12_sets_97 Q K25 n x1 x2 x3 x4 σ → W p l e rmX12_sets s m args below meth c H locs 0 0 (MQ below (QV E base Q) args s 0 0 (fun q => base ≤ q)) (F0 m 97 ls []) := by
  intro n
  induction n with
  | zero => intro _ _ _ _; intros; exact False.elim (by assumption)
  | succ n ih =>
    intro x1 x2 x3 x4 σ H locs ls hl g h
    refine lv_iload C.1 C.2.1 dX12_sets_97 (lv_at hl 4 rfl) ?_
    refine lv_bipush (v := 14) C.1 C.2.1 dX12_sets_99 (by decide) ?_
    refine lv_icmp_ge (tgt := 129) C.1 C.2.1 dX12_sets_101 (by decide) (fun c1 => ?_) (fun c1 => ?_)
    · have h := h.1 c1
      obtain ⟨x3_2, ex3_2⟩ : ∃ y : Int32, y = x3 + 1 := ⟨_, rfl⟩
      have h := h x3_2 ex3_2
      refine lv_iinc (v := x3_2) (lv' := [(3, .int x3_2), (0, .ref (ga E 11)), (1, .int x1), (2, .int x2), (4, .int x4)]) C.1 C.2.1 dX12_sets_129 hl (k := 3) rfl (by rw [ex3_2]; rfl) (by decide) rfl (fun ls hl => ?_)
      refine lv_goto (tgt := 25) C.1 C.2.1 dX12_sets_132 (by decide) ?_
      exact hK25 x1 x2 x3_2 _ _ _ _ (lv_sub hl [1, 2, 3, 0] rfl) g h
    · have h := h.2 c1
      refine lv_aload_n C.1 C.2.1 dX12_sets_104 rfl (lv_at hl 0 rfl) ?_
      refine gx_getR C g fl_X12_152 dX12_sets_105 sh_11 rfl (by decide) ?_
      refine lv_bipush (v := 14) C.1 C.2.1 dX12_sets_108 (by decide) ?_
      refine lv_iload_n C.1 C.2.1 dX12_sets_110 rfl (lv_at hl 3 rfl) ?_
      refine lv_imul C.1 C.2.1 dX12_sets_111 ?_
      refine lv_iload C.1 C.2.1 dX12_sets_112 (lv_at hl 4 rfl) ?_
      refine lv_iadd C.1 C.2.1 dX12_sets_114 ?_
      refine lv_aload_n C.1 C.2.1 dX12_sets_115 rfl (lv_at hl 0 rfl) ?_
      refine gx_getR C g fl_X12_155 dX12_sets_116 sh_11 rfl (by decide) ?_
      refine lv_iload C.1 C.2.1 dX12_sets_119 (lv_at hl 4 rfl) ?_
      obtain ⟨i3, h⟩ := h
      refine gx_iald C g dX12_sets_121 sh_91 i3 ?_
      obtain ⟨i4, h⟩ := h
      refine gx_iast C g dX12_sets_122 sh_90 i4 (fun H locs σ5 eσ5 g => ?_)
      have h := h σ5 eσ5
      obtain ⟨x4_6, ex4_6⟩ : ∃ y : Int32, y = x4 + 1 := ⟨_, rfl⟩
      have h := h x4_6 ex4_6
      refine lv_iinc (v := x4_6) (lv' := [(4, .int x4_6), (0, .ref (ga E 11)), (1, .int x1), (2, .int x2), (3, .int x3)]) C.1 C.2.1 dX12_sets_123 hl (k := 4) rfl (by rw [ex4_6]; rfl) (by decide) rfl (fun ls hl => ?_)
      refine lv_goto (tgt := 97) C.1 C.2.1 dX12_sets_126 (by decide) ?_
      exact ih x1 x2 x3 x4_6 _ _ _ _ (lv_sub hl [1, 2, 3, 4, 0] rfl) g h
set_option maxHeartbeats 4000000 in
set_option maxRecDepth 100000 in
theorem tX12_sets_94 {p : Program} {l : Launch} {e : Env} {s : State} {m : MethodId} {args : Array Value} {below : List Frame} {meth : Method} {c : Code} {E : EE} {base : Nat} (C : Cx p E base s m args meth c cX12_sets 5 RX12) (hr : meth.sig.returnType = none) {Q : St → Prop} {K25 : Int32 → Int32 → Int32 → St → Prop} (hK25 : ∀ (x1 : Int32) (x2 : Int32) (x3 : Int32) (σ : St) (H : Heap) (locs : List Loc) (ls : Array Slot), lv_has ls 5 [(0, .ref (ga E 11)), (1, .int x1), (2, .int x2), (3, .int x3)] → GW E base s σ H locs → K25 x1 x2 x3 σ → W p l e rmX12_sets s m args below meth c H locs 0 0 (MQ below (QV E base Q) args s 0 0 (fun q => base ≤ q)) (F0 m 25 ls [])) : ∀ (x1 : Int32) (x2 : Int32) (x3 : Int32) (σ : St) (H : Heap) (locs : List Loc) (ls : Array Slot), lv_has ls 5 [(0, .ref (ga E 11)), (1, .int x1), (2, .int x2), (3, .int x3)] → GW E base s σ H locs → wX12_sets_94 Q K25 x1 x2 x3 σ → W p l e rmX12_sets s m args below meth c H locs 0 0 (MQ below (QV E base Q) args s 0 0 (fun q => base ≤ q)) (F0 m 94 ls []) := by
  intro x1 x2 x3 σ H locs ls hl g h
  refine lv_iconst (v := 0) C.1 C.2.1 dX12_sets_94 (by decide) ?_
  refine lv_istore (lv' := [(4, .int (0 : Int32)), (0, .ref (ga E 11)), (1, .int x1), (2, .int x2), (3, .int x3)]) C.1 C.2.1 dX12_sets_95 hl (by decide) rfl (fun ls hl => ?_)
  obtain ⟨j, h⟩ := h
  exact tX12_sets_97 C hr hK25 j x1 x2 x3 (0 : Int32) _ _ _ _ (lv_sub hl [1, 2, 3, 4, 0] rfl) g h
set_option maxHeartbeats 4000000 in
set_option maxRecDepth 100000 in
theorem tX12_sets_88 {p : Program} {l : Launch} {e : Env} {s : State} {m : MethodId} {args : Array Value} {below : List Frame} {meth : Method} {c : Code} {E : EE} {base : Nat} (C : Cx p E base s m args meth c cX12_sets 5 RX12) (hr : meth.sig.returnType = none) {Q : St → Prop} {K25 : Int32 → Int32 → Int32 → St → Prop} (hK25 : ∀ (x1 : Int32) (x2 : Int32) (x3 : Int32) (σ : St) (H : Heap) (locs : List Loc) (ls : Array Slot), lv_has ls 5 [(0, .ref (ga E 11)), (1, .int x1), (2, .int x2), (3, .int x3)] → GW E base s σ H locs → K25 x1 x2 x3 σ → W p l e rmX12_sets s m args below meth c H locs 0 0 (MQ below (QV E base Q) args s 0 0 (fun q => base ≤ q)) (F0 m 25 ls [])) {K32 : Int32 → Int32 → Int32 → St → Prop} (hK32 : ∀ (x1 : Int32) (x2 : Int32) (x3 : Int32) (σ : St) (H : Heap) (locs : List Loc) (ls : Array Slot), lv_has ls 5 [(0, .ref (ga E 11)), (1, .int x1), (2, .int x2), (3, .int x3)] → GW E base s σ H locs → K32 x1 x2 x3 σ → W p l e rmX12_sets s m args below meth c H locs 0 0 (MQ below (QV E base Q) args s 0 0 (fun q => base ≤ q)) (F0 m 32 ls [])) : ∀ (x1 : Int32) (x2 : Int32) (x3 : Int32) (σ : St) (H : Heap) (locs : List Loc) (ls : Array Slot), lv_has ls 5 [(0, .ref (ga E 11)), (1, .int x1), (2, .int x2), (3, .int x3)] → GW E base s σ H locs → wX12_sets_88 Q K25 K32 x1 x2 x3 σ → W p l e rmX12_sets s m args below meth c H locs 0 0 (MQ below (QV E base Q) args s 0 0 (fun q => base ≤ q)) (F0 m 88 ls []) := by
  intro x1 x2 x3 σ H locs ls hl g h
  obtain ⟨x2_1, ex2_1⟩ : ∃ y : Int32, y = x2 + 1 := ⟨_, rfl⟩
  have h := h x2_1 ex2_1
  refine lv_iinc (v := x2_1) (lv' := [(2, .int x2_1), (0, .ref (ga E 11)), (1, .int x1), (3, .int x3)]) C.1 C.2.1 dX12_sets_88 hl (k := 2) rfl (by rw [ex2_1]; rfl) (by decide) rfl (fun ls hl => ?_)
  refine lv_goto (tgt := 32) C.1 C.2.1 dX12_sets_91 (by decide) ?_
  exact hK32 x1 x2_1 x3 _ _ _ _ (lv_sub hl [1, 2, 0, 3] rfl) g h
set_option maxHeartbeats 4000000 in
set_option maxRecDepth 100000 in
theorem tX12_sets_80 {p : Program} {l : Launch} {e : Env} {s : State} {m : MethodId} {args : Array Value} {below : List Frame} {meth : Method} {c : Code} {E : EE} {base : Nat} (C : Cx p E base s m args meth c cX12_sets 5 RX12) (hr : meth.sig.returnType = none) {Q : St → Prop} {K25 : Int32 → Int32 → Int32 → St → Prop} (hK25 : ∀ (x1 : Int32) (x2 : Int32) (x3 : Int32) (σ : St) (H : Heap) (locs : List Loc) (ls : Array Slot), lv_has ls 5 [(0, .ref (ga E 11)), (1, .int x1), (2, .int x2), (3, .int x3)] → GW E base s σ H locs → K25 x1 x2 x3 σ → W p l e rmX12_sets s m args below meth c H locs 0 0 (MQ below (QV E base Q) args s 0 0 (fun q => base ≤ q)) (F0 m 25 ls [])) {K32 : Int32 → Int32 → Int32 → St → Prop} (hK32 : ∀ (x1 : Int32) (x2 : Int32) (x3 : Int32) (σ : St) (H : Heap) (locs : List Loc) (ls : Array Slot), lv_has ls 5 [(0, .ref (ga E 11)), (1, .int x1), (2, .int x2), (3, .int x3)] → GW E base s σ H locs → K32 x1 x2 x3 σ → W p l e rmX12_sets s m args below meth c H locs 0 0 (MQ below (QV E base Q) args s 0 0 (fun q => base ≤ q)) (F0 m 32 ls [])) : ∀ (x1 : Int32) (x2 : Int32) (x3 : Int32) (xt1 : Int32) (xt2 : Int32) (σ : St) (H : Heap) (locs : List Loc) (ls : Array Slot), lv_has ls 5 [(0, .ref (ga E 11)), (1, .int x1), (2, .int x2), (3, .int x3)] → GW E base s σ H locs → wX12_sets_80 Q K25 K32 x1 x2 x3 xt1 xt2 σ → W p l e rmX12_sets s m args below meth c H locs 0 0 (MQ below (QV E base Q) args s 0 0 (fun q => base ≤ q)) (F0 m 80 ls [.int xt2, .int xt1, .ref (ga E 91)]) := by
  intro x1 x2 x3 xt1 xt2 σ H locs ls hl g h
  refine lv_iadd C.1 C.2.1 dX12_sets_80 ?_
  refine lv_aload_n C.1 C.2.1 dX12_sets_81 rfl (lv_at hl 0 rfl) ?_
  refine gx_getR C g fl_X12_128 dX12_sets_82 sh_11 rfl (by decide) ?_
  refine lv_iload_n C.1 C.2.1 dX12_sets_85 rfl (lv_at hl 2 rfl) ?_
  obtain ⟨i1, h⟩ := h
  refine gx_iald C g dX12_sets_86 sh_84 i1 ?_
  obtain ⟨i2, h⟩ := h
  refine gx_iast C g dX12_sets_87 sh_91 i2 (fun H locs σ3 eσ3 g => ?_)
  have h := h σ3 eσ3
  exact tX12_sets_88 C hr hK25 hK32 x1 x2 x3 _ _ _ _ (lv_sub hl [0, 1, 2, 3] rfl) g h
set_option maxHeartbeats 4000000 in
set_option maxRecDepth 100000 in
theorem tX12_sets_32 {p : Program} {l : Launch} {e : Env} {s : State} {m : MethodId} {args : Array Value} {below : List Frame} {meth : Method} {c : Code} {E : EE} {base : Nat} (C : Cx p E base s m args meth c cX12_sets 5 RX12) (hr : meth.sig.returnType = none) {Q : St → Prop} {K25 : Int32 → Int32 → Int32 → St → Prop} (hK25 : ∀ (x1 : Int32) (x2 : Int32) (x3 : Int32) (σ : St) (H : Heap) (locs : List Loc) (ls : Array Slot), lv_has ls 5 [(0, .ref (ga E 11)), (1, .int x1), (2, .int x2), (3, .int x3)] → GW E base s σ H locs → K25 x1 x2 x3 σ → W p l e rmX12_sets s m args below meth c H locs 0 0 (MQ below (QV E base Q) args s 0 0 (fun q => base ≤ q)) (F0 m 25 ls [])) : ∀ (n : Nat) (x1 : Int32) (x2 : Int32) (x3 : Int32) (σ : St) (H : Heap) (locs : List Loc) (ls : Array Slot), lv_has ls 5 [(0, .ref (ga E 11)), (1, .int x1), (2, .int x2), (3, .int x3)] → GW E base s σ H locs → wX12_sets_32 Q K25 n x1 x2 x3 σ → W p l e rmX12_sets s m args below meth c H locs 0 0 (MQ below (QV E base Q) args s 0 0 (fun q => base ≤ q)) (F0 m 32 ls []) := by
  intro n
  induction n with
  | zero => intro _ _ _; intros; exact False.elim (by assumption)
  | succ n ih =>
    intro x1 x2 x3 σ H locs ls hl g h
    refine lv_iload_n C.1 C.2.1 dX12_sets_32 rfl (lv_at hl 2 rfl) ?_
    refine lv_aload_n C.1 C.2.1 dX12_sets_33 rfl (lv_at hl 0 rfl) ?_
    refine gx_getI C g fl_X12_322 dX12_sets_34 sh_11 rfl ?_
    refine lv_icmp_ge (tgt := 94) C.1 C.2.1 dX12_sets_37 (by decide) (fun c1 => ?_) (fun c1 => ?_)
    · have h := h.1 c1
      exact tX12_sets_94 C hr hK25 x1 x2 x3 _ _ _ _ (lv_sub hl [0, 1, 2, 3] rfl) g h
    · have h := h.2 c1
      refine lv_aload_n C.1 C.2.1 dX12_sets_40 rfl (lv_at hl 0 rfl) ?_
      refine gx_getR C g fl_X12_119 dX12_sets_41 sh_11 rfl (by decide) ?_
      refine lv_iload_n C.1 C.2.1 dX12_sets_44 rfl (lv_at hl 2 rfl) ?_
      obtain ⟨i2, h⟩ := h
      refine gx_iald C g dX12_sets_45 sh_81 i2 ?_
      refine lv_iload_n C.1 C.2.1 dX12_sets_46 rfl (lv_at hl 3 rfl) ?_
      refine lv_icmp_gt (tgt := 94) C.1 C.2.1 dX12_sets_47 (by decide) (fun c3 => ?_) (fun c3 => ?_)
      · have h := h.1 c3
        exact tX12_sets_94 C hr hK25 x1 x2 x3 _ _ _ _ (lv_sub hl [0, 1, 2, 3] rfl) g h
      · have h := h.2 c3
        refine lv_iload_n C.1 C.2.1 dX12_sets_50 rfl (lv_at hl 2 rfl) ?_
        refine lv_iload_n C.1 C.2.1 dX12_sets_51 rfl (lv_at hl 1 rfl) ?_
        refine lv_icmp_eq (tgt := 88) C.1 C.2.1 dX12_sets_52 (by decide) (fun c4 => ?_) (fun c4 => ?_)
        · have h := h.1 c4
          exact tX12_sets_88 C hr hK25 ih x1 x2 x3 _ _ _ _ (lv_sub hl [0, 1, 2, 3] rfl) g h
        · have h := h.2 c4
          refine lv_aload_n C.1 C.2.1 dX12_sets_55 rfl (lv_at hl 0 rfl) ?_
          refine gx_getR C g fl_X12_155 dX12_sets_56 sh_11 rfl (by decide) ?_
          refine lv_aload_n C.1 C.2.1 dX12_sets_59 rfl (lv_at hl 0 rfl) ?_
          refine gx_getR C g fl_X12_122 dX12_sets_60 sh_11 rfl (by decide) ?_
          refine lv_iload_n C.1 C.2.1 dX12_sets_63 rfl (lv_at hl 2 rfl) ?_
          obtain ⟨i5, h⟩ := h
          refine gx_iald C g dX12_sets_64 sh_82 i5 ?_
          refine lv_aload_n C.1 C.2.1 dX12_sets_65 rfl (lv_at hl 0 rfl) ?_
          refine gx_getR C g fl_X12_125 dX12_sets_66 sh_11 rfl (by decide) ?_
          refine lv_iload_n C.1 C.2.1 dX12_sets_69 rfl (lv_at hl 2 rfl) ?_
          obtain ⟨i6, h⟩ := h
          refine gx_zald C g dX12_sets_70 sh_83 i6 ?_
          refine lv_if_eq (tgt := 79) C.1 C.2.1 dX12_sets_71 (by decide) (fun c7 => ?_) (fun c7 => ?_)
          · have h := h.1 c7
            refine lv_iconst (v := 0) C.1 C.2.1 dX12_sets_79 (by decide) ?_
            exact tX12_sets_80 C hr hK25 ih x1 x2 x3 (gv σ 82 x2.toNatClampNeg) (0 : Int32) _ _ _ _ (lv_sub hl [0, 1, 2, 3] rfl) g h
          · have h := h.2 c7
            refine lv_bipush (v := 7) C.1 C.2.1 dX12_sets_74 (by decide) ?_
            refine lv_goto (tgt := 80) C.1 C.2.1 dX12_sets_76 (by decide) ?_
            exact tX12_sets_80 C hr hK25 ih x1 x2 x3 (gv σ 82 x2.toNatClampNeg) (7 : Int32) _ _ _ _ (lv_sub hl [0, 1, 2, 3] rfl) g h
set_option maxHeartbeats 4000000 in
set_option maxRecDepth 100000 in
theorem tX12_sets_25 {p : Program} {l : Launch} {e : Env} {s : State} {m : MethodId} {args : Array Value} {below : List Frame} {meth : Method} {c : Code} {E : EE} {base : Nat} (C : Cx p E base s m args meth c cX12_sets 5 RX12) (hr : meth.sig.returnType = none) {Q : St → Prop} : ∀ (n : Nat) (x1 : Int32) (x2 : Int32) (x3 : Int32) (σ : St) (H : Heap) (locs : List Loc) (ls : Array Slot), lv_has ls 5 [(0, .ref (ga E 11)), (1, .int x1), (2, .int x2), (3, .int x3)] → GW E base s σ H locs → wX12_sets_25 Q n x1 x2 x3 σ → W p l e rmX12_sets s m args below meth c H locs 0 0 (MQ below (QV E base Q) args s 0 0 (fun q => base ≤ q)) (F0 m 25 ls []) := by
  intro n
  induction n with
  | zero => intro _ _ _; intros; exact False.elim (by assumption)
  | succ n ih =>
    intro x1 x2 x3 σ H locs ls hl g h
    refine lv_iload_n C.1 C.2.1 dX12_sets_25 rfl (lv_at hl 3 rfl) ?_
    refine lv_sipush (v := 240) C.1 C.2.1 dX12_sets_26 (by decide) ?_
    refine lv_icmp_ge (tgt := 135) C.1 C.2.1 dX12_sets_29 (by decide) (fun c1 => ?_) (fun c1 => ?_)
    · have h := h.1 c1
      exact gx_vret C hr g dX12_sets_135 h
    · have h := h.2 c1
      obtain ⟨j, h⟩ := h
      exact tX12_sets_32 C hr ih j x1 x2 x3 _ _ _ _ (lv_sub hl [0, 1, 2, 3] rfl) g h
set_option maxHeartbeats 4000000 in
set_option maxRecDepth 100000 in
theorem tX12_sets_2 {p : Program} {l : Launch} {e : Env} {s : State} {m : MethodId} {args : Array Value} {below : List Frame} {meth : Method} {c : Code} {E : EE} {base : Nat} (C : Cx p E base s m args meth c cX12_sets 5 RX12) (hr : meth.sig.returnType = none) {Q : St → Prop} : ∀ (n : Nat) (x1 : Int32) (x2 : Int32) (σ : St) (H : Heap) (locs : List Loc) (ls : Array Slot), lv_has ls 5 [(0, .ref (ga E 11)), (1, .int x1), (2, .int x2)] → GW E base s σ H locs → wX12_sets_2 Q n x1 x2 σ → W p l e rmX12_sets s m args below meth c H locs 0 0 (MQ below (QV E base Q) args s 0 0 (fun q => base ≤ q)) (F0 m 2 ls []) := by
  intro n
  induction n with
  | zero => intro _ _; intros; exact False.elim (by assumption)
  | succ n ih =>
    intro x1 x2 σ H locs ls hl g h
    refine lv_iload_n C.1 C.2.1 dX12_sets_2 rfl (lv_at hl 2 rfl) ?_
    refine lv_bipush (v := 14) C.1 C.2.1 dX12_sets_3 (by decide) ?_
    refine lv_icmp_ge (tgt := 21) C.1 C.2.1 dX12_sets_5 (by decide) (fun c1 => ?_) (fun c1 => ?_)
    · have h := h.1 c1
      refine lv_iconst (v := 0) C.1 C.2.1 dX12_sets_21 (by decide) ?_
      refine lv_istore_n (lv' := [(2, .int (0 : Int32)), (0, .ref (ga E 11)), (1, .int x1)]) C.1 C.2.1 dX12_sets_22 rfl hl (by decide) rfl (fun ls hl => ?_)
      refine lv_iconst (v := 0) C.1 C.2.1 dX12_sets_23 (by decide) ?_
      refine lv_istore_n (lv' := [(3, .int (0 : Int32)), (2, .int (0 : Int32)), (0, .ref (ga E 11)), (1, .int x1)]) C.1 C.2.1 dX12_sets_24 rfl hl (by decide) rfl (fun ls hl => ?_)
      obtain ⟨j, h⟩ := h
      exact tX12_sets_25 C hr j x1 (0 : Int32) (0 : Int32) _ _ _ _ (lv_sub hl [2, 3, 1, 0] rfl) g h
    · have h := h.2 c1
      refine lv_aload_n C.1 C.2.1 dX12_sets_8 rfl (lv_at hl 0 rfl) ?_
      refine gx_getR C g fl_X12_155 dX12_sets_9 sh_11 rfl (by decide) ?_
      refine lv_iload_n C.1 C.2.1 dX12_sets_12 rfl (lv_at hl 2 rfl) ?_
      refine lv_iconst (v := 0) C.1 C.2.1 dX12_sets_13 (by decide) ?_
      obtain ⟨i2, h⟩ := h
      refine gx_iast C g dX12_sets_14 sh_91 i2 (fun H locs σ3 eσ3 g => ?_)
      have h := h σ3 eσ3
      obtain ⟨x2_4, ex2_4⟩ : ∃ y : Int32, y = x2 + 1 := ⟨_, rfl⟩
      have h := h x2_4 ex2_4
      refine lv_iinc (v := x2_4) (lv' := [(2, .int x2_4), (0, .ref (ga E 11)), (1, .int x1)]) C.1 C.2.1 dX12_sets_15 hl (k := 2) rfl (by rw [ex2_4]; rfl) (by decide) rfl (fun ls hl => ?_)
      refine lv_goto (tgt := 2) C.1 C.2.1 dX12_sets_18 (by decide) ?_
      exact ih x1 x2_4 _ _ _ _ (lv_sub hl [1, 2, 0] rfl) g h
set_option maxHeartbeats 4000000 in
set_option maxRecDepth 100000 in
theorem tX12_sets_e {p : Program} {l : Launch} {e : Env} {s : State} {m : MethodId} {args : Array Value} {below : List Frame} {meth : Method} {c : Code} {E : EE} {base : Nat} (C : Cx p E base s m args meth c cX12_sets 5 RX12) (hr : meth.sig.returnType = none) {Q : St → Prop} : ∀ (x1 : Int32) (σ : St) (H : Heap) (locs : List Loc) (ls : Array Slot), lv_has ls 5 [(0, .ref (ga E 11)), (1, .int x1)] → GW E base s σ H locs → wX12_sets x1 σ Q → W p l e rmX12_sets s m args below meth c H locs 0 0 (MQ below (QV E base Q) args s 0 0 (fun q => base ≤ q)) (F0 m 0 ls []) := by
  intro x1 σ H locs ls hl g h
  refine lv_iconst (v := 0) C.1 C.2.1 dX12_sets_0 (by decide) ?_
  refine lv_istore_n (lv' := [(2, .int (0 : Int32)), (0, .ref (ga E 11)), (1, .int x1)]) C.1 C.2.1 dX12_sets_1 rfl hl (by decide) rfl (fun ls hl => ?_)
  obtain ⟨j, h⟩ := h
  exact tX12_sets_2 C hr j x1 (0 : Int32) _ _ _ _ (lv_sub hl [1, 2, 0] rfl) g h
theorem mX12_sets {l : Launch} {E : EE} {base : Nat} (x1 : Int32) (σ : St) (Q : St → Prop) (h : wX12_sets x1 σ Q) : Met l yX12_sets (wy yX12_sets cX12_sets 5 none) rmX12_sets (va_Pc [.ref (ga E 11), .int x1] (fun U => SW E base σ U)) (QV E base Q) (rmX12_sets).cells (rmX12_sets).slots (fun q => base ≤ q) :=
  met_of (by decide) (Nat.le_of_ble_eq_true rfl) (fun p e s m args below meth c C hr g ls hl => tX12_sets_e C hr x1 _ _ _ _ hl g h)
abbrev rmX12_variable : Room := { frames := 0, cells := 0, slots := 0, locals := 0 }
def wX12_variable (x1 : Int32) (x2 : Int32) (x3 : Int32) (x4 : Int32) (σ : St) (Q : Int32 → St → Prop) : Prop := ∀ x5_1 : Int32, x5_1 = (10 : Int32) * (((7 : Int32) * x3) + x2) → ((x1 = 0 → vp_in x5_1 16800 ∧ Q (gv σ 88 x5_1.toNatClampNeg) σ) ∧ (¬ (x1 = 0) → ((x1 = 1 → vp_in x2 7 ∧ Q (gv σ 74 x2.toNatClampNeg) σ) ∧ (¬ (x1 = 1) → ((x1 = 2 → vp_in x2 7 ∧ Q (gv σ 73 x2.toNatClampNeg) σ) ∧ (¬ (x1 = 2) → ((x1 = 3 → (((gv σ 11 43) ≤ (x2 + (1 : Int32)) → Q (0 : Int32) σ) ∧ (¬ ((gv σ 11 43) ≤ (x2 + (1 : Int32))) → vp_in (x5_1 + (10 : Int32)) 16800 ∧ Q (gv σ 88 (x5_1 + (10 : Int32)).toNatClampNeg) σ))) ∧ (¬ (x1 = 3) → ((x1 = 4 → ((x2 ≤ 0 → Q (0 : Int32) σ) ∧ (¬ (x2 ≤ 0) → vp_in (x5_1 - (10 : Int32)) 16800 ∧ Q (gv σ 88 (x5_1 - (10 : Int32)).toNatClampNeg) σ))) ∧ (¬ (x1 = 4) → ((x1 = 5 → vp_in (x5_1 + (1 : Int32)) 16800 ∧ Q (gv σ 88 (x5_1 + (1 : Int32)).toNatClampNeg) σ) ∧ (¬ (x1 = 5) → ((x1 = 6 → vp_in (x5_1 + (2 : Int32)) 16800 ∧ Q (gv σ 88 (x5_1 + (2 : Int32)).toNatClampNeg) σ) ∧ (¬ (x1 = 6) → ((x1 = 7 → ((x4 = (-1 : Int32) → vp_in (x5_1 + (3 : Int32)) 16800 ∧ Q (gv σ 88 (x5_1 + (3 : Int32)).toNatClampNeg) σ) ∧ (¬ (x4 = (-1 : Int32)) → Q x4 σ))) ∧ (¬ (x1 = 7) → ((x1 = 8 → Q (x3 - x3 / (24 : Int32) * (24 : Int32)) σ) ∧ (¬ (x1 = 8) → ((x1 = 9 → Q (x3 / (24 : Int32)) σ) ∧ (¬ (x1 = 9) → ((x1 = 10 → ((x4 = (-1 : Int32) → vp_in (x5_1 + (6 : Int32)) 16800 ∧ Q (gv σ 88 (x5_1 + (6 : Int32)).toNatClampNeg) σ) ∧ (¬ (x4 = (-1 : Int32)) → Q (0 : Int32) σ))) ∧ (¬ (x1 = 10) → ((x4 = (-1 : Int32) → vp_in (x5_1 + (9 : Int32)) 16800 ∧ Q (gv σ 88 (x5_1 + (9 : Int32)).toNatClampNeg) σ) ∧ (¬ (x4 = (-1 : Int32)) → Q (0 : Int32) σ))))))))))))))))))))))))
set_option maxHeartbeats 4000000 in
set_option maxRecDepth 100000 in
theorem tX12_variable_e {p : Program} {l : Launch} {e : Env} {s : State} {m : MethodId} {args : Array Value} {below : List Frame} {meth : Method} {c : Code} {E : EE} {base : Nat} (C : Cx p E base s m args meth c cX12_variable 6 RX12) (hr : meth.sig.returnType = (some .int)) {Q : Int32 → St → Prop} : ∀ (x1 : Int32) (x2 : Int32) (x3 : Int32) (x4 : Int32) (σ : St) (H : Heap) (locs : List Loc) (ls : Array Slot), lv_has ls 6 [(0, .ref (ga E 11)), (1, .int x1), (2, .int x2), (3, .int x3), (4, .int x4)] → GW E base s σ H locs → wX12_variable x1 x2 x3 x4 σ Q → W p l e rmX12_variable s m args below meth c H locs 0 0 (MQ below (QI E base Q) args s 0 0 (fun q => base ≤ q)) (F0 m 0 ls []) := by
  intro x1 x2 x3 x4 σ H locs ls hl g h
  refine lv_bipush (v := 10) C.1 C.2.1 dX12_variable_0 (by decide) ?_
  refine lv_bipush (v := 7) C.1 C.2.1 dX12_variable_2 (by decide) ?_
  refine lv_iload_n C.1 C.2.1 dX12_variable_4 rfl (lv_at hl 3 rfl) ?_
  refine lv_imul C.1 C.2.1 dX12_variable_5 ?_
  refine lv_iload_n C.1 C.2.1 dX12_variable_6 rfl (lv_at hl 2 rfl) ?_
  refine lv_iadd C.1 C.2.1 dX12_variable_7 ?_
  refine lv_imul C.1 C.2.1 dX12_variable_8 ?_
  refine lv_topi (fun x5_1 ex5_1 => ?_)
  have h := h x5_1 ex5_1
  refine lv_istore (lv' := [(5, .int x5_1), (0, .ref (ga E 11)), (1, .int x1), (2, .int x2), (3, .int x3), (4, .int x4)]) C.1 C.2.1 dX12_variable_9 hl (by decide) rfl (fun ls hl => ?_)
  refine lv_iload_n C.1 C.2.1 dX12_variable_11 rfl (lv_at hl 2 rfl) ?_
  by_cases c2 : x1 = 0
  · have h := h.1 c2
    refine gx_tabI (tgt := 72) C.1 C.2.1 dX12_variable_12 (off := 60) (k := 0) c2 (by decide +kernel) (by decide) ?_
    refine lv_aload_n C.1 C.2.1 dX12_variable_72 rfl (lv_at hl 1 rfl) ?_
    refine gx_getR C g fl_X12_140 dX12_variable_73 sh_11 rfl (by decide) ?_
    refine lv_iload C.1 C.2.1 dX12_variable_76 (lv_at hl 0 rfl) ?_
    obtain ⟨i3, h⟩ := h
    refine gx_iald C g dX12_variable_78 sh_88 i3 ?_
    exact gx_iret C hr g dX12_variable_79 h
  · have h := h.2 c2
    by_cases c4 : x1 = 1
    · have h := h.1 c4
      refine gx_tabI (tgt := 80) C.1 C.2.1 dX12_variable_12 (off := 68) (k := 1) c4 (by decide +kernel) (by decide) ?_
      refine lv_aload_n C.1 C.2.1 dX12_variable_80 rfl (lv_at hl 1 rfl) ?_
      refine gx_getR C g fl_X12_98 dX12_variable_81 sh_11 rfl (by decide) ?_
      refine lv_iload_n C.1 C.2.1 dX12_variable_84 rfl (lv_at hl 3 rfl) ?_
      obtain ⟨i5, h⟩ := h
      refine gx_iald C g dX12_variable_85 sh_74 i5 ?_
      exact gx_iret C hr g dX12_variable_86 h
    · have h := h.2 c4
      by_cases c6 : x1 = 2
      · have h := h.1 c6
        refine gx_tabI (tgt := 87) C.1 C.2.1 dX12_variable_12 (off := 75) (k := 2) c6 (by decide +kernel) (by decide) ?_
        refine lv_aload_n C.1 C.2.1 dX12_variable_87 rfl (lv_at hl 1 rfl) ?_
        refine gx_getR C g fl_X12_95 dX12_variable_88 sh_11 rfl (by decide) ?_
        refine lv_iload_n C.1 C.2.1 dX12_variable_91 rfl (lv_at hl 3 rfl) ?_
        obtain ⟨i7, h⟩ := h
        refine gx_iald C g dX12_variable_92 sh_73 i7 ?_
        exact gx_iret C hr g dX12_variable_93 h
      · have h := h.2 c6
        by_cases c8 : x1 = 3
        · have h := h.1 c8
          refine gx_tabI (tgt := 94) C.1 C.2.1 dX12_variable_12 (off := 82) (k := 3) c8 (by decide +kernel) (by decide) ?_
          refine lv_iload_n C.1 C.2.1 dX12_variable_94 rfl (lv_at hl 3 rfl) ?_
          refine lv_iconst (v := 1) C.1 C.2.1 dX12_variable_95 (by decide) ?_
          refine lv_iadd C.1 C.2.1 dX12_variable_96 ?_
          refine lv_aload_n C.1 C.2.1 dX12_variable_97 rfl (lv_at hl 1 rfl) ?_
          refine gx_getI C g fl_X12_307 dX12_variable_98 sh_11 rfl ?_
          refine lv_icmp_ge (tgt := 117) C.1 C.2.1 dX12_variable_101 (by decide) (fun c9 => ?_) (fun c9 => ?_)
          · have h := h.1 c9
            refine lv_iconst (v := 0) C.1 C.2.1 dX12_variable_117 (by decide) ?_
            exact gx_iret C hr g dX12_variable_118 h
          · have h := h.2 c9
            refine lv_aload_n C.1 C.2.1 dX12_variable_104 rfl (lv_at hl 1 rfl) ?_
            refine gx_getR C g fl_X12_140 dX12_variable_105 sh_11 rfl (by decide) ?_
            refine lv_iload C.1 C.2.1 dX12_variable_108 (lv_at hl 0 rfl) ?_
            refine lv_bipush (v := 10) C.1 C.2.1 dX12_variable_110 (by decide) ?_
            refine lv_iadd C.1 C.2.1 dX12_variable_112 ?_
            obtain ⟨i10, h⟩ := h
            refine gx_iald C g dX12_variable_113 sh_88 i10 ?_
            refine lv_goto (tgt := 118) C.1 C.2.1 dX12_variable_114 (by decide) ?_
            exact gx_iret C hr g dX12_variable_118 h
        · have h := h.2 c8
          by_cases c11 : x1 = 4
          · have h := h.1 c11
            refine gx_tabI (tgt := 119) C.1 C.2.1 dX12_variable_12 (off := 107) (k := 4) c11 (by decide +kernel) (by decide) ?_
            refine lv_iload_n C.1 C.2.1 dX12_variable_119 rfl (lv_at hl 3 rfl) ?_
            refine lv_if_le (tgt := 136) C.1 C.2.1 dX12_variable_120 (by decide) (fun c12 => ?_) (fun c12 => ?_)
            · have h := h.1 c12
              refine lv_iconst (v := 0) C.1 C.2.1 dX12_variable_136 (by decide) ?_
              exact gx_iret C hr g dX12_variable_137 h
            · have h := h.2 c12
              refine lv_aload_n C.1 C.2.1 dX12_variable_123 rfl (lv_at hl 1 rfl) ?_
              refine gx_getR C g fl_X12_140 dX12_variable_124 sh_11 rfl (by decide) ?_
              refine lv_iload C.1 C.2.1 dX12_variable_127 (lv_at hl 0 rfl) ?_
              refine lv_bipush (v := 10) C.1 C.2.1 dX12_variable_129 (by decide) ?_
              refine lv_isub C.1 C.2.1 dX12_variable_131 ?_
              obtain ⟨i13, h⟩ := h
              refine gx_iald C g dX12_variable_132 sh_88 i13 ?_
              refine lv_goto (tgt := 137) C.1 C.2.1 dX12_variable_133 (by decide) ?_
              exact gx_iret C hr g dX12_variable_137 h
          · have h := h.2 c11
            by_cases c14 : x1 = 5
            · have h := h.1 c14
              refine gx_tabI (tgt := 138) C.1 C.2.1 dX12_variable_12 (off := 126) (k := 5) c14 (by decide +kernel) (by decide) ?_
              refine lv_aload_n C.1 C.2.1 dX12_variable_138 rfl (lv_at hl 1 rfl) ?_
              refine gx_getR C g fl_X12_140 dX12_variable_139 sh_11 rfl (by decide) ?_
              refine lv_iload C.1 C.2.1 dX12_variable_142 (lv_at hl 0 rfl) ?_
              refine lv_iconst (v := 1) C.1 C.2.1 dX12_variable_144 (by decide) ?_
              refine lv_iadd C.1 C.2.1 dX12_variable_145 ?_
              obtain ⟨i15, h⟩ := h
              refine gx_iald C g dX12_variable_146 sh_88 i15 ?_
              exact gx_iret C hr g dX12_variable_147 h
            · have h := h.2 c14
              by_cases c16 : x1 = 6
              · have h := h.1 c16
                refine gx_tabI (tgt := 148) C.1 C.2.1 dX12_variable_12 (off := 136) (k := 6) c16 (by decide +kernel) (by decide) ?_
                refine lv_aload_n C.1 C.2.1 dX12_variable_148 rfl (lv_at hl 1 rfl) ?_
                refine gx_getR C g fl_X12_140 dX12_variable_149 sh_11 rfl (by decide) ?_
                refine lv_iload C.1 C.2.1 dX12_variable_152 (lv_at hl 0 rfl) ?_
                refine lv_iconst (v := 2) C.1 C.2.1 dX12_variable_154 (by decide) ?_
                refine lv_iadd C.1 C.2.1 dX12_variable_155 ?_
                obtain ⟨i17, h⟩ := h
                refine gx_iald C g dX12_variable_156 sh_88 i17 ?_
                exact gx_iret C hr g dX12_variable_157 h
              · have h := h.2 c16
                by_cases c18 : x1 = 7
                · have h := h.1 c18
                  refine gx_tabI (tgt := 158) C.1 C.2.1 dX12_variable_12 (off := 146) (k := 7) c18 (by decide +kernel) (by decide) ?_
                  refine lv_iload C.1 C.2.1 dX12_variable_158 (lv_at hl 5 rfl) ?_
                  refine lv_iconst (v := -1) C.1 C.2.1 dX12_variable_160 (by decide) ?_
                  refine lv_icmp_eq (tgt := 169) C.1 C.2.1 dX12_variable_161 (by decide) (fun c19 => ?_) (fun c19 => ?_)
                  · have h := h.1 c19
                    refine lv_aload_n C.1 C.2.1 dX12_variable_169 rfl (lv_at hl 1 rfl) ?_
                    refine gx_getR C g fl_X12_140 dX12_variable_170 sh_11 rfl (by decide) ?_
                    refine lv_iload C.1 C.2.1 dX12_variable_173 (lv_at hl 0 rfl) ?_
                    refine lv_iconst (v := 3) C.1 C.2.1 dX12_variable_175 (by decide) ?_
                    refine lv_iadd C.1 C.2.1 dX12_variable_176 ?_
                    obtain ⟨i20, h⟩ := h
                    refine gx_iald C g dX12_variable_177 sh_88 i20 ?_
                    exact gx_iret C hr g dX12_variable_178 h
                  · have h := h.2 c19
                    refine lv_iload C.1 C.2.1 dX12_variable_164 (lv_at hl 5 rfl) ?_
                    refine lv_goto (tgt := 178) C.1 C.2.1 dX12_variable_166 (by decide) ?_
                    exact gx_iret C hr g dX12_variable_178 h
                · have h := h.2 c18
                  by_cases c21 : x1 = 8
                  · have h := h.1 c21
                    refine gx_tabI (tgt := 179) C.1 C.2.1 dX12_variable_12 (off := 167) (k := 8) c21 (by decide +kernel) (by decide) ?_
                    refine lv_iload_n C.1 C.2.1 dX12_variable_179 rfl (lv_at hl 4 rfl) ?_
                    refine lv_bipush (v := 24) C.1 C.2.1 dX12_variable_180 (by decide) ?_
                    refine lv_irem C.1 C.2.1 dX12_variable_182 (by decide) ?_
                    exact gx_iret C hr g dX12_variable_183 h
                  · have h := h.2 c21
                    by_cases c22 : x1 = 9
                    · have h := h.1 c22
                      refine gx_tabI (tgt := 184) C.1 C.2.1 dX12_variable_12 (off := 172) (k := 9) c22 (by decide +kernel) (by decide) ?_
                      refine lv_iload_n C.1 C.2.1 dX12_variable_184 rfl (lv_at hl 4 rfl) ?_
                      refine lv_bipush (v := 24) C.1 C.2.1 dX12_variable_185 (by decide) ?_
                      refine lv_idiv C.1 C.2.1 dX12_variable_187 (by decide) ?_
                      exact gx_iret C hr g dX12_variable_188 h
                    · have h := h.2 c22
                      by_cases c23 : x1 = 10
                      · have h := h.1 c23
                        refine gx_tabI (tgt := 189) C.1 C.2.1 dX12_variable_12 (off := 177) (k := 10) c23 (by decide +kernel) (by decide) ?_
                        refine lv_iload C.1 C.2.1 dX12_variable_189 (lv_at hl 5 rfl) ?_
                        refine lv_iconst (v := -1) C.1 C.2.1 dX12_variable_191 (by decide) ?_
                        refine lv_icmp_eq (tgt := 199) C.1 C.2.1 dX12_variable_192 (by decide) (fun c24 => ?_) (fun c24 => ?_)
                        · have h := h.1 c24
                          refine lv_aload_n C.1 C.2.1 dX12_variable_199 rfl (lv_at hl 1 rfl) ?_
                          refine gx_getR C g fl_X12_140 dX12_variable_200 sh_11 rfl (by decide) ?_
                          refine lv_iload C.1 C.2.1 dX12_variable_203 (lv_at hl 0 rfl) ?_
                          refine lv_bipush (v := 6) C.1 C.2.1 dX12_variable_205 (by decide) ?_
                          refine lv_iadd C.1 C.2.1 dX12_variable_207 ?_
                          obtain ⟨i25, h⟩ := h
                          refine gx_iald C g dX12_variable_208 sh_88 i25 ?_
                          exact gx_iret C hr g dX12_variable_209 h
                        · have h := h.2 c24
                          refine lv_iconst (v := 0) C.1 C.2.1 dX12_variable_195 (by decide) ?_
                          refine lv_goto (tgt := 209) C.1 C.2.1 dX12_variable_196 (by decide) ?_
                          exact gx_iret C hr g dX12_variable_209 h
                      · have h := h.2 c23
                        refine gx_tabD (tgt := 210) C.1 C.2.1 dX12_variable_12 [0, 1, 2, 3, 4, 5, 6, 7, 8, 9, 10] (List.forall_mem_cons.mpr ⟨c2, List.forall_mem_cons.mpr ⟨c4, List.forall_mem_cons.mpr ⟨c6, List.forall_mem_cons.mpr ⟨c8, List.forall_mem_cons.mpr ⟨c11, List.forall_mem_cons.mpr ⟨c14, List.forall_mem_cons.mpr ⟨c16, List.forall_mem_cons.mpr ⟨c18, List.forall_mem_cons.mpr ⟨c21, List.forall_mem_cons.mpr ⟨c22, List.forall_mem_cons.mpr ⟨c23, fun _ z => by cases z⟩⟩⟩⟩⟩⟩⟩⟩⟩⟩⟩) (by decide +kernel) (by decide +kernel) (by decide) ?_
                        refine lv_iload C.1 C.2.1 dX12_variable_210 (lv_at hl 5 rfl) ?_
                        refine lv_iconst (v := -1) C.1 C.2.1 dX12_variable_212 (by decide) ?_
                        refine lv_icmp_eq (tgt := 220) C.1 C.2.1 dX12_variable_213 (by decide) (fun c26 => ?_) (fun c26 => ?_)
                        · have h := h.1 c26
                          refine lv_aload_n C.1 C.2.1 dX12_variable_220 rfl (lv_at hl 1 rfl) ?_
                          refine gx_getR C g fl_X12_140 dX12_variable_221 sh_11 rfl (by decide) ?_
                          refine lv_iload C.1 C.2.1 dX12_variable_224 (lv_at hl 0 rfl) ?_
                          refine lv_bipush (v := 9) C.1 C.2.1 dX12_variable_226 (by decide) ?_
                          refine lv_iadd C.1 C.2.1 dX12_variable_228 ?_
                          obtain ⟨i27, h⟩ := h
                          refine gx_iald C g dX12_variable_229 sh_88 i27 ?_
                          exact gx_iret C hr g dX12_variable_230 h
                        · have h := h.2 c26
                          refine lv_iconst (v := 0) C.1 C.2.1 dX12_variable_216 (by decide) ?_
                          refine lv_goto (tgt := 230) C.1 C.2.1 dX12_variable_217 (by decide) ?_
                          exact gx_iret C hr g dX12_variable_230 h
theorem mX12_variable {l : Launch} {E : EE} {base : Nat} (x1 : Int32) (x2 : Int32) (x3 : Int32) (x4 : Int32) (σ : St) (Q : Int32 → St → Prop) (h : wX12_variable x1 x2 x3 x4 σ Q) : Met l yX12_variable (wy yX12_variable cX12_variable 6 (some .int)) rmX12_variable (va_Pc [.ref (ga E 11), .int x1, .int x2, .int x3, .int x4] (fun U => SW E base σ U)) (QI E base Q) (rmX12_variable).cells (rmX12_variable).slots (fun q => base ≤ q) :=
  met_of (by decide) (Nat.le_of_ble_eq_true rfl) (fun p e s m args below meth c C hr g ls hl => tX12_variable_e C hr x1 x2 x3 x4 _ _ _ _ hl g h)
abbrev rmX12_value : Room := { frames := 1, cells := 0, slots := 0, locals := 25 }
def wX12_value_180 (Q : Int32 → St → Prop) (K6 : Int32 → Int32 → Int32 → Int32 → Int32 → Int32 → St → Prop) (x2 : Int32) (x3 : Int32) (x4 : Int32) (x5 : Int32) (x6 : Int32) (x7 : Int32) (σ : St) : Prop := ∀ x7_1 : Int32, x7_1 = x7 + 1 → K6 x2 x3 x4 x5 x6 x7_1 σ
def wX12_value_179 (Q : Int32 → St → Prop) (K6 : Int32 → Int32 → Int32 → Int32 → Int32 → Int32 → St → Prop) (x2 : Int32) (x3 : Int32) (x4 : Int32) (x5 : Int32) (x6 : Int32) (x7 : Int32) (xt1 : Int32) (xt2 : Int32) (σ : St) : Prop := vp_in xt1 700 ∧ ∀ σ2 : St, σ2 = pv σ 92 xt1.toNatClampNeg xt2 → wX12_value_180 Q K6 x2 x3 x4 x5 x6 x7 σ2
def wX12_value_65 (Q : Int32 → St → Prop) (K6 : Int32 → Int32 → Int32 → Int32 → Int32 → Int32 → St → Prop) (x2 : Int32) (x3 : Int32) (x4 : Int32) (x5 : Int32) (x6 : Int32) (x7 : Int32) (xt1 : Int32) (xt2 : Int32) (σ : St) : Prop := vp_in xt1 700 ∧ ∀ σ2 : St, σ2 = pv σ 92 xt1.toNatClampNeg xt2 → ∀ x6_3 : Int32, x6_3 = x6 + 1 → wX12_value_180 Q K6 x2 x3 x4 x5 x6_3 x7 σ2
def wX12_value_6 (Q : Int32 → St → Prop) : Nat → Int32 → Int32 → Int32 → Int32 → Int32 → Int32 → St → Prop
  | 0, _, _, _, _, _, _, _ => False
  | n + 1, x2, x3, x4, x5, x6, x7, σ => ((x2 ≤ x7 → vp_in (0 : Int32) 700 ∧ Q (gv σ 92 (0 : Int32).toNatClampNeg) σ) ∧ (¬ (x2 ≤ x7) → vp_in x7 20000 ∧ (((2 : Int32) ≤ (gv σ 70 x7.toNatClampNeg) → vp_in x7 20000 ∧ (((gv σ 70 x7.toNatClampNeg) = (5 : Int32) → vp_in (x6 - (1 : Int32)) 700 ∧ vp_in (x6 - (1 : Int32)) 700 ∧ ∀ σ18 : St, σ18 = pv σ 92 (x6 - (1 : Int32)).toNatClampNeg (-(gv σ 92 (x6 - (1 : Int32)).toNatClampNeg)) → wX12_value_180 Q (fun x2' x3' x4' x5' x6' x7' σ' => wX12_value_6 Q n x2' x3' x4' x5' x6' x7' σ') x2 x3 x4 x5 x6 x7 σ18) ∧ (¬ ((gv σ 70 x7.toNatClampNeg) = (5 : Int32)) → ∀ x6_7 : Int32, x6_7 = x6 + (-1) → vp_in (x6_7 - (1 : Int32)) 700 ∧ ∀ x8_9 : Int32, x8_9 = gv σ 92 (x6_7 - (1 : Int32)).toNatClampNeg → vp_in x6_7 700 ∧ ∀ x9_11 : Int32, x9_11 = gv σ 92 x6_7.toNatClampNeg → vp_in x7 20000 ∧ (((gv σ 70 x7.toNatClampNeg) = (2 : Int32) → wX12_value_179 Q (fun x2' x3' x4' x5' x6' x7' σ' => wX12_value_6 Q n x2' x3' x4' x5' x6' x7' σ') x2 x3 x4 x5 x6_7 x7 (x6_7 - (1 : Int32)) (x8_9 + x9_11) σ) ∧ (¬ ((gv σ 70 x7.toNatClampNeg) = (2 : Int32)) → vp_in x7 20000 ∧ (((gv σ 70 x7.toNatClampNeg) = (3 : Int32) → wX12_value_179 Q (fun x2' x3' x4' x5' x6' x7' σ' => wX12_value_6 Q n x2' x3' x4' x5' x6' x7' σ') x2 x3 x4 x5 x6_7 x7 (x6_7 - (1 : Int32)) (x8_9 - x9_11) σ) ∧ (¬ ((gv σ 70 x7.toNatClampNeg) = (3 : Int32)) → wX12_value_179 Q (fun x2' x3' x4' x5' x6' x7' σ' => wX12_value_6 Q n x2' x3' x4' x5' x6' x7' σ') x2 x3 x4 x5 x6_7 x7 (x6_7 - (1 : Int32)) (x8_9 * x9_11) σ))))))) ∧ (¬ ((2 : Int32) ≤ (gv σ 70 x7.toNatClampNeg)) → vp_in x7 20000 ∧ (((gv σ 70 x7.toNatClampNeg) = 0 → vp_in x7 20000 ∧ wX12_value_65 Q (fun x2' x3' x4' x5' x6' x7' σ' => wX12_value_6 Q n x2' x3' x4' x5' x6' x7' σ') x2 x3 x4 x5 x6 x7 x6 (gv σ 71 x7.toNatClampNeg) σ) ∧ (¬ ((gv σ 70 x7.toNatClampNeg) = 0) → vp_in x7 20000 ∧ wX12_variable (gv σ 71 x7.toNatClampNeg) x3 x4 x5 σ (fun (r22 : Int32) (σ23 : St) => wX12_value_65 Q (fun x2' x3' x4' x5' x6' x7' σ' => wX12_value_6 Q n x2' x3' x4' x5' x6' x7' σ') x2 x3 x4 x5 x6 x7 x6 r22 σ23)))))))
def wX12_value (x1 : Int32) (x2 : Int32) (x3 : Int32) (x4 : Int32) (x5 : Int32) (σ : St) (Q : Int32 → St → Prop) : Prop := ∃ j : Nat, wX12_value_6 Q j x2 x3 x4 x5 (0 : Int32) x1 σ
set_option maxHeartbeats 4000000 in
set_option maxRecDepth 100000 in
theorem tX12_value_180 {p : Program} {l : Launch} {e : Env} {s : State} {m : MethodId} {args : Array Value} {below : List Frame} {meth : Method} {c : Code} {E : EE} {base : Nat} (C : Cx p E base s m args meth c cX12_value 10 RX12) (hr : meth.sig.returnType = (some .int)) {Q : Int32 → St → Prop} {K6 : Int32 → Int32 → Int32 → Int32 → Int32 → Int32 → St → Prop} (hK6 : ∀ (x2 : Int32) (x3 : Int32) (x4 : Int32) (x5 : Int32) (x6 : Int32) (x7 : Int32) (σ : St) (H : Heap) (locs : List Loc) (ls : Array Slot), lv_has ls 10 [(0, .ref (ga E 11)), (2, .int x2), (3, .int x3), (4, .int x4), (5, .int x5), (6, .int x6), (7, .int x7)] → GW E base s σ H locs → K6 x2 x3 x4 x5 x6 x7 σ → W p l e rmX12_value s m args below meth c H locs 0 0 (MQ below (QI E base Q) args s 0 0 (fun q => base ≤ q)) (F0 m 6 ls [])) : ∀ (x2 : Int32) (x3 : Int32) (x4 : Int32) (x5 : Int32) (x6 : Int32) (x7 : Int32) (σ : St) (H : Heap) (locs : List Loc) (ls : Array Slot), lv_has ls 10 [(0, .ref (ga E 11)), (2, .int x2), (3, .int x3), (4, .int x4), (5, .int x5), (6, .int x6), (7, .int x7)] → GW E base s σ H locs → wX12_value_180 Q K6 x2 x3 x4 x5 x6 x7 σ → W p l e rmX12_value s m args below meth c H locs 0 0 (MQ below (QI E base Q) args s 0 0 (fun q => base ≤ q)) (F0 m 180 ls []) := by
  intro x2 x3 x4 x5 x6 x7 σ H locs ls hl g h
  obtain ⟨x7_1, ex7_1⟩ : ∃ y : Int32, y = x7 + 1 := ⟨_, rfl⟩
  have h := h x7_1 ex7_1
  refine lv_iinc (v := x7_1) (lv' := [(7, .int x7_1), (0, .ref (ga E 11)), (2, .int x2), (3, .int x3), (4, .int x4), (5, .int x5), (6, .int x6)]) C.1 C.2.1 dX12_value_180 hl (k := 6) rfl (by rw [ex7_1]; rfl) (by decide) rfl (fun ls hl => ?_)
  refine lv_goto (tgt := 6) C.1 C.2.1 dX12_value_183 (by decide) ?_
  exact hK6 x2 x3 x4 x5 x6 x7_1 _ _ _ _ (lv_sub hl [1, 2, 3, 4, 5, 6, 0] rfl) g h
set_option maxHeartbeats 4000000 in
set_option maxRecDepth 100000 in
theorem tX12_value_179 {p : Program} {l : Launch} {e : Env} {s : State} {m : MethodId} {args : Array Value} {below : List Frame} {meth : Method} {c : Code} {E : EE} {base : Nat} (C : Cx p E base s m args meth c cX12_value 10 RX12) (hr : meth.sig.returnType = (some .int)) {Q : Int32 → St → Prop} {K6 : Int32 → Int32 → Int32 → Int32 → Int32 → Int32 → St → Prop} (hK6 : ∀ (x2 : Int32) (x3 : Int32) (x4 : Int32) (x5 : Int32) (x6 : Int32) (x7 : Int32) (σ : St) (H : Heap) (locs : List Loc) (ls : Array Slot), lv_has ls 10 [(0, .ref (ga E 11)), (2, .int x2), (3, .int x3), (4, .int x4), (5, .int x5), (6, .int x6), (7, .int x7)] → GW E base s σ H locs → K6 x2 x3 x4 x5 x6 x7 σ → W p l e rmX12_value s m args below meth c H locs 0 0 (MQ below (QI E base Q) args s 0 0 (fun q => base ≤ q)) (F0 m 6 ls [])) : ∀ (x2 : Int32) (x3 : Int32) (x4 : Int32) (x5 : Int32) (x6 : Int32) (x7 : Int32) (xt1 : Int32) (xt2 : Int32) (σ : St) (H : Heap) (locs : List Loc) (ls : Array Slot), lv_has ls 10 [(0, .ref (ga E 11)), (2, .int x2), (3, .int x3), (4, .int x4), (5, .int x5), (6, .int x6), (7, .int x7)] → GW E base s σ H locs → wX12_value_179 Q K6 x2 x3 x4 x5 x6 x7 xt1 xt2 σ → W p l e rmX12_value s m args below meth c H locs 0 0 (MQ below (QI E base Q) args s 0 0 (fun q => base ≤ q)) (F0 m 179 ls [.int xt2, .int xt1, .ref (ga E 92)]) := by
  intro x2 x3 x4 x5 x6 x7 xt1 xt2 σ H locs ls hl g h
  obtain ⟨i1, h⟩ := h
  refine gx_iast C g dX12_value_179 sh_92 i1 (fun H locs σ2 eσ2 g => ?_)
  have h := h σ2 eσ2
  exact tX12_value_180 C hr hK6 x2 x3 x4 x5 x6 x7 _ _ _ _ (lv_sub hl [0, 1, 2, 3, 4, 5, 6] rfl) g h
set_option maxHeartbeats 4000000 in
set_option maxRecDepth 100000 in
theorem tX12_value_65 {p : Program} {l : Launch} {e : Env} {s : State} {m : MethodId} {args : Array Value} {below : List Frame} {meth : Method} {c : Code} {E : EE} {base : Nat} (C : Cx p E base s m args meth c cX12_value 10 RX12) (hr : meth.sig.returnType = (some .int)) {Q : Int32 → St → Prop} {K6 : Int32 → Int32 → Int32 → Int32 → Int32 → Int32 → St → Prop} (hK6 : ∀ (x2 : Int32) (x3 : Int32) (x4 : Int32) (x5 : Int32) (x6 : Int32) (x7 : Int32) (σ : St) (H : Heap) (locs : List Loc) (ls : Array Slot), lv_has ls 10 [(0, .ref (ga E 11)), (2, .int x2), (3, .int x3), (4, .int x4), (5, .int x5), (6, .int x6), (7, .int x7)] → GW E base s σ H locs → K6 x2 x3 x4 x5 x6 x7 σ → W p l e rmX12_value s m args below meth c H locs 0 0 (MQ below (QI E base Q) args s 0 0 (fun q => base ≤ q)) (F0 m 6 ls [])) : ∀ (x2 : Int32) (x3 : Int32) (x4 : Int32) (x5 : Int32) (x6 : Int32) (x7 : Int32) (xt1 : Int32) (xt2 : Int32) (σ : St) (H : Heap) (locs : List Loc) (ls : Array Slot), lv_has ls 10 [(0, .ref (ga E 11)), (2, .int x2), (3, .int x3), (4, .int x4), (5, .int x5), (6, .int x6), (7, .int x7)] → GW E base s σ H locs → wX12_value_65 Q K6 x2 x3 x4 x5 x6 x7 xt1 xt2 σ → W p l e rmX12_value s m args below meth c H locs 0 0 (MQ below (QI E base Q) args s 0 0 (fun q => base ≤ q)) (F0 m 65 ls [.int xt2, .int xt1, .ref (ga E 92)]) := by
  intro x2 x3 x4 x5 x6 x7 xt1 xt2 σ H locs ls hl g h
  obtain ⟨i1, h⟩ := h
  refine gx_iast C g dX12_value_65 sh_92 i1 (fun H locs σ2 eσ2 g => ?_)
  have h := h σ2 eσ2
  obtain ⟨x6_3, ex6_3⟩ : ∃ y : Int32, y = x6 + 1 := ⟨_, rfl⟩
  have h := h x6_3 ex6_3
  refine lv_iinc (v := x6_3) (lv' := [(6, .int x6_3), (0, .ref (ga E 11)), (2, .int x2), (3, .int x3), (4, .int x4), (5, .int x5), (7, .int x7)]) C.1 C.2.1 dX12_value_66 hl (k := 5) rfl (by rw [ex6_3]; rfl) (by decide) rfl (fun ls hl => ?_)
  refine lv_goto (tgt := 180) C.1 C.2.1 dX12_value_69 (by decide) ?_
  exact tX12_value_180 C hr hK6 x2 x3 x4 x5 x6_3 x7 _ _ _ _ (lv_sub hl [1, 2, 3, 4, 5, 0, 6] rfl) g h
set_option maxHeartbeats 4000000 in
set_option maxRecDepth 100000 in
theorem tX12_value_6 {p : Program} {l : Launch} {e : Env} {s : State} {m : MethodId} {args : Array Value} {below : List Frame} {meth : Method} {c : Code} {E : EE} {base : Nat} (C : Cx p E base s m args meth c cX12_value 10 RX12) (hr : meth.sig.returnType = (some .int)) {Q : Int32 → St → Prop} : ∀ (n : Nat) (x2 : Int32) (x3 : Int32) (x4 : Int32) (x5 : Int32) (x6 : Int32) (x7 : Int32) (σ : St) (H : Heap) (locs : List Loc) (ls : Array Slot), lv_has ls 10 [(0, .ref (ga E 11)), (2, .int x2), (3, .int x3), (4, .int x4), (5, .int x5), (6, .int x6), (7, .int x7)] → GW E base s σ H locs → wX12_value_6 Q n x2 x3 x4 x5 x6 x7 σ → W p l e rmX12_value s m args below meth c H locs 0 0 (MQ below (QI E base Q) args s 0 0 (fun q => base ≤ q)) (F0 m 6 ls []) := by
  intro n
  induction n with
  | zero => intro _ _ _ _ _ _; intros; exact False.elim (by assumption)
  | succ n ih =>
    intro x2 x3 x4 x5 x6 x7 σ H locs ls hl g h
    refine lv_iload C.1 C.2.1 dX12_value_6 (lv_at hl 6 rfl) ?_
    refine lv_iload_n C.1 C.2.1 dX12_value_8 rfl (lv_at hl 1 rfl) ?_
    refine lv_icmp_ge (tgt := 186) C.1 C.2.1 dX12_value_9 (by decide) (fun c1 => ?_) (fun c1 => ?_)
    · have h := h.1 c1
      refine lv_aload_n C.1 C.2.1 dX12_value_186 rfl (lv_at hl 0 rfl) ?_
      refine gx_getR C g fl_X12_158 dX12_value_187 sh_11 rfl (by decide) ?_
      refine lv_iconst (v := 0) C.1 C.2.1 dX12_value_190 (by decide) ?_
      obtain ⟨i2, h⟩ := h
      refine gx_iald C g dX12_value_191 sh_92 i2 ?_
      exact gx_iret C hr g dX12_value_192 h
    · have h := h.2 c1
      refine lv_aload_n C.1 C.2.1 dX12_value_12 rfl (lv_at hl 0 rfl) ?_
      refine gx_getR C g fl_X12_86 dX12_value_13 sh_11 rfl (by decide) ?_
      refine lv_iload C.1 C.2.1 dX12_value_16 (lv_at hl 6 rfl) ?_
      obtain ⟨i3, h⟩ := h
      refine gx_iald C g dX12_value_18 sh_70 i3 ?_
      refine lv_iconst (v := 2) C.1 C.2.1 dX12_value_19 (by decide) ?_
      refine lv_icmp_ge (tgt := 72) C.1 C.2.1 dX12_value_20 (by decide) (fun c4 => ?_) (fun c4 => ?_)
      · have h := h.1 c4
        refine lv_aload_n C.1 C.2.1 dX12_value_72 rfl (lv_at hl 0 rfl) ?_
        refine gx_getR C g fl_X12_86 dX12_value_73 sh_11 rfl (by decide) ?_
        refine lv_iload C.1 C.2.1 dX12_value_76 (lv_at hl 6 rfl) ?_
        obtain ⟨i5, h⟩ := h
        refine gx_iald C g dX12_value_78 sh_70 i5 ?_
        refine lv_iconst (v := 5) C.1 C.2.1 dX12_value_79 (by decide) ?_
        refine lv_icmp_ne (tgt := 105) C.1 C.2.1 dX12_value_80 (by decide) (fun c6 => ?_) (fun c6 => ?_)
        · have h := h.2 c6
          obtain ⟨x6_7, ex6_7⟩ : ∃ y : Int32, y = x6 + (-1) := ⟨_, rfl⟩
          have h := h x6_7 ex6_7
          refine lv_iinc (v := x6_7) (lv' := [(6, .int x6_7), (0, .ref (ga E 11)), (2, .int x2), (3, .int x3), (4, .int x4), (5, .int x5), (7, .int x7)]) C.1 C.2.1 dX12_value_105 hl (k := 5) rfl (by rw [ex6_7]; rfl) (by decide) rfl (fun ls hl => ?_)
          refine lv_aload_n C.1 C.2.1 dX12_value_108 rfl (lv_at hl 1 rfl) ?_
          refine gx_getR C g fl_X12_158 dX12_value_109 sh_11 rfl (by decide) ?_
          refine lv_iload C.1 C.2.1 dX12_value_112 (lv_at hl 0 rfl) ?_
          refine lv_iconst (v := 1) C.1 C.2.1 dX12_value_114 (by decide) ?_
          refine lv_isub C.1 C.2.1 dX12_value_115 ?_
          obtain ⟨i8, h⟩ := h
          refine gx_iald C g dX12_value_116 sh_92 i8 ?_
          refine lv_topi (fun x8_9 ex8_9 => ?_)
          have h := h x8_9 ex8_9
          refine lv_istore (lv' := [(8, .int x8_9), (6, .int x6_7), (0, .ref (ga E 11)), (2, .int x2), (3, .int x3), (4, .int x4), (5, .int x5), (7, .int x7)]) C.1 C.2.1 dX12_value_117 hl (by decide) rfl (fun ls hl => ?_)
          refine lv_aload_n C.1 C.2.1 dX12_value_119 rfl (lv_at hl 2 rfl) ?_
          refine gx_getR C g fl_X12_158 dX12_value_120 sh_11 rfl (by decide) ?_
          refine lv_iload C.1 C.2.1 dX12_value_123 (lv_at hl 1 rfl) ?_
          obtain ⟨i10, h⟩ := h
          refine gx_iald C g dX12_value_125 sh_92 i10 ?_
          refine lv_topi (fun x9_11 ex9_11 => ?_)
          have h := h x9_11 ex9_11
          refine lv_istore (lv' := [(9, .int x9_11), (8, .int x8_9), (6, .int x6_7), (0, .ref (ga E 11)), (2, .int x2), (3, .int x3), (4, .int x4), (5, .int x5), (7, .int x7)]) C.1 C.2.1 dX12_value_126 hl (by decide) rfl (fun ls hl => ?_)
          refine lv_aload_n C.1 C.2.1 dX12_value_128 rfl (lv_at hl 3 rfl) ?_
          refine gx_getR C g fl_X12_158 dX12_value_129 sh_11 rfl (by decide) ?_
          refine lv_iload C.1 C.2.1 dX12_value_132 (lv_at hl 2 rfl) ?_
          refine lv_iconst (v := 1) C.1 C.2.1 dX12_value_134 (by decide) ?_
          refine lv_isub C.1 C.2.1 dX12_value_135 ?_
          refine lv_aload_n C.1 C.2.1 dX12_value_136 rfl (lv_at hl 3 rfl) ?_
          refine gx_getR C g fl_X12_86 dX12_value_137 sh_11 rfl (by decide) ?_
          refine lv_iload C.1 C.2.1 dX12_value_140 (lv_at hl 8 rfl) ?_
          obtain ⟨i12, h⟩ := h
          refine gx_iald C g dX12_value_142 sh_70 i12 ?_
          refine lv_iconst (v := 2) C.1 C.2.1 dX12_value_143 (by decide) ?_
          refine lv_icmp_ne (tgt := 155) C.1 C.2.1 dX12_value_144 (by decide) (fun c13 => ?_) (fun c13 => ?_)
          · have h := h.2 c13
            refine lv_aload_n C.1 C.2.1 dX12_value_155 rfl (lv_at hl 3 rfl) ?_
            refine gx_getR C g fl_X12_86 dX12_value_156 sh_11 rfl (by decide) ?_
            refine lv_iload C.1 C.2.1 dX12_value_159 (lv_at hl 8 rfl) ?_
            obtain ⟨i14, h⟩ := h
            refine gx_iald C g dX12_value_161 sh_70 i14 ?_
            refine lv_iconst (v := 3) C.1 C.2.1 dX12_value_162 (by decide) ?_
            refine lv_icmp_ne (tgt := 174) C.1 C.2.1 dX12_value_163 (by decide) (fun c15 => ?_) (fun c15 => ?_)
            · have h := h.2 c15
              refine lv_iload C.1 C.2.1 dX12_value_174 (lv_at hl 1 rfl) ?_
              refine lv_iload C.1 C.2.1 dX12_value_176 (lv_at hl 0 rfl) ?_
              refine lv_imul C.1 C.2.1 dX12_value_178 ?_
              exact tX12_value_179 C hr ih x2 x3 x4 x5 x6_7 x7 (x6_7 - (1 : Int32)) (x8_9 * x9_11) _ _ _ _ (lv_sub hl [3, 4, 5, 6, 7, 2, 8] rfl) g h
            · have h := h.1 c15
              refine lv_iload C.1 C.2.1 dX12_value_166 (lv_at hl 1 rfl) ?_
              refine lv_iload C.1 C.2.1 dX12_value_168 (lv_at hl 0 rfl) ?_
              refine lv_isub C.1 C.2.1 dX12_value_170 ?_
              refine lv_goto (tgt := 179) C.1 C.2.1 dX12_value_171 (by decide) ?_
              exact tX12_value_179 C hr ih x2 x3 x4 x5 x6_7 x7 (x6_7 - (1 : Int32)) (x8_9 - x9_11) _ _ _ _ (lv_sub hl [3, 4, 5, 6, 7, 2, 8] rfl) g h
          · have h := h.1 c13
            refine lv_iload C.1 C.2.1 dX12_value_147 (lv_at hl 1 rfl) ?_
            refine lv_iload C.1 C.2.1 dX12_value_149 (lv_at hl 0 rfl) ?_
            refine lv_iadd C.1 C.2.1 dX12_value_151 ?_
            refine lv_goto (tgt := 179) C.1 C.2.1 dX12_value_152 (by decide) ?_
            exact tX12_value_179 C hr ih x2 x3 x4 x5 x6_7 x7 (x6_7 - (1 : Int32)) (x8_9 + x9_11) _ _ _ _ (lv_sub hl [3, 4, 5, 6, 7, 2, 8] rfl) g h
        · have h := h.1 c6
          refine lv_aload_n C.1 C.2.1 dX12_value_83 rfl (lv_at hl 0 rfl) ?_
          refine gx_getR C g fl_X12_158 dX12_value_84 sh_11 rfl (by decide) ?_
          refine lv_iload C.1 C.2.1 dX12_value_87 (lv_at hl 5 rfl) ?_
          refine lv_iconst (v := 1) C.1 C.2.1 dX12_value_89 (by decide) ?_
          refine lv_isub C.1 C.2.1 dX12_value_90 ?_
          refine lv_aload_n C.1 C.2.1 dX12_value_91 rfl (lv_at hl 0 rfl) ?_
          refine gx_getR C g fl_X12_158 dX12_value_92 sh_11 rfl (by decide) ?_
          refine lv_iload C.1 C.2.1 dX12_value_95 (lv_at hl 5 rfl) ?_
          refine lv_iconst (v := 1) C.1 C.2.1 dX12_value_97 (by decide) ?_
          refine lv_isub C.1 C.2.1 dX12_value_98 ?_
          obtain ⟨i16, h⟩ := h
          refine gx_iald C g dX12_value_99 sh_92 i16 ?_
          refine lv_ineg C.1 C.2.1 dX12_value_100 ?_
          obtain ⟨i17, h⟩ := h
          refine gx_iast C g dX12_value_101 sh_92 i17 (fun H locs σ18 eσ18 g => ?_)
          have h := h σ18 eσ18
          refine lv_goto (tgt := 180) C.1 C.2.1 dX12_value_102 (by decide) ?_
          exact tX12_value_180 C hr ih x2 x3 x4 x5 x6 x7 _ _ _ _ (lv_sub hl [0, 1, 2, 3, 4, 5, 6] rfl) g h
      · have h := h.2 c4
        refine lv_aload_n C.1 C.2.1 dX12_value_23 rfl (lv_at hl 0 rfl) ?_
        refine gx_getR C g fl_X12_158 dX12_value_24 sh_11 rfl (by decide) ?_
        refine lv_iload C.1 C.2.1 dX12_value_27 (lv_at hl 5 rfl) ?_
        refine lv_aload_n C.1 C.2.1 dX12_value_29 rfl (lv_at hl 0 rfl) ?_
        refine gx_getR C g fl_X12_86 dX12_value_30 sh_11 rfl (by decide) ?_
        refine lv_iload C.1 C.2.1 dX12_value_33 (lv_at hl 6 rfl) ?_
        obtain ⟨i19, h⟩ := h
        refine gx_iald C g dX12_value_35 sh_70 i19 ?_
        refine lv_if_ne (tgt := 49) C.1 C.2.1 dX12_value_36 (by decide) (fun c20 => ?_) (fun c20 => ?_)
        · have h := h.2 c20
          refine lv_aload_n C.1 C.2.1 dX12_value_49 rfl (lv_at hl 0 rfl) ?_
          refine lv_aload_n C.1 C.2.1 dX12_value_50 rfl (lv_at hl 0 rfl) ?_
          refine gx_getR C g fl_X12_89 dX12_value_51 sh_11 rfl (by decide) ?_
          refine lv_iload C.1 C.2.1 dX12_value_54 (lv_at hl 6 rfl) ?_
          obtain ⟨i21, h⟩ := h
          refine gx_iald C g dX12_value_56 sh_71 i21 ?_
          refine lv_iload_n C.1 C.2.1 dX12_value_57 rfl (lv_at hl 2 rfl) ?_
          refine lv_iload C.1 C.2.1 dX12_value_58 (lv_at hl 3 rfl) ?_
          refine lv_iload C.1 C.2.1 dX12_value_60 (lv_at hl 4 rfl) ?_
          refine gx_calli0 g (gx_runV (k := 11) (rest := [.int x6, .ref (ga E 92)]) C g mb_X12_variable ml_X12_328 rfl sh_11 (mX12_variable (gv σ 71 x7.toNatClampNeg) x3 x4 x5 _ _ h) ⟨Nat.le_of_ble_eq_true rfl, Nat.le_of_ble_eq_true rfl⟩ ⟨Nat.le_refl _, Nat.le_refl _⟩ rfl hl.1 rfl (Nat.le_of_ble_eq_true rfl) dX12_value_62) rfl rfl (fun r22 σ23 H locs h g => ?_)
          exact tX12_value_65 C hr ih x2 x3 x4 x5 x6 x7 x6 r22 _ _ _ _ (lv_sub hl [0, 1, 2, 3, 4, 5, 6] rfl) g h
        · have h := h.1 c20
          refine lv_aload_n C.1 C.2.1 dX12_value_39 rfl (lv_at hl 0 rfl) ?_
          refine gx_getR C g fl_X12_89 dX12_value_40 sh_11 rfl (by decide) ?_
          refine lv_iload C.1 C.2.1 dX12_value_43 (lv_at hl 6 rfl) ?_
          obtain ⟨i24, h⟩ := h
          refine gx_iald C g dX12_value_45 sh_71 i24 ?_
          refine lv_goto (tgt := 65) C.1 C.2.1 dX12_value_46 (by decide) ?_
          exact tX12_value_65 C hr ih x2 x3 x4 x5 x6 x7 x6 (gv σ 71 x7.toNatClampNeg) _ _ _ _ (lv_sub hl [0, 1, 2, 3, 4, 5, 6] rfl) g h
set_option maxHeartbeats 4000000 in
set_option maxRecDepth 100000 in
theorem tX12_value_e {p : Program} {l : Launch} {e : Env} {s : State} {m : MethodId} {args : Array Value} {below : List Frame} {meth : Method} {c : Code} {E : EE} {base : Nat} (C : Cx p E base s m args meth c cX12_value 10 RX12) (hr : meth.sig.returnType = (some .int)) {Q : Int32 → St → Prop} : ∀ (x1 : Int32) (x2 : Int32) (x3 : Int32) (x4 : Int32) (x5 : Int32) (σ : St) (H : Heap) (locs : List Loc) (ls : Array Slot), lv_has ls 10 [(0, .ref (ga E 11)), (1, .int x1), (2, .int x2), (3, .int x3), (4, .int x4), (5, .int x5)] → GW E base s σ H locs → wX12_value x1 x2 x3 x4 x5 σ Q → W p l e rmX12_value s m args below meth c H locs 0 0 (MQ below (QI E base Q) args s 0 0 (fun q => base ≤ q)) (F0 m 0 ls []) := by
  intro x1 x2 x3 x4 x5 σ H locs ls hl g h
  refine lv_iconst (v := 0) C.1 C.2.1 dX12_value_0 (by decide) ?_
  refine lv_istore (lv' := [(6, .int (0 : Int32)), (0, .ref (ga E 11)), (1, .int x1), (2, .int x2), (3, .int x3), (4, .int x4), (5, .int x5)]) C.1 C.2.1 dX12_value_1 hl (by decide) rfl (fun ls hl => ?_)
  refine lv_iload_n C.1 C.2.1 dX12_value_3 rfl (lv_at hl 2 rfl) ?_
  refine lv_istore (lv' := [(7, .int x1), (6, .int (0 : Int32)), (0, .ref (ga E 11)), (1, .int x1), (2, .int x2), (3, .int x3), (4, .int x4), (5, .int x5)]) C.1 C.2.1 dX12_value_4 hl (by decide) rfl (fun ls hl => ?_)
  obtain ⟨j, h⟩ := h
  exact tX12_value_6 C hr j x2 x3 x4 x5 (0 : Int32) x1 _ _ _ _ (lv_sub hl [2, 4, 5, 6, 7, 1, 0] rfl) g h
theorem mX12_value {l : Launch} {E : EE} {base : Nat} (x1 : Int32) (x2 : Int32) (x3 : Int32) (x4 : Int32) (x5 : Int32) (σ : St) (Q : Int32 → St → Prop) (h : wX12_value x1 x2 x3 x4 x5 σ Q) : Met l yX12_value (wy yX12_value cX12_value 10 (some .int)) rmX12_value (va_Pc [.ref (ga E 11), .int x1, .int x2, .int x3, .int x4, .int x5] (fun U => SW E base σ U)) (QI E base Q) (rmX12_value).cells (rmX12_value).slots (fun q => base ≤ q) :=
  met_of (by decide) (Nat.le_of_ble_eq_true rfl) (fun p e s m args below meth c C hr g ls hl => tX12_value_e C hr x1 x2 x3 x4 x5 _ _ _ _ hl g h)
abbrev rmX12_holds : Room := { frames := 2, cells := 0, slots := 0, locals := 54 }
def wX12_holds_191 (Q : Int32 → St → Prop) (K6 : Int32 → Int32 → Int32 → Int32 → Int32 → Int32 → St → Prop) (x2 : Int32) (x3 : Int32) (x4 : Int32) (x5 : Int32) (x6 : Int32) (x7 : Int32) (σ : St) : Prop := ∀ x7_1 : Int32, x7_1 = x7 + 1 → K6 x2 x3 x4 x5 x6 x7_1 σ
def wX12_holds_189 (Q : Int32 → St → Prop) (K6 : Int32 → Int32 → Int32 → Int32 → Int32 → Int32 → St → Prop) (x2 : Int32) (x3 : Int32) (x4 : Int32) (x5 : Int32) (x7 : Int32) (xt0 : Int32) (σ : St) : Prop := wX12_holds_191 Q K6 x2 x3 x4 x5 xt0 x7 σ
def wX12_holds_42 (Q : Int32 → St → Prop) (K6 : Int32 → Int32 → Int32 → Int32 → Int32 → Int32 → St → Prop) (x2 : Int32) (x3 : Int32) (x4 : Int32) (x5 : Int32) (x6 : Int32) (x7 : Int32) (σ : St) : Prop := ((x6 = 0 → wX12_holds_191 Q K6 x2 x3 x4 x5 x6 x7 σ) ∧ (¬ (x6 = 0) → vp_in x7 6600 ∧ vp_in x7 6600 ∧ wX12_value (gv σ 66 x7.toNatClampNeg) (gv σ 67 x7.toNatClampNeg) x3 x4 x5 σ (fun (r4 : Int32) (σ5 : St) => vp_in x7 6600 ∧ vp_in x7 6600 ∧ wX12_value (gv σ5 67 x7.toNatClampNeg) (gv σ5 68 x7.toNatClampNeg) x3 x4 x5 σ5 (fun (r8 : Int32) (σ9 : St) => vp_in x7 6600 ∧ (((gv σ9 65 x7.toNatClampNeg) = 0 → ((r4 = r8 → wX12_holds_189 Q K6 x2 x3 x4 x5 x7 (1 : Int32) σ9) ∧ (¬ (r4 = r8) → wX12_holds_189 Q K6 x2 x3 x4 x5 x7 (0 : Int32) σ9))) ∧ (¬ ((gv σ9 65 x7.toNatClampNeg) = 0) → vp_in x7 6600 ∧ (((gv σ9 65 x7.toNatClampNeg) = (1 : Int32) → ((r4 = r8 → wX12_holds_189 Q K6 x2 x3 x4 x5 x7 (0 : Int32) σ9) ∧ (¬ (r4 = r8) → wX12_holds_189 Q K6 x2 x3 x4 x5 x7 (1 : Int32) σ9))) ∧ (¬ ((gv σ9 65 x7.toNatClampNeg) = (1 : Int32)) → vp_in x7 6600 ∧ (((gv σ9 65 x7.toNatClampNeg) = (2 : Int32) → ((r8 ≤ r4 → wX12_holds_189 Q K6 x2 x3 x4 x5 x7 (0 : Int32) σ9) ∧ (¬ (r8 ≤ r4) → wX12_holds_189 Q K6 x2 x3 x4 x5 x7 (1 : Int32) σ9))) ∧ (¬ ((gv σ9 65 x7.toNatClampNeg) = (2 : Int32)) → ((r8 < r4 → wX12_holds_189 Q K6 x2 x3 x4 x5 x7 (0 : Int32) σ9) ∧ (¬ (r8 < r4) → wX12_holds_189 Q K6 x2 x3 x4 x5 x7 (1 : Int32) σ9))))))))))))
def wX12_holds_29 (Q : Int32 → St → Prop) (K6 : Int32 → Int32 → Int32 → Int32 → Int32 → Int32 → St → Prop) (x2 : Int32) (x3 : Int32) (x4 : Int32) (x5 : Int32) (x6 : Int32) (x7 : Int32) (σ : St) : Prop := vp_in x7 6600 ∧ (((gv σ 69 x7.toNatClampNeg) = 0 → wX12_holds_42 Q K6 x2 x3 x4 x5 x6 x7 σ) ∧ (¬ ((gv σ 69 x7.toNatClampNeg) = 0) → wX12_holds_42 Q K6 x2 x3 x4 x5 (1 : Int32) x7 σ))
def wX12_holds_6 (Q : Int32 → St → Prop) : Nat → Int32 → Int32 → Int32 → Int32 → Int32 → Int32 → St → Prop
  | 0, _, _, _, _, _, _, _ => False
  | n + 1, x2, x3, x4, x5, x6, x7, σ => ((x2 ≤ x7 → narrow .boolean (.int x6) = .int x6 ∧ Q x6 σ) ∧ (¬ (x2 ≤ x7) → vp_in x7 6600 ∧ (((gv σ 69 x7.toNatClampNeg) = 0 → wX12_holds_29 Q (fun x2' x3' x4' x5' x6' x7' σ' => wX12_holds_6 Q n x2' x3' x4' x5' x6' x7' σ') x2 x3 x4 x5 x6 x7 σ) ∧ (¬ ((gv σ 69 x7.toNatClampNeg) = 0) → ((x6 = 0 → wX12_holds_29 Q (fun x2' x3' x4' x5' x6' x7' σ' => wX12_holds_6 Q n x2' x3' x4' x5' x6' x7' σ') x2 x3 x4 x5 x6 x7 σ) ∧ (¬ (x6 = 0) → Q (1 : Int32) σ))))))
def wX12_holds (x1 : Int32) (x2 : Int32) (x3 : Int32) (x4 : Int32) (x5 : Int32) (σ : St) (Q : Int32 → St → Prop) : Prop := ∃ j : Nat, wX12_holds_6 Q j x2 x3 x4 x5 (0 : Int32) x1 σ
set_option maxHeartbeats 4000000 in
set_option maxRecDepth 100000 in
theorem tX12_holds_191 {p : Program} {l : Launch} {e : Env} {s : State} {m : MethodId} {args : Array Value} {below : List Frame} {meth : Method} {c : Code} {E : EE} {base : Nat} (C : Cx p E base s m args meth c cX12_holds 10 RX12) (hr : meth.sig.returnType = (some .boolean)) {Q : Int32 → St → Prop} {K6 : Int32 → Int32 → Int32 → Int32 → Int32 → Int32 → St → Prop} (hK6 : ∀ (x2 : Int32) (x3 : Int32) (x4 : Int32) (x5 : Int32) (x6 : Int32) (x7 : Int32) (σ : St) (H : Heap) (locs : List Loc) (ls : Array Slot), lv_has ls 10 [(0, .ref (ga E 11)), (2, .int x2), (3, .int x3), (4, .int x4), (5, .int x5), (6, .int x6), (7, .int x7)] → GW E base s σ H locs → K6 x2 x3 x4 x5 x6 x7 σ → W p l e rmX12_holds s m args below meth c H locs 0 0 (MQ below (QI E base Q) args s 0 0 (fun q => base ≤ q)) (F0 m 6 ls [])) : ∀ (x2 : Int32) (x3 : Int32) (x4 : Int32) (x5 : Int32) (x6 : Int32) (x7 : Int32) (σ : St) (H : Heap) (locs : List Loc) (ls : Array Slot), lv_has ls 10 [(0, .ref (ga E 11)), (2, .int x2), (3, .int x3), (4, .int x4), (5, .int x5), (6, .int x6), (7, .int x7)] → GW E base s σ H locs → wX12_holds_191 Q K6 x2 x3 x4 x5 x6 x7 σ → W p l e rmX12_holds s m args below meth c H locs 0 0 (MQ below (QI E base Q) args s 0 0 (fun q => base ≤ q)) (F0 m 191 ls []) := by
  intro x2 x3 x4 x5 x6 x7 σ H locs ls hl g h
  obtain ⟨x7_1, ex7_1⟩ : ∃ y : Int32, y = x7 + 1 := ⟨_, rfl⟩
  have h := h x7_1 ex7_1
  refine lv_iinc (v := x7_1) (lv' := [(7, .int x7_1), (0, .ref (ga E 11)), (2, .int x2), (3, .int x3), (4, .int x4), (5, .int x5), (6, .int x6)]) C.1 C.2.1 dX12_holds_191 hl (k := 6) rfl (by rw [ex7_1]; rfl) (by decide) rfl (fun ls hl => ?_)
  refine lv_goto (tgt := 6) C.1 C.2.1 dX12_holds_194 (by decide) ?_
  exact hK6 x2 x3 x4 x5 x6 x7_1 _ _ _ _ (lv_sub hl [1, 2, 3, 4, 5, 6, 0] rfl) g h
set_option maxHeartbeats 4000000 in
set_option maxRecDepth 100000 in
theorem tX12_holds_189 {p : Program} {l : Launch} {e : Env} {s : State} {m : MethodId} {args : Array Value} {below : List Frame} {meth : Method} {c : Code} {E : EE} {base : Nat} (C : Cx p E base s m args meth c cX12_holds 10 RX12) (hr : meth.sig.returnType = (some .boolean)) {Q : Int32 → St → Prop} {K6 : Int32 → Int32 → Int32 → Int32 → Int32 → Int32 → St → Prop} (hK6 : ∀ (x2 : Int32) (x3 : Int32) (x4 : Int32) (x5 : Int32) (x6 : Int32) (x7 : Int32) (σ : St) (H : Heap) (locs : List Loc) (ls : Array Slot), lv_has ls 10 [(0, .ref (ga E 11)), (2, .int x2), (3, .int x3), (4, .int x4), (5, .int x5), (6, .int x6), (7, .int x7)] → GW E base s σ H locs → K6 x2 x3 x4 x5 x6 x7 σ → W p l e rmX12_holds s m args below meth c H locs 0 0 (MQ below (QI E base Q) args s 0 0 (fun q => base ≤ q)) (F0 m 6 ls [])) : ∀ (x2 : Int32) (x3 : Int32) (x4 : Int32) (x5 : Int32) (x7 : Int32) (xt0 : Int32) (σ : St) (H : Heap) (locs : List Loc) (ls : Array Slot), lv_has ls 10 [(0, .ref (ga E 11)), (2, .int x2), (3, .int x3), (4, .int x4), (5, .int x5), (7, .int x7)] → GW E base s σ H locs → wX12_holds_189 Q K6 x2 x3 x4 x5 x7 xt0 σ → W p l e rmX12_holds s m args below meth c H locs 0 0 (MQ below (QI E base Q) args s 0 0 (fun q => base ≤ q)) (F0 m 189 ls [.int xt0]) := by
  intro x2 x3 x4 x5 x7 xt0 σ H locs ls hl g h
  refine lv_istore (lv' := [(6, .int xt0), (0, .ref (ga E 11)), (2, .int x2), (3, .int x3), (4, .int x4), (5, .int x5), (7, .int x7)]) C.1 C.2.1 dX12_holds_189 hl (by decide) rfl (fun ls hl => ?_)
  exact tX12_holds_191 C hr hK6 x2 x3 x4 x5 xt0 x7 _ _ _ _ (lv_sub hl [1, 2, 3, 4, 5, 0, 6] rfl) g h
set_option maxHeartbeats 4000000 in
set_option maxRecDepth 100000 in
theorem tX12_holds_42 {p : Program} {l : Launch} {e : Env} {s : State} {m : MethodId} {args : Array Value} {below : List Frame} {meth : Method} {c : Code} {E : EE} {base : Nat} (C : Cx p E base s m args meth c cX12_holds 10 RX12) (hr : meth.sig.returnType = (some .boolean)) {Q : Int32 → St → Prop} {K6 : Int32 → Int32 → Int32 → Int32 → Int32 → Int32 → St → Prop} (hK6 : ∀ (x2 : Int32) (x3 : Int32) (x4 : Int32) (x5 : Int32) (x6 : Int32) (x7 : Int32) (σ : St) (H : Heap) (locs : List Loc) (ls : Array Slot), lv_has ls 10 [(0, .ref (ga E 11)), (2, .int x2), (3, .int x3), (4, .int x4), (5, .int x5), (6, .int x6), (7, .int x7)] → GW E base s σ H locs → K6 x2 x3 x4 x5 x6 x7 σ → W p l e rmX12_holds s m args below meth c H locs 0 0 (MQ below (QI E base Q) args s 0 0 (fun q => base ≤ q)) (F0 m 6 ls [])) : ∀ (x2 : Int32) (x3 : Int32) (x4 : Int32) (x5 : Int32) (x6 : Int32) (x7 : Int32) (σ : St) (H : Heap) (locs : List Loc) (ls : Array Slot), lv_has ls 10 [(0, .ref (ga E 11)), (2, .int x2), (3, .int x3), (4, .int x4), (5, .int x5), (6, .int x6), (7, .int x7)] → GW E base s σ H locs → wX12_holds_42 Q K6 x2 x3 x4 x5 x6 x7 σ → W p l e rmX12_holds s m args below meth c H locs 0 0 (MQ below (QI E base Q) args s 0 0 (fun q => base ≤ q)) (F0 m 42 ls []) := by
  intro x2 x3 x4 x5 x6 x7 σ H locs ls hl g h
  refine lv_iload C.1 C.2.1 dX12_holds_42 (lv_at hl 5 rfl) ?_
  refine lv_if_ne (tgt := 50) C.1 C.2.1 dX12_holds_44 (by decide) (fun c1 => ?_) (fun c1 => ?_)
  · have h := h.2 c1
    refine lv_aload_n C.1 C.2.1 dX12_holds_50 rfl (lv_at hl 0 rfl) ?_
    refine lv_aload_n C.1 C.2.1 dX12_holds_51 rfl (lv_at hl 0 rfl) ?_
    refine gx_getR C g fl_X12_74 dX12_holds_52 sh_11 rfl (by decide) ?_
    refine lv_iload C.1 C.2.1 dX12_holds_55 (lv_at hl 6 rfl) ?_
    obtain ⟨i2, h⟩ := h
    refine gx_iald C g dX12_holds_57 sh_66 i2 ?_
    refine lv_aload_n C.1 C.2.1 dX12_holds_58 rfl (lv_at hl 0 rfl) ?_
    refine gx_getR C g fl_X12_77 dX12_holds_59 sh_11 rfl (by decide) ?_
    refine lv_iload C.1 C.2.1 dX12_holds_62 (lv_at hl 6 rfl) ?_
    obtain ⟨i3, h⟩ := h
    refine gx_iald C g dX12_holds_64 sh_67 i3 ?_
    refine lv_iload_n C.1 C.2.1 dX12_holds_65 rfl (lv_at hl 2 rfl) ?_
    refine lv_iload C.1 C.2.1 dX12_holds_66 (lv_at hl 3 rfl) ?_
    refine lv_iload C.1 C.2.1 dX12_holds_68 (lv_at hl 4 rfl) ?_
    refine gx_calli0 g (gx_runV (k := 11) (rest := []) C g mb_X12_value ml_X12_332 rfl sh_11 (mX12_value (gv σ 66 x7.toNatClampNeg) (gv σ 67 x7.toNatClampNeg) x3 x4 x5 _ _ h) ⟨Nat.le_of_ble_eq_true rfl, Nat.le_of_ble_eq_true rfl⟩ ⟨Nat.le_refl _, Nat.le_refl _⟩ rfl hl.1 rfl (Nat.le_of_ble_eq_true rfl) dX12_holds_70) rfl rfl (fun r4 σ5 H locs h g => ?_)
    refine lv_istore (lv' := [(8, .int r4), (0, .ref (ga E 11)), (2, .int x2), (3, .int x3), (4, .int x4), (5, .int x5), (6, .int x6), (7, .int x7)]) C.1 C.2.1 dX12_holds_73 hl (by decide) rfl (fun ls hl => ?_)
    refine lv_aload_n C.1 C.2.1 dX12_holds_75 rfl (lv_at hl 1 rfl) ?_
    refine lv_aload_n C.1 C.2.1 dX12_holds_76 rfl (lv_at hl 1 rfl) ?_
    refine gx_getR C g fl_X12_77 dX12_holds_77 sh_11 rfl (by decide) ?_
    refine lv_iload C.1 C.2.1 dX12_holds_80 (lv_at hl 7 rfl) ?_
    obtain ⟨i6, h⟩ := h
    refine gx_iald C g dX12_holds_82 sh_67 i6 ?_
    refine lv_aload_n C.1 C.2.1 dX12_holds_83 rfl (lv_at hl 1 rfl) ?_
    refine gx_getR C g fl_X12_80 dX12_holds_84 sh_11 rfl (by decide) ?_
    refine lv_iload C.1 C.2.1 dX12_holds_87 (lv_at hl 7 rfl) ?_
    obtain ⟨i7, h⟩ := h
    refine gx_iald C g dX12_holds_89 sh_68 i7 ?_
    refine lv_iload_n C.1 C.2.1 dX12_holds_90 rfl (lv_at hl 3 rfl) ?_
    refine lv_iload C.1 C.2.1 dX12_holds_91 (lv_at hl 4 rfl) ?_
    refine lv_iload C.1 C.2.1 dX12_holds_93 (lv_at hl 5 rfl) ?_
    refine gx_calli0 g (gx_runV (k := 11) (rest := []) C g mb_X12_value ml_X12_332 rfl sh_11 (mX12_value (gv σ5 67 x7.toNatClampNeg) (gv σ5 68 x7.toNatClampNeg) x3 x4 x5 _ _ h) ⟨Nat.le_of_ble_eq_true rfl, Nat.le_of_ble_eq_true rfl⟩ ⟨Nat.le_refl _, Nat.le_refl _⟩ rfl hl.1 rfl (Nat.le_of_ble_eq_true rfl) dX12_holds_95) rfl rfl (fun r8 σ9 H locs h g => ?_)
    refine lv_istore (lv' := [(9, .int r8), (8, .int r4), (0, .ref (ga E 11)), (2, .int x2), (3, .int x3), (4, .int x4), (5, .int x5), (6, .int x6), (7, .int x7)]) C.1 C.2.1 dX12_holds_98 hl (by decide) rfl (fun ls hl => ?_)
    refine lv_aload_n C.1 C.2.1 dX12_holds_100 rfl (lv_at hl 2 rfl) ?_
    refine gx_getR C g fl_X12_71 dX12_holds_101 sh_11 rfl (by decide) ?_
    refine lv_iload C.1 C.2.1 dX12_holds_104 (lv_at hl 8 rfl) ?_
    obtain ⟨i10, h⟩ := h
    refine gx_iald C g dX12_holds_106 sh_65 i10 ?_
    refine lv_if_ne (tgt := 125) C.1 C.2.1 dX12_holds_107 (by decide) (fun c11 => ?_) (fun c11 => ?_)
    · have h := h.2 c11
      refine lv_aload_n C.1 C.2.1 dX12_holds_125 rfl (lv_at hl 2 rfl) ?_
      refine gx_getR C g fl_X12_71 dX12_holds_126 sh_11 rfl (by decide) ?_
      refine lv_iload C.1 C.2.1 dX12_holds_129 (lv_at hl 8 rfl) ?_
      obtain ⟨i12, h⟩ := h
      refine gx_iald C g dX12_holds_131 sh_65 i12 ?_
      refine lv_iconst (v := 1) C.1 C.2.1 dX12_holds_132 (by decide) ?_
      refine lv_icmp_ne (tgt := 151) C.1 C.2.1 dX12_holds_133 (by decide) (fun c13 => ?_) (fun c13 => ?_)
      · have h := h.2 c13
        refine lv_aload_n C.1 C.2.1 dX12_holds_151 rfl (lv_at hl 2 rfl) ?_
        refine gx_getR C g fl_X12_71 dX12_holds_152 sh_11 rfl (by decide) ?_
        refine lv_iload C.1 C.2.1 dX12_holds_155 (lv_at hl 8 rfl) ?_
        obtain ⟨i14, h⟩ := h
        refine gx_iald C g dX12_holds_157 sh_65 i14 ?_
        refine lv_iconst (v := 2) C.1 C.2.1 dX12_holds_158 (by decide) ?_
        refine lv_icmp_ne (tgt := 177) C.1 C.2.1 dX12_holds_159 (by decide) (fun c15 => ?_) (fun c15 => ?_)
        · have h := h.2 c15
          refine lv_iload C.1 C.2.1 dX12_holds_177 (lv_at hl 1 rfl) ?_
          refine lv_iload C.1 C.2.1 dX12_holds_179 (lv_at hl 0 rfl) ?_
          refine lv_icmp_gt (tgt := 188) C.1 C.2.1 dX12_holds_181 (by decide) (fun c16 => ?_) (fun c16 => ?_)
          · have h := h.1 c16
            refine lv_iconst (v := 0) C.1 C.2.1 dX12_holds_188 (by decide) ?_
            exact tX12_holds_189 C hr hK6 x2 x3 x4 x5 x7 (0 : Int32) _ _ _ _ (lv_sub hl [2, 3, 4, 5, 6, 8] rfl) g h
          · have h := h.2 c16
            refine lv_iconst (v := 1) C.1 C.2.1 dX12_holds_184 (by decide) ?_
            refine lv_goto (tgt := 189) C.1 C.2.1 dX12_holds_185 (by decide) ?_
            exact tX12_holds_189 C hr hK6 x2 x3 x4 x5 x7 (1 : Int32) _ _ _ _ (lv_sub hl [2, 3, 4, 5, 6, 8] rfl) g h
        · have h := h.1 c15
          refine lv_iload C.1 C.2.1 dX12_holds_162 (lv_at hl 1 rfl) ?_
          refine lv_iload C.1 C.2.1 dX12_holds_164 (lv_at hl 0 rfl) ?_
          refine lv_icmp_ge (tgt := 173) C.1 C.2.1 dX12_holds_166 (by decide) (fun c17 => ?_) (fun c17 => ?_)
          · have h := h.1 c17
            refine lv_iconst (v := 0) C.1 C.2.1 dX12_holds_173 (by decide) ?_
            refine lv_goto (tgt := 189) C.1 C.2.1 dX12_holds_174 (by decide) ?_
            exact tX12_holds_189 C hr hK6 x2 x3 x4 x5 x7 (0 : Int32) _ _ _ _ (lv_sub hl [2, 3, 4, 5, 6, 8] rfl) g h
          · have h := h.2 c17
            refine lv_iconst (v := 1) C.1 C.2.1 dX12_holds_169 (by decide) ?_
            refine lv_goto (tgt := 189) C.1 C.2.1 dX12_holds_170 (by decide) ?_
            exact tX12_holds_189 C hr hK6 x2 x3 x4 x5 x7 (1 : Int32) _ _ _ _ (lv_sub hl [2, 3, 4, 5, 6, 8] rfl) g h
      · have h := h.1 c13
        refine lv_iload C.1 C.2.1 dX12_holds_136 (lv_at hl 1 rfl) ?_
        refine lv_iload C.1 C.2.1 dX12_holds_138 (lv_at hl 0 rfl) ?_
        refine lv_icmp_eq (tgt := 147) C.1 C.2.1 dX12_holds_140 (by decide) (fun c18 => ?_) (fun c18 => ?_)
        · have h := h.1 c18
          refine lv_iconst (v := 0) C.1 C.2.1 dX12_holds_147 (by decide) ?_
          refine lv_goto (tgt := 189) C.1 C.2.1 dX12_holds_148 (by decide) ?_
          exact tX12_holds_189 C hr hK6 x2 x3 x4 x5 x7 (0 : Int32) _ _ _ _ (lv_sub hl [2, 3, 4, 5, 6, 8] rfl) g h
        · have h := h.2 c18
          refine lv_iconst (v := 1) C.1 C.2.1 dX12_holds_143 (by decide) ?_
          refine lv_goto (tgt := 189) C.1 C.2.1 dX12_holds_144 (by decide) ?_
          exact tX12_holds_189 C hr hK6 x2 x3 x4 x5 x7 (1 : Int32) _ _ _ _ (lv_sub hl [2, 3, 4, 5, 6, 8] rfl) g h
    · have h := h.1 c11
      refine lv_iload C.1 C.2.1 dX12_holds_110 (lv_at hl 1 rfl) ?_
      refine lv_iload C.1 C.2.1 dX12_holds_112 (lv_at hl 0 rfl) ?_
      refine lv_icmp_ne (tgt := 121) C.1 C.2.1 dX12_holds_114 (by decide) (fun c19 => ?_) (fun c19 => ?_)
      · have h := h.2 c19
        refine lv_iconst (v := 0) C.1 C.2.1 dX12_holds_121 (by decide) ?_
        refine lv_goto (tgt := 189) C.1 C.2.1 dX12_holds_122 (by decide) ?_
        exact tX12_holds_189 C hr hK6 x2 x3 x4 x5 x7 (0 : Int32) _ _ _ _ (lv_sub hl [2, 3, 4, 5, 6, 8] rfl) g h
      · have h := h.1 c19
        refine lv_iconst (v := 1) C.1 C.2.1 dX12_holds_117 (by decide) ?_
        refine lv_goto (tgt := 189) C.1 C.2.1 dX12_holds_118 (by decide) ?_
        exact tX12_holds_189 C hr hK6 x2 x3 x4 x5 x7 (1 : Int32) _ _ _ _ (lv_sub hl [2, 3, 4, 5, 6, 8] rfl) g h
  · have h := h.1 c1
    refine lv_goto (tgt := 191) C.1 C.2.1 dX12_holds_47 (by decide) ?_
    exact tX12_holds_191 C hr hK6 x2 x3 x4 x5 x6 x7 _ _ _ _ (lv_sub hl [0, 1, 2, 3, 4, 5, 6] rfl) g h
set_option maxHeartbeats 4000000 in
set_option maxRecDepth 100000 in
theorem tX12_holds_29 {p : Program} {l : Launch} {e : Env} {s : State} {m : MethodId} {args : Array Value} {below : List Frame} {meth : Method} {c : Code} {E : EE} {base : Nat} (C : Cx p E base s m args meth c cX12_holds 10 RX12) (hr : meth.sig.returnType = (some .boolean)) {Q : Int32 → St → Prop} {K6 : Int32 → Int32 → Int32 → Int32 → Int32 → Int32 → St → Prop} (hK6 : ∀ (x2 : Int32) (x3 : Int32) (x4 : Int32) (x5 : Int32) (x6 : Int32) (x7 : Int32) (σ : St) (H : Heap) (locs : List Loc) (ls : Array Slot), lv_has ls 10 [(0, .ref (ga E 11)), (2, .int x2), (3, .int x3), (4, .int x4), (5, .int x5), (6, .int x6), (7, .int x7)] → GW E base s σ H locs → K6 x2 x3 x4 x5 x6 x7 σ → W p l e rmX12_holds s m args below meth c H locs 0 0 (MQ below (QI E base Q) args s 0 0 (fun q => base ≤ q)) (F0 m 6 ls [])) : ∀ (x2 : Int32) (x3 : Int32) (x4 : Int32) (x5 : Int32) (x6 : Int32) (x7 : Int32) (σ : St) (H : Heap) (locs : List Loc) (ls : Array Slot), lv_has ls 10 [(0, .ref (ga E 11)), (2, .int x2), (3, .int x3), (4, .int x4), (5, .int x5), (6, .int x6), (7, .int x7)] → GW E base s σ H locs → wX12_holds_29 Q K6 x2 x3 x4 x5 x6 x7 σ → W p l e rmX12_holds s m args below meth c H locs 0 0 (MQ below (QI E base Q) args s 0 0 (fun q => base ≤ q)) (F0 m 29 ls []) := by
  intro x2 x3 x4 x5 x6 x7 σ H locs ls hl g h
  refine lv_aload_n C.1 C.2.1 dX12_holds_29 rfl (lv_at hl 0 rfl) ?_
  refine gx_getR C g fl_X12_83 dX12_holds_30 sh_11 rfl (by decide) ?_
  refine lv_iload C.1 C.2.1 dX12_holds_33 (lv_at hl 6 rfl) ?_
  obtain ⟨i1, h⟩ := h
  refine gx_zald C g dX12_holds_35 sh_69 i1 ?_
  refine lv_if_eq (tgt := 42) C.1 C.2.1 dX12_holds_36 (by decide) (fun c2 => ?_) (fun c2 => ?_)
  · have h := h.1 c2
    exact tX12_holds_42 C hr hK6 x2 x3 x4 x5 x6 x7 _ _ _ _ (lv_sub hl [0, 1, 2, 3, 4, 5, 6] rfl) g h
  · have h := h.2 c2
    refine lv_iconst (v := 1) C.1 C.2.1 dX12_holds_39 (by decide) ?_
    refine lv_istore (lv' := [(6, .int (1 : Int32)), (0, .ref (ga E 11)), (2, .int x2), (3, .int x3), (4, .int x4), (5, .int x5), (7, .int x7)]) C.1 C.2.1 dX12_holds_40 hl (by decide) rfl (fun ls hl => ?_)
    exact tX12_holds_42 C hr hK6 x2 x3 x4 x5 (1 : Int32) x7 _ _ _ _ (lv_sub hl [1, 2, 3, 4, 5, 0, 6] rfl) g h
set_option maxHeartbeats 4000000 in
set_option maxRecDepth 100000 in
theorem tX12_holds_6 {p : Program} {l : Launch} {e : Env} {s : State} {m : MethodId} {args : Array Value} {below : List Frame} {meth : Method} {c : Code} {E : EE} {base : Nat} (C : Cx p E base s m args meth c cX12_holds 10 RX12) (hr : meth.sig.returnType = (some .boolean)) {Q : Int32 → St → Prop} : ∀ (n : Nat) (x2 : Int32) (x3 : Int32) (x4 : Int32) (x5 : Int32) (x6 : Int32) (x7 : Int32) (σ : St) (H : Heap) (locs : List Loc) (ls : Array Slot), lv_has ls 10 [(0, .ref (ga E 11)), (2, .int x2), (3, .int x3), (4, .int x4), (5, .int x5), (6, .int x6), (7, .int x7)] → GW E base s σ H locs → wX12_holds_6 Q n x2 x3 x4 x5 x6 x7 σ → W p l e rmX12_holds s m args below meth c H locs 0 0 (MQ below (QI E base Q) args s 0 0 (fun q => base ≤ q)) (F0 m 6 ls []) := by
  intro n
  induction n with
  | zero => intro _ _ _ _ _ _; intros; exact False.elim (by assumption)
  | succ n ih =>
    intro x2 x3 x4 x5 x6 x7 σ H locs ls hl g h
    refine lv_iload C.1 C.2.1 dX12_holds_6 (lv_at hl 6 rfl) ?_
    refine lv_iload_n C.1 C.2.1 dX12_holds_8 rfl (lv_at hl 1 rfl) ?_
    refine lv_icmp_ge (tgt := 197) C.1 C.2.1 dX12_holds_9 (by decide) (fun c1 => ?_) (fun c1 => ?_)
    · have h := h.1 c1
      refine lv_iload C.1 C.2.1 dX12_holds_197 (lv_at hl 5 rfl) ?_
      exact gx_zret C hr g dX12_holds_199 h.1 h.2
    · have h := h.2 c1
      refine lv_aload_n C.1 C.2.1 dX12_holds_12 rfl (lv_at hl 0 rfl) ?_
      refine gx_getR C g fl_X12_83 dX12_holds_13 sh_11 rfl (by decide) ?_
      refine lv_iload C.1 C.2.1 dX12_holds_16 (lv_at hl 6 rfl) ?_
      obtain ⟨i2, h⟩ := h
      refine gx_zald C g dX12_holds_18 sh_69 i2 ?_
      refine lv_if_eq (tgt := 29) C.1 C.2.1 dX12_holds_19 (by decide) (fun c3 => ?_) (fun c3 => ?_)
      · have h := h.1 c3
        exact tX12_holds_29 C hr ih x2 x3 x4 x5 x6 x7 _ _ _ _ (lv_sub hl [0, 1, 2, 3, 4, 5, 6] rfl) g h
      · have h := h.2 c3
        refine lv_iload C.1 C.2.1 dX12_holds_22 (lv_at hl 5 rfl) ?_
        refine lv_if_eq (tgt := 29) C.1 C.2.1 dX12_holds_24 (by decide) (fun c4 => ?_) (fun c4 => ?_)
        · have h := h.1 c4
          exact tX12_holds_29 C hr ih x2 x3 x4 x5 x6 x7 _ _ _ _ (lv_sub hl [0, 1, 2, 3, 4, 5, 6] rfl) g h
        · have h := h.2 c4
          refine lv_iconst (v := 1) C.1 C.2.1 dX12_holds_27 (by decide) ?_
          exact gx_zret C hr g dX12_holds_28 (by decide) h
set_option maxHeartbeats 4000000 in
set_option maxRecDepth 100000 in
theorem tX12_holds_e {p : Program} {l : Launch} {e : Env} {s : State} {m : MethodId} {args : Array Value} {below : List Frame} {meth : Method} {c : Code} {E : EE} {base : Nat} (C : Cx p E base s m args meth c cX12_holds 10 RX12) (hr : meth.sig.returnType = (some .boolean)) {Q : Int32 → St → Prop} : ∀ (x1 : Int32) (x2 : Int32) (x3 : Int32) (x4 : Int32) (x5 : Int32) (σ : St) (H : Heap) (locs : List Loc) (ls : Array Slot), lv_has ls 10 [(0, .ref (ga E 11)), (1, .int x1), (2, .int x2), (3, .int x3), (4, .int x4), (5, .int x5)] → GW E base s σ H locs → wX12_holds x1 x2 x3 x4 x5 σ Q → W p l e rmX12_holds s m args below meth c H locs 0 0 (MQ below (QI E base Q) args s 0 0 (fun q => base ≤ q)) (F0 m 0 ls []) := by
  intro x1 x2 x3 x4 x5 σ H locs ls hl g h
  refine lv_iconst (v := 0) C.1 C.2.1 dX12_holds_0 (by decide) ?_
  refine lv_istore (lv' := [(6, .int (0 : Int32)), (0, .ref (ga E 11)), (1, .int x1), (2, .int x2), (3, .int x3), (4, .int x4), (5, .int x5)]) C.1 C.2.1 dX12_holds_1 hl (by decide) rfl (fun ls hl => ?_)
  refine lv_iload_n C.1 C.2.1 dX12_holds_3 rfl (lv_at hl 2 rfl) ?_
  refine lv_istore (lv' := [(7, .int x1), (6, .int (0 : Int32)), (0, .ref (ga E 11)), (1, .int x1), (2, .int x2), (3, .int x3), (4, .int x4), (5, .int x5)]) C.1 C.2.1 dX12_holds_4 hl (by decide) rfl (fun ls hl => ?_)
  obtain ⟨j, h⟩ := h
  exact tX12_holds_6 C hr j x2 x3 x4 x5 (0 : Int32) x1 _ _ _ _ (lv_sub hl [2, 4, 5, 6, 7, 1, 0] rfl) g h
theorem mX12_holds {l : Launch} {E : EE} {base : Nat} (x1 : Int32) (x2 : Int32) (x3 : Int32) (x4 : Int32) (x5 : Int32) (σ : St) (Q : Int32 → St → Prop) (h : wX12_holds x1 x2 x3 x4 x5 σ Q) : Met l yX12_holds (wy yX12_holds cX12_holds 10 (some .boolean)) rmX12_holds (va_Pc [.ref (ga E 11), .int x1, .int x2, .int x3, .int x4, .int x5] (fun U => SW E base σ U)) (QI E base Q) (rmX12_holds).cells (rmX12_holds).slots (fun q => base ≤ q) :=
  met_of (by decide) (Nat.le_of_ble_eq_true rfl) (fun p e s m args below meth c C hr g ls hl => tX12_holds_e C hr x1 x2 x3 x4 x5 _ _ _ _ hl g h)
abbrev rmX12_counts : Room := { frames := 3, cells := 0, slots := 0, locals := 83 }
def wX12_counts_115 (Q : Int32 → St → Prop) (σ : St) : Prop := Q (1 : Int32) σ
def wX12_counts_77 (Q : Int32 → St → Prop) (x1 : Int32) (x2 : Int32) (x3 : Int32) (x4 : Int32) (σ : St) : Prop := vp_in x1 31 ∧ vp_in x1 31 ∧ (((gv σ 63 x1.toNatClampNeg) = (gv σ 64 x1.toNatClampNeg) → wX12_counts_115 Q σ) ∧ (¬ ((gv σ 63 x1.toNatClampNeg) = (gv σ 64 x1.toNatClampNeg)) → vp_in x1 31 ∧ vp_in x1 31 ∧ wX12_holds (gv σ 63 x1.toNatClampNeg) (gv σ 64 x1.toNatClampNeg) x2 x3 x4 σ (fun (r6 : Int32) (σ7 : St) => ((r6 = 0 → Q (0 : Int32) σ7) ∧ (¬ (r6 = 0) → wX12_counts_115 Q σ7)))))
def wX12_counts_22 (Q : Int32 → St → Prop) (x1 : Int32) (x2 : Int32) (x3 : Int32) (x4 : Int32) (σ : St) : Prop := ∀ x5_1 : Int32, x5_1 = x3 / (24 : Int32) → vp_in x1 31 ∧ vp_in (gv σ 58 x1.toNatClampNeg) 11 ∧ ((x5_1 < (gv σ 56 (gv σ 58 x1.toNatClampNeg).toNatClampNeg) → Q (0 : Int32) σ) ∧ (¬ (x5_1 < (gv σ 56 (gv σ 58 x1.toNatClampNeg).toNatClampNeg)) → vp_in x1 31 ∧ vp_in (gv σ 58 x1.toNatClampNeg) 11 ∧ (((gv σ 57 (gv σ 58 x1.toNatClampNeg).toNatClampNeg) = (-1 : Int32) → wX12_counts_77 Q x1 x2 x3 x4 σ) ∧ (¬ ((gv σ 57 (gv σ 58 x1.toNatClampNeg).toNatClampNeg) = (-1 : Int32)) → vp_in x1 31 ∧ vp_in (gv σ 58 x1.toNatClampNeg) 11 ∧ ((x5_1 < (gv σ 57 (gv σ 58 x1.toNatClampNeg).toNatClampNeg) → wX12_counts_77 Q x1 x2 x3 x4 σ) ∧ (¬ (x5_1 < (gv σ 57 (gv σ 58 x1.toNatClampNeg).toNatClampNeg)) → Q (0 : Int32) σ))))))
def wX12_counts (x1 : Int32) (x2 : Int32) (x3 : Int32) (x4 : Int32) (σ : St) (Q : Int32 → St → Prop) : Prop := vp_in x1 31 ∧ (((gv σ 59 x1.toNatClampNeg) = (-1 : Int32) → wX12_counts_22 Q x1 x2 x3 x4 σ) ∧ (¬ ((gv σ 59 x1.toNatClampNeg) = (-1 : Int32)) → vp_in x1 31 ∧ (((gv σ 59 x1.toNatClampNeg) = x2 → wX12_counts_22 Q x1 x2 x3 x4 σ) ∧ (¬ ((gv σ 59 x1.toNatClampNeg) = x2) → Q (0 : Int32) σ))))
set_option maxHeartbeats 4000000 in
set_option maxRecDepth 100000 in
theorem tX12_counts_115 {p : Program} {l : Launch} {e : Env} {s : State} {m : MethodId} {args : Array Value} {below : List Frame} {meth : Method} {c : Code} {E : EE} {base : Nat} (C : Cx p E base s m args meth c cX12_counts 6 RX12) (hr : meth.sig.returnType = (some .boolean)) {Q : Int32 → St → Prop} : ∀ (σ : St) (H : Heap) (locs : List Loc) (ls : Array Slot), lv_has ls 6 [] → GW E base s σ H locs → wX12_counts_115 Q σ → W p l e rmX12_counts s m args below meth c H locs 0 0 (MQ below (QI E base Q) args s 0 0 (fun q => base ≤ q)) (F0 m 115 ls []) := by
  intro σ H locs ls hl g h
  refine lv_iconst (v := 1) C.1 C.2.1 dX12_counts_115 (by decide) ?_
  refine lv_goto (tgt := 120) C.1 C.2.1 dX12_counts_116 (by decide) ?_
  exact gx_zret C hr g dX12_counts_120 (by decide) h
set_option maxHeartbeats 4000000 in
set_option maxRecDepth 100000 in
theorem tX12_counts_77 {p : Program} {l : Launch} {e : Env} {s : State} {m : MethodId} {args : Array Value} {below : List Frame} {meth : Method} {c : Code} {E : EE} {base : Nat} (C : Cx p E base s m args meth c cX12_counts 6 RX12) (hr : meth.sig.returnType = (some .boolean)) {Q : Int32 → St → Prop} : ∀ (x1 : Int32) (x2 : Int32) (x3 : Int32) (x4 : Int32) (σ : St) (H : Heap) (locs : List Loc) (ls : Array Slot), lv_has ls 6 [(0, .ref (ga E 11)), (1, .int x1), (2, .int x2), (3, .int x3), (4, .int x4)] → GW E base s σ H locs → wX12_counts_77 Q x1 x2 x3 x4 σ → W p l e rmX12_counts s m args below meth c H locs 0 0 (MQ below (QI E base Q) args s 0 0 (fun q => base ≤ q)) (F0 m 77 ls []) := by
  intro x1 x2 x3 x4 σ H locs ls hl g h
  refine lv_aload_n C.1 C.2.1 dX12_counts_77 rfl (lv_at hl 0 rfl) ?_
  refine gx_getR C g fl_X12_65 dX12_counts_78 sh_11 rfl (by decide) ?_
  refine lv_iload_n C.1 C.2.1 dX12_counts_81 rfl (lv_at hl 1 rfl) ?_
  obtain ⟨i1, h⟩ := h
  refine gx_iald C g dX12_counts_82 sh_63 i1 ?_
  refine lv_aload_n C.1 C.2.1 dX12_counts_83 rfl (lv_at hl 0 rfl) ?_
  refine gx_getR C g fl_X12_68 dX12_counts_84 sh_11 rfl (by decide) ?_
  refine lv_iload_n C.1 C.2.1 dX12_counts_87 rfl (lv_at hl 1 rfl) ?_
  obtain ⟨i2, h⟩ := h
  refine gx_iald C g dX12_counts_88 sh_64 i2 ?_
  refine lv_icmp_eq (tgt := 115) C.1 C.2.1 dX12_counts_89 (by decide) (fun c3 => ?_) (fun c3 => ?_)
  · have h := h.1 c3
    exact tX12_counts_115 C hr _ _ _ _ (lv_sub hl [] rfl) g h
  · have h := h.2 c3
    refine lv_aload_n C.1 C.2.1 dX12_counts_92 rfl (lv_at hl 0 rfl) ?_
    refine lv_aload_n C.1 C.2.1 dX12_counts_93 rfl (lv_at hl 0 rfl) ?_
    refine gx_getR C g fl_X12_65 dX12_counts_94 sh_11 rfl (by decide) ?_
    refine lv_iload_n C.1 C.2.1 dX12_counts_97 rfl (lv_at hl 1 rfl) ?_
    obtain ⟨i4, h⟩ := h
    refine gx_iald C g dX12_counts_98 sh_63 i4 ?_
    refine lv_aload_n C.1 C.2.1 dX12_counts_99 rfl (lv_at hl 0 rfl) ?_
    refine gx_getR C g fl_X12_68 dX12_counts_100 sh_11 rfl (by decide) ?_
    refine lv_iload_n C.1 C.2.1 dX12_counts_103 rfl (lv_at hl 1 rfl) ?_
    obtain ⟨i5, h⟩ := h
    refine gx_iald C g dX12_counts_104 sh_64 i5 ?_
    refine lv_iload_n C.1 C.2.1 dX12_counts_105 rfl (lv_at hl 2 rfl) ?_
    refine lv_iload_n C.1 C.2.1 dX12_counts_106 rfl (lv_at hl 3 rfl) ?_
    refine lv_iload C.1 C.2.1 dX12_counts_107 (lv_at hl 4 rfl) ?_
    refine gx_calli0 g (gx_runV (k := 11) (rest := []) C g mb_X12_holds ml_X12_336 rfl sh_11 (mX12_holds (gv σ 63 x1.toNatClampNeg) (gv σ 64 x1.toNatClampNeg) x2 x3 x4 _ _ h) ⟨Nat.le_of_ble_eq_true rfl, Nat.le_of_ble_eq_true rfl⟩ ⟨Nat.le_refl _, Nat.le_refl _⟩ rfl hl.1 rfl (Nat.le_of_ble_eq_true rfl) dX12_counts_109) rfl rfl (fun r6 σ7 H locs h g => ?_)
    refine lv_if_eq (tgt := 119) C.1 C.2.1 dX12_counts_112 (by decide) (fun c8 => ?_) (fun c8 => ?_)
    · have h := h.1 c8
      refine lv_iconst (v := 0) C.1 C.2.1 dX12_counts_119 (by decide) ?_
      exact gx_zret C hr g dX12_counts_120 (by decide) h
    · have h := h.2 c8
      exact tX12_counts_115 C hr _ _ _ _ (lv_sub hl [] rfl) g h
set_option maxHeartbeats 4000000 in
set_option maxRecDepth 100000 in
theorem tX12_counts_22 {p : Program} {l : Launch} {e : Env} {s : State} {m : MethodId} {args : Array Value} {below : List Frame} {meth : Method} {c : Code} {E : EE} {base : Nat} (C : Cx p E base s m args meth c cX12_counts 6 RX12) (hr : meth.sig.returnType = (some .boolean)) {Q : Int32 → St → Prop} : ∀ (x1 : Int32) (x2 : Int32) (x3 : Int32) (x4 : Int32) (σ : St) (H : Heap) (locs : List Loc) (ls : Array Slot), lv_has ls 6 [(0, .ref (ga E 11)), (1, .int x1), (2, .int x2), (3, .int x3), (4, .int x4)] → GW E base s σ H locs → wX12_counts_22 Q x1 x2 x3 x4 σ → W p l e rmX12_counts s m args below meth c H locs 0 0 (MQ below (QI E base Q) args s 0 0 (fun q => base ≤ q)) (F0 m 22 ls []) := by
  intro x1 x2 x3 x4 σ H locs ls hl g h
  refine lv_iload_n C.1 C.2.1 dX12_counts_22 rfl (lv_at hl 3 rfl) ?_
  refine lv_bipush (v := 24) C.1 C.2.1 dX12_counts_23 (by decide) ?_
  refine lv_idiv C.1 C.2.1 dX12_counts_25 (by decide) ?_
  refine lv_topi (fun x5_1 ex5_1 => ?_)
  have h := h x5_1 ex5_1
  refine lv_istore (lv' := [(5, .int x5_1), (0, .ref (ga E 11)), (1, .int x1), (2, .int x2), (3, .int x3), (4, .int x4)]) C.1 C.2.1 dX12_counts_26 hl (by decide) rfl (fun ls hl => ?_)
  refine lv_iload C.1 C.2.1 dX12_counts_28 (lv_at hl 0 rfl) ?_
  refine lv_aload_n C.1 C.2.1 dX12_counts_30 rfl (lv_at hl 1 rfl) ?_
  refine gx_getR C g fl_X12_43 dX12_counts_31 sh_11 rfl (by decide) ?_
  refine lv_aload_n C.1 C.2.1 dX12_counts_34 rfl (lv_at hl 1 rfl) ?_
  refine gx_getR C g fl_X12_49 dX12_counts_35 sh_11 rfl (by decide) ?_
  refine lv_iload_n C.1 C.2.1 dX12_counts_38 rfl (lv_at hl 2 rfl) ?_
  obtain ⟨i2, h⟩ := h
  refine gx_iald C g dX12_counts_39 sh_58 i2 ?_
  obtain ⟨i3, h⟩ := h
  refine gx_iald C g dX12_counts_40 sh_56 i3 ?_
  refine lv_icmp_lt (tgt := 75) C.1 C.2.1 dX12_counts_41 (by decide) (fun c4 => ?_) (fun c4 => ?_)
  · have h := h.1 c4
    refine lv_iconst (v := 0) C.1 C.2.1 dX12_counts_75 (by decide) ?_
    exact gx_zret C hr g dX12_counts_76 (by decide) h
  · have h := h.2 c4
    refine lv_aload_n C.1 C.2.1 dX12_counts_44 rfl (lv_at hl 1 rfl) ?_
    refine gx_getR C g fl_X12_46 dX12_counts_45 sh_11 rfl (by decide) ?_
    refine lv_aload_n C.1 C.2.1 dX12_counts_48 rfl (lv_at hl 1 rfl) ?_
    refine gx_getR C g fl_X12_49 dX12_counts_49 sh_11 rfl (by decide) ?_
    refine lv_iload_n C.1 C.2.1 dX12_counts_52 rfl (lv_at hl 2 rfl) ?_
    obtain ⟨i5, h⟩ := h
    refine gx_iald C g dX12_counts_53 sh_58 i5 ?_
    obtain ⟨i6, h⟩ := h
    refine gx_iald C g dX12_counts_54 sh_57 i6 ?_
    refine lv_iconst (v := -1) C.1 C.2.1 dX12_counts_55 (by decide) ?_
    refine lv_icmp_eq (tgt := 77) C.1 C.2.1 dX12_counts_56 (by decide) (fun c7 => ?_) (fun c7 => ?_)
    · have h := h.1 c7
      exact tX12_counts_77 C hr x1 x2 x3 x4 _ _ _ _ (lv_sub hl [1, 2, 3, 4, 5] rfl) g h
    · have h := h.2 c7
      refine lv_iload C.1 C.2.1 dX12_counts_59 (lv_at hl 0 rfl) ?_
      refine lv_aload_n C.1 C.2.1 dX12_counts_61 rfl (lv_at hl 1 rfl) ?_
      refine gx_getR C g fl_X12_46 dX12_counts_62 sh_11 rfl (by decide) ?_
      refine lv_aload_n C.1 C.2.1 dX12_counts_65 rfl (lv_at hl 1 rfl) ?_
      refine gx_getR C g fl_X12_49 dX12_counts_66 sh_11 rfl (by decide) ?_
      refine lv_iload_n C.1 C.2.1 dX12_counts_69 rfl (lv_at hl 2 rfl) ?_
      obtain ⟨i8, h⟩ := h
      refine gx_iald C g dX12_counts_70 sh_58 i8 ?_
      obtain ⟨i9, h⟩ := h
      refine gx_iald C g dX12_counts_71 sh_57 i9 ?_
      refine lv_icmp_lt (tgt := 77) C.1 C.2.1 dX12_counts_72 (by decide) (fun c10 => ?_) (fun c10 => ?_)
      · have h := h.1 c10
        exact tX12_counts_77 C hr x1 x2 x3 x4 _ _ _ _ (lv_sub hl [1, 2, 3, 4, 5] rfl) g h
      · have h := h.2 c10
        refine lv_iconst (v := 0) C.1 C.2.1 dX12_counts_75 (by decide) ?_
        exact gx_zret C hr g dX12_counts_76 (by decide) h
set_option maxHeartbeats 4000000 in
set_option maxRecDepth 100000 in
theorem tX12_counts_e {p : Program} {l : Launch} {e : Env} {s : State} {m : MethodId} {args : Array Value} {below : List Frame} {meth : Method} {c : Code} {E : EE} {base : Nat} (C : Cx p E base s m args meth c cX12_counts 6 RX12) (hr : meth.sig.returnType = (some .boolean)) {Q : Int32 → St → Prop} : ∀ (x1 : Int32) (x2 : Int32) (x3 : Int32) (x4 : Int32) (σ : St) (H : Heap) (locs : List Loc) (ls : Array Slot), lv_has ls 6 [(0, .ref (ga E 11)), (1, .int x1), (2, .int x2), (3, .int x3), (4, .int x4)] → GW E base s σ H locs → wX12_counts x1 x2 x3 x4 σ Q → W p l e rmX12_counts s m args below meth c H locs 0 0 (MQ below (QI E base Q) args s 0 0 (fun q => base ≤ q)) (F0 m 0 ls []) := by
  intro x1 x2 x3 x4 σ H locs ls hl g h
  refine lv_aload_n C.1 C.2.1 dX12_counts_0 rfl (lv_at hl 0 rfl) ?_
  refine gx_getR C g fl_X12_52 dX12_counts_1 sh_11 rfl (by decide) ?_
  refine lv_iload_n C.1 C.2.1 dX12_counts_4 rfl (lv_at hl 1 rfl) ?_
  obtain ⟨i1, h⟩ := h
  refine gx_iald C g dX12_counts_5 sh_59 i1 ?_
  refine lv_iconst (v := -1) C.1 C.2.1 dX12_counts_6 (by decide) ?_
  refine lv_icmp_eq (tgt := 22) C.1 C.2.1 dX12_counts_7 (by decide) (fun c2 => ?_) (fun c2 => ?_)
  · have h := h.1 c2
    exact tX12_counts_22 C hr x1 x2 x3 x4 _ _ _ _ (lv_sub hl [0, 1, 2, 3, 4] rfl) g h
  · have h := h.2 c2
    refine lv_aload_n C.1 C.2.1 dX12_counts_10 rfl (lv_at hl 0 rfl) ?_
    refine gx_getR C g fl_X12_52 dX12_counts_11 sh_11 rfl (by decide) ?_
    refine lv_iload_n C.1 C.2.1 dX12_counts_14 rfl (lv_at hl 1 rfl) ?_
    obtain ⟨i3, h⟩ := h
    refine gx_iald C g dX12_counts_15 sh_59 i3 ?_
    refine lv_iload_n C.1 C.2.1 dX12_counts_16 rfl (lv_at hl 2 rfl) ?_
    refine lv_icmp_eq (tgt := 22) C.1 C.2.1 dX12_counts_17 (by decide) (fun c4 => ?_) (fun c4 => ?_)
    · have h := h.1 c4
      exact tX12_counts_22 C hr x1 x2 x3 x4 _ _ _ _ (lv_sub hl [0, 1, 2, 3, 4] rfl) g h
    · have h := h.2 c4
      refine lv_iconst (v := 0) C.1 C.2.1 dX12_counts_20 (by decide) ?_
      exact gx_zret C hr g dX12_counts_21 (by decide) h
theorem mX12_counts {l : Launch} {E : EE} {base : Nat} (x1 : Int32) (x2 : Int32) (x3 : Int32) (x4 : Int32) (σ : St) (Q : Int32 → St → Prop) (h : wX12_counts x1 x2 x3 x4 σ Q) : Met l yX12_counts (wy yX12_counts cX12_counts 6 (some .boolean)) rmX12_counts (va_Pc [.ref (ga E 11), .int x1, .int x2, .int x3, .int x4] (fun U => SW E base σ U)) (QI E base Q) (rmX12_counts).cells (rmX12_counts).slots (fun q => base ≤ q) :=
  met_of (by decide) (Nat.le_of_ble_eq_true rfl) (fun p e s m args below meth c C hr g ls hl => tX12_counts_e C hr x1 x2 x3 x4 _ _ _ _ hl g h)
abbrev rmX12_factorOf : Room := { frames := 0, cells := 0, slots := 0, locals := 0 }
def wX12_factorOf (x1 : Int32) (σ : St) (Q : Int32 → St → Prop) : Prop := ((0 < x1 → (((gv σ 11 49) = (-1 : Int32) → Q (1 : Int32) σ) ∧ (¬ ((gv σ 11 49) = (-1 : Int32)) → (((gv σ 11 49) ≤ (x1 / (10 : Int32)) → vp_in ((gv σ 11 49) - (1 : Int32)) 20 ∧ Q (gv σ 77 ((gv σ 11 49) - (1 : Int32)).toNatClampNeg) σ) ∧ (¬ ((gv σ 11 49) ≤ (x1 / (10 : Int32))) → vp_in (x1 / (10 : Int32)) 20 ∧ Q (gv σ 77 (x1 / (10 : Int32)).toNatClampNeg) σ))))) ∧ (¬ (0 < x1) → Q (0 : Int32) σ))
set_option maxHeartbeats 4000000 in
set_option maxRecDepth 100000 in
theorem tX12_factorOf_e {p : Program} {l : Launch} {e : Env} {s : State} {m : MethodId} {args : Array Value} {below : List Frame} {meth : Method} {c : Code} {E : EE} {base : Nat} (C : Cx p E base s m args meth c cX12_factorOf 2 RX12) (hr : meth.sig.returnType = (some .int)) {Q : Int32 → St → Prop} : ∀ (x1 : Int32) (σ : St) (H : Heap) (locs : List Loc) (ls : Array Slot), lv_has ls 2 [(0, .ref (ga E 11)), (1, .int x1)] → GW E base s σ H locs → wX12_factorOf x1 σ Q → W p l e rmX12_factorOf s m args below meth c H locs 0 0 (MQ below (QI E base Q) args s 0 0 (fun q => base ≤ q)) (F0 m 0 ls []) := by
  intro x1 σ H locs ls hl g h
  refine lv_iload_n C.1 C.2.1 dX12_factorOf_0 rfl (lv_at hl 1 rfl) ?_
  refine lv_if_gt (tgt := 6) C.1 C.2.1 dX12_factorOf_1 (by decide) (fun c1 => ?_) (fun c1 => ?_)
  · have h := h.1 c1
    refine lv_aload_n C.1 C.2.1 dX12_factorOf_6 rfl (lv_at hl 0 rfl) ?_
    refine gx_getI C g fl_X12_186 dX12_factorOf_7 sh_11 rfl ?_
    refine lv_iconst (v := -1) C.1 C.2.1 dX12_factorOf_10 (by decide) ?_
    refine lv_icmp_ne (tgt := 16) C.1 C.2.1 dX12_factorOf_11 (by decide) (fun c2 => ?_) (fun c2 => ?_)
    · have h := h.2 c2
      refine lv_aload_n C.1 C.2.1 dX12_factorOf_16 rfl (lv_at hl 0 rfl) ?_
      refine gx_getR C g fl_X12_107 dX12_factorOf_17 sh_11 rfl (by decide) ?_
      refine lv_iload_n C.1 C.2.1 dX12_factorOf_20 rfl (lv_at hl 1 rfl) ?_
      refine lv_bipush (v := 10) C.1 C.2.1 dX12_factorOf_21 (by decide) ?_
      refine lv_idiv C.1 C.2.1 dX12_factorOf_23 (by decide) ?_
      refine lv_aload_n C.1 C.2.1 dX12_factorOf_24 rfl (lv_at hl 0 rfl) ?_
      refine gx_getI C g fl_X12_186 dX12_factorOf_25 sh_11 rfl ?_
      refine lv_icmp_ge (tgt := 38) C.1 C.2.1 dX12_factorOf_28 (by decide) (fun c3 => ?_) (fun c3 => ?_)
      · have h := h.1 c3
        refine lv_aload_n C.1 C.2.1 dX12_factorOf_38 rfl (lv_at hl 0 rfl) ?_
        refine gx_getI C g fl_X12_186 dX12_factorOf_39 sh_11 rfl ?_
        refine lv_iconst (v := 1) C.1 C.2.1 dX12_factorOf_42 (by decide) ?_
        refine lv_isub C.1 C.2.1 dX12_factorOf_43 ?_
        obtain ⟨i4, h⟩ := h
        refine gx_iald C g dX12_factorOf_44 sh_77 i4 ?_
        exact gx_iret C hr g dX12_factorOf_45 h
      · have h := h.2 c3
        refine lv_iload_n C.1 C.2.1 dX12_factorOf_31 rfl (lv_at hl 1 rfl) ?_
        refine lv_bipush (v := 10) C.1 C.2.1 dX12_factorOf_32 (by decide) ?_
        refine lv_idiv C.1 C.2.1 dX12_factorOf_34 (by decide) ?_
        refine lv_goto (tgt := 44) C.1 C.2.1 dX12_factorOf_35 (by decide) ?_
        obtain ⟨i5, h⟩ := h
        refine gx_iald C g dX12_factorOf_44 sh_77 i5 ?_
        exact gx_iret C hr g dX12_factorOf_45 h
    · have h := h.1 c2
      refine lv_iconst (v := 1) C.1 C.2.1 dX12_factorOf_14 (by decide) ?_
      exact gx_iret C hr g dX12_factorOf_15 h
  · have h := h.2 c1
    refine lv_iconst (v := 0) C.1 C.2.1 dX12_factorOf_4 (by decide) ?_
    exact gx_iret C hr g dX12_factorOf_5 h
theorem mX12_factorOf {l : Launch} {E : EE} {base : Nat} (x1 : Int32) (σ : St) (Q : Int32 → St → Prop) (h : wX12_factorOf x1 σ Q) : Met l yX12_factorOf (wy yX12_factorOf cX12_factorOf 2 (some .int)) rmX12_factorOf (va_Pc [.ref (ga E 11), .int x1] (fun U => SW E base σ U)) (QI E base Q) (rmX12_factorOf).cells (rmX12_factorOf).slots (fun q => base ≤ q) :=
  met_of (by decide) (Nat.le_of_ble_eq_true rfl) (fun p e s m args below meth c C hr g ls hl => tX12_factorOf_e C hr x1 _ _ _ _ hl g h)
abbrev rmX12_steps : Room := { frames := 4, cells := 0, slots := 0, locals := 108 }
def wX12_steps_568 (Q : St → Prop) : Nat → Int32 → Int32 → St → Prop
  | 0, _, _, _ => False
  | n + 1, x1, x4, σ => (((gv σ 11 43) ≤ x4 → Q σ) ∧ (¬ ((gv σ 11 43) ≤ x4) → vp_in x4 7 ∧ vp_in ((10 : Int32) * (((7 : Int32) * (x1 + (1 : Int32))) + x4)) 16800 ∧ ∀ σ4 : St, σ4 = pv σ 88 ((10 : Int32) * (((7 : Int32) * (x1 + (1 : Int32))) + x4)).toNatClampNeg (gv σ 93 x4.toNatClampNeg) → ∀ x4_5 : Int32, x4_5 = x4 + 1 → wX12_steps_568 Q n x1 x4_5 σ4))
def wX12_steps_438 (Q : St → Prop) (K123 : Int32 → Int32 → St → Prop) (x1 : Int32) (x4 : Int32) (x5 : Int32) (x7 : Int32) (x9 : Int32) (x10 : Int32) (x11 : Int32) (x12 : Int32) (xt0 : Int32) (σ : St) : Prop := ∀ x10_1 : Int32, x10_1 = x10 - xt0 → vp_in (x5 + (3 : Int32)) 16800 ∧ ∀ σ3 : St, σ3 = pv σ 88 (x5 + (3 : Int32)).toNatClampNeg x7 → vp_in (x5 + (4 : Int32)) 16800 ∧ ∀ σ5 : St, σ5 = pv σ3 88 (x5 + (4 : Int32)).toNatClampNeg x9 → vp_in (x5 + (5 : Int32)) 16800 ∧ ∀ σ7 : St, σ7 = pv σ5 88 (x5 + (5 : Int32)).toNatClampNeg x11 → wX12_factorOf x9 σ7 (fun (r8 : Int32) (σ9 : St) => vp_in (x5 + (6 : Int32)) 16800 ∧ ∀ σ11 : St, σ11 = pv σ9 88 (x5 + (6 : Int32)).toNatClampNeg (x11 * r8) → vp_in (x5 + (7 : Int32)) 16800 ∧ ∀ σ13 : St, σ13 = pv σ11 88 (x5 + (7 : Int32)).toNatClampNeg x12 → vp_in (x5 + (8 : Int32)) 16800 ∧ ∀ σ15 : St, σ15 = pv σ13 88 (x5 + (8 : Int32)).toNatClampNeg xt0 → vp_in (x5 + (9 : Int32)) 16800 ∧ ∀ σ17 : St, σ17 = pv σ15 88 (x5 + (9 : Int32)).toNatClampNeg ((x11 + x12) + xt0) → vp_in x4 7 ∧ ∀ σ19 : St, σ19 = pv σ17 93 x4.toNatClampNeg x10_1 → ∀ x4_20 : Int32, x4_20 = x4 + 1 → K123 x1 x4_20 σ19)
def wX12_steps_403 (Q : St → Prop) (K123 : Int32 → Int32 → St → Prop) (x1 : Int32) (x4 : Int32) (x5 : Int32) (x7 : Int32) (x9 : Int32) (x10 : Int32) (x11 : Int32) (xt0 : Int32) (σ : St) : Prop := ∀ x10_1 : Int32, x10_1 = x10 - xt0 → vp_in x4 7 ∧ ((x10_1 ≤ (gv σ 73 x4.toNatClampNeg) → wX12_steps_438 Q K123 x1 x4 x5 x7 x9 x10_1 x11 xt0 (0 : Int32) σ) ∧ (¬ (x10_1 ≤ (gv σ 73 x4.toNatClampNeg)) → vp_in x4 7 ∧ wX12_steps_438 Q K123 x1 x4 x5 x7 x9 x10_1 x11 xt0 (x10_1 - (gv σ 73 x4.toNatClampNeg)) σ))
def wX12_steps_376 (Q : St → Prop) (K123 : Int32 → Int32 → St → Prop) (x1 : Int32) (x4 : Int32) (x5 : Int32) (x7 : Int32) (x9 : Int32) (x10 : Int32) (xt0 : Int32) (σ : St) : Prop := ∀ x10_1 : Int32, x10_1 = x10 - xt0 → ((x10_1 ≤ ((3 : Int32) * x7) → wX12_steps_403 Q K123 x1 x4 x5 x7 x9 x10_1 xt0 x10_1 σ) ∧ (¬ (x10_1 ≤ ((3 : Int32) * x7)) → wX12_steps_403 Q K123 x1 x4 x5 x7 x9 x10_1 xt0 ((3 : Int32) * x7) σ))
def wX12_steps_322 (Q : St → Prop) (K123 : Int32 → Int32 → St → Prop) (x1 : Int32) (x4 : Int32) (x5 : Int32) (x7 : Int32) (xt0 : Int32) (xt1 : Int32) (σ : St) : Prop := ∀ x9_1 : Int32, x9_1 = xt0 - xt1 → vp_in x5 16800 ∧ vp_in (x5 + (1 : Int32)) 16800 ∧ ∀ x10_4 : Int32, x10_4 = (gv σ 88 x5.toNatClampNeg) + (gv σ 88 (x5 + (1 : Int32)).toNatClampNeg) → vp_in (x5 + (2 : Int32)) 16800 ∧ ((x10_4 ≤ ((2 : Int32) * (gv σ 88 (x5 + (2 : Int32)).toNatClampNeg)) → wX12_steps_376 Q K123 x1 x4 x5 x7 x9_1 x10_4 x10_4 σ) ∧ (¬ (x10_4 ≤ ((2 : Int32) * (gv σ 88 (x5 + (2 : Int32)).toNatClampNeg))) → vp_in (x5 + (2 : Int32)) 16800 ∧ wX12_steps_376 Q K123 x1 x4 x5 x7 x9_1 x10_4 ((2 : Int32) * (gv σ 88 (x5 + (2 : Int32)).toNatClampNeg)) σ))
def wX12_steps_302 (Q : St → Prop) (K123 : Int32 → Int32 → St → Prop) (x1 : Int32) (x4 : Int32) (x5 : Int32) (x7 : Int32) (xt0 : Int32) (σ : St) : Prop := vp_in x5 16800 ∧ ((xt0 ≤ 0 → wX12_steps_322 Q K123 x1 x4 x5 x7 (gv σ 88 x5.toNatClampNeg) (0 : Int32) σ) ∧ (¬ (xt0 ≤ 0) → wX12_steps_322 Q K123 x1 x4 x5 x7 (gv σ 88 x5.toNatClampNeg) xt0 σ))
def wX12_steps_267 (Q : St → Prop) (K123 : Int32 → Int32 → St → Prop) (x1 : Int32) (x4 : Int32) (x5 : Int32) (x7 : Int32) (σ : St) : Prop := (((gv σ 11 43) ≤ (x4 + (1 : Int32)) → wX12_steps_302 Q K123 x1 x4 x5 x7 (0 : Int32) σ) ∧ (¬ ((gv σ 11 43) ≤ (x4 + (1 : Int32))) → vp_in (x5 + (10 : Int32)) 16800 ∧ vp_in (x4 + (1 : Int32)) 7 ∧ wX12_steps_302 Q K123 x1 x4 x5 x7 ((gv σ 88 (x5 + (10 : Int32)).toNatClampNeg) - (gv σ 74 (x4 + (1 : Int32)).toNatClampNeg)) σ))
def wX12_steps_240 (Q : St → Prop) (K123 : Int32 → Int32 → St → Prop) (K168 : Int32 → Int32 → Int32 → Int32 → Int32 → Int32 → St → Prop) (x1 : Int32) (x4 : Int32) (x5 : Int32) (x6 : Int32) (x7 : Int32) (x8 : Int32) (σ : St) : Prop := ∀ x8_1 : Int32, x8_1 = x8 + 1 → K168 x1 x4 x5 x6 x7 x8_1 σ
def wX12_steps_168 (Q : St → Prop) (K123 : Int32 → Int32 → St → Prop) : Nat → Int32 → Int32 → Int32 → Int32 → Int32 → Int32 → St → Prop
  | 0, _, _, _, _, _, _, _ => False
  | n + 1, x1, x4, x5, x6, x7, x8, σ => (((gv σ 11 23) ≤ x8 → vp_in x4 7 ∧ ((x7 ≤ (gv σ 76 x4.toNatClampNeg) → wX12_steps_267 Q K123 x1 x4 x5 x7 σ) ∧ (¬ (x7 ≤ (gv σ 76 x4.toNatClampNeg)) → vp_in x4 7 ∧ ∀ x7_5 : Int32, x7_5 = gv σ 76 x4.toNatClampNeg → wX12_steps_267 Q K123 x1 x4 x5 x7_5 σ))) ∧ (¬ ((gv σ 11 23) ≤ x8) → vp_in x8 31 ∧ (((gv σ 60 x8.toNatClampNeg) = 0 → wX12_steps_240 Q K123 (fun x1' x4' x5' x6' x7' x8' σ' => wX12_steps_168 Q K123 n x1' x4' x5' x6' x7' x8' σ') x1 x4 x5 x6 x7 x8 σ) ∧ (¬ ((gv σ 60 x8.toNatClampNeg) = 0) → wX12_counts x8 x4 x1 x6 σ (fun (r8 : Int32) (σ9 : St) => ((r8 = 0 → wX12_steps_240 Q K123 (fun x1' x4' x5' x6' x7' x8' σ' => wX12_steps_168 Q K123 n x1' x4' x5' x6' x7' x8' σ') x1 x4 x5 x6 x7 x8 σ9) ∧ (¬ (r8 = 0) → vp_in x8 31 ∧ vp_in x8 31 ∧ wX12_value (gv σ9 61 x8.toNatClampNeg) (gv σ9 62 x8.toNatClampNeg) x4 x1 x6 σ9 (fun (r13 : Int32) (σ14 : St) => ((r13 ≤ x7 → wX12_steps_240 Q K123 (fun x1' x4' x5' x6' x7' x8' σ' => wX12_steps_168 Q K123 n x1' x4' x5' x6' x7' x8' σ') x1 x4 x5 x6 x7 x8 σ14) ∧ (¬ (r13 ≤ x7) → wX12_steps_240 Q K123 (fun x1' x4' x5' x6' x7' x8' σ' => wX12_steps_168 Q K123 n x1' x4' x5' x6' x7' x8' σ') x1 x4 x5 x6 r13 x8 σ14))))))))))
def wX12_steps_123 (Q : St → Prop) : Nat → Int32 → Int32 → St → Prop
  | 0, _, _, _ => False
  | n + 1, x1, x4, σ => (((gv σ 11 43) ≤ x4 → (((240 : Int32) ≤ (x1 + (1 : Int32)) → Q σ) ∧ (¬ ((240 : Int32) ≤ (x1 + (1 : Int32))) → ∃ j : Nat, wX12_steps_568 Q j x1 (0 : Int32) σ))) ∧ (¬ ((gv σ 11 43) ≤ x4) → ∀ x5_3 : Int32, x5_3 = (10 : Int32) * (((7 : Int32) * x1) + x4) → vp_in ((((14 : Int32) * x1) + (7 : Int32)) + x4) 3360 ∧ ∀ x6_5 : Int32, x6_5 = gv σ 90 ((((14 : Int32) * x1) + (7 : Int32)) + x4).toNatClampNeg → ∃ j : Nat, wX12_steps_168 Q (fun x1' x4' σ' => wX12_steps_123 Q n x1' x4' σ') j x1 x4 x5_3 x6_5 x6_5 (0 : Int32) σ))
def wX12_steps_113 (Q : St → Prop) (K3 : Int32 → Int32 → Int32 → Int32 → St → Prop) (x1 : Int32) (x2 : Int32) (x3 : Int32) (x4 : Int32) (xt1 : Int32) (xt2 : Int32) (σ : St) : Prop := vp_in xt1 16800 ∧ ∀ σ2 : St, σ2 = pv σ 88 xt1.toNatClampNeg xt2 → ∀ x4_3 : Int32, x4_3 = x4 + 1 → K3 x1 x2 x3 x4_3 σ2
def wX12_steps_57 (Q : St → Prop) (K3 : Int32 → Int32 → Int32 → Int32 → St → Prop) (x1 : Int32) (x2 : Int32) (x3 : Int32) (x4 : Int32) (x5 : Int32) (xt0 : Int32) (σ : St) : Prop := vp_in (((7 : Int32) * x1) + x4) 1680 ∧ vp_in (x5 + (1 : Int32)) 16800 ∧ ∀ σ3 : St, σ3 = pv σ 88 (x5 + (1 : Int32)).toNatClampNeg (xt0 + (gv σ 89 (((7 : Int32) * x1) + x4).toNatClampNeg)) → ((x4 = x2 → wX12_steps_113 Q K3 x1 x2 x3 x4 (x5 + (2 : Int32)) x3 σ3) ∧ (¬ (x4 = x2) → vp_in (((14 : Int32) * x1) + x4) 3360 ∧ wX12_steps_113 Q K3 x1 x2 x3 x4 (x5 + (2 : Int32)) (gv σ3 90 (((14 : Int32) * x1) + x4).toNatClampNeg) σ3))
def wX12_steps_3 (Q : St → Prop) : Nat → Int32 → Int32 → Int32 → Int32 → St → Prop
  | 0, _, _, _, _, _ => False
  | n + 1, x1, x2, x3, x4, σ => (((gv σ 11 43) ≤ x4 → ∃ j : Nat, wX12_steps_123 Q j x1 (0 : Int32) σ) ∧ (¬ ((gv σ 11 43) ≤ x4) → ∀ x5_2 : Int32, x5_2 = (10 : Int32) * (((7 : Int32) * x1) + x4) → ((x4 = 0 → wX12_steps_57 Q (fun x1' x2' x3' x4' σ' => wX12_steps_3 Q n x1' x2' x3' x4' σ') x1 x2 x3 x4 x5_2 (gv σ 11 48) σ) ∧ (¬ (x4 = 0) → ((x1 = 0 → wX12_steps_57 Q (fun x1' x2' x3' x4' σ' => wX12_steps_3 Q n x1' x2' x3' x4' σ') x1 x2 x3 x4 x5_2 (0 : Int32) σ) ∧ (¬ (x1 = 0) → vp_in ((x5_2 - (80 : Int32)) + (9 : Int32)) 16800 ∧ wX12_steps_57 Q (fun x1' x2' x3' x4' σ' => wX12_steps_3 Q n x1' x2' x3' x4' σ') x1 x2 x3 x4 x5_2 (gv σ 88 ((x5_2 - (80 : Int32)) + (9 : Int32)).toNatClampNeg) σ))))))
def wX12_steps (x1 : Int32) (x2 : Int32) (x3 : Int32) (σ : St) (Q : St → Prop) : Prop := ∃ j : Nat, wX12_steps_3 Q j x1 x2 x3 (0 : Int32) σ
set_option maxHeartbeats 4000000 in
set_option maxRecDepth 100000 in
theorem tX12_steps_568 {p : Program} {l : Launch} {e : Env} {s : State} {m : MethodId} {args : Array Value} {below : List Frame} {meth : Method} {c : Code} {E : EE} {base : Nat} (C : Cx p E base s m args meth c cX12_steps 14 RX12) (hr : meth.sig.returnType = none) {Q : St → Prop} : ∀ (n : Nat) (x1 : Int32) (x4 : Int32) (σ : St) (H : Heap) (locs : List Loc) (ls : Array Slot), lv_has ls 14 [(0, .ref (ga E 11)), (1, .int x1), (4, .int x4)] → GW E base s σ H locs → wX12_steps_568 Q n x1 x4 σ → W p l e rmX12_steps s m args below meth c H locs 0 0 (MQ below (QV E base Q) args s 0 0 (fun q => base ≤ q)) (F0 m 568 ls []) := by
  intro n
  induction n with
  | zero => intro _ _; intros; exact False.elim (by assumption)
  | succ n ih =>
    intro x1 x4 σ H locs ls hl g h
    refine lv_iload C.1 C.2.1 dX12_steps_568 (lv_at hl 2 rfl) ?_
    refine lv_aload_n C.1 C.2.1 dX12_steps_570 rfl (lv_at hl 0 rfl) ?_
    refine gx_getI C g fl_X12_307 dX12_steps_571 sh_11 rfl ?_
    refine lv_icmp_ge (tgt := 607) C.1 C.2.1 dX12_steps_574 (by decide) (fun c1 => ?_) (fun c1 => ?_)
    · have h := h.1 c1
      exact gx_vret C hr g dX12_steps_607 h
    · have h := h.2 c1
      refine lv_aload_n C.1 C.2.1 dX12_steps_577 rfl (lv_at hl 0 rfl) ?_
      refine gx_getR C g fl_X12_140 dX12_steps_578 sh_11 rfl (by decide) ?_
      refine lv_bipush (v := 10) C.1 C.2.1 dX12_steps_581 (by decide) ?_
      refine lv_bipush (v := 7) C.1 C.2.1 dX12_steps_583 (by decide) ?_
      refine lv_iload_n C.1 C.2.1 dX12_steps_585 rfl (lv_at hl 1 rfl) ?_
      refine lv_iconst (v := 1) C.1 C.2.1 dX12_steps_586 (by decide) ?_
      refine lv_iadd C.1 C.2.1 dX12_steps_587 ?_
      refine lv_imul C.1 C.2.1 dX12_steps_588 ?_
      refine lv_iload C.1 C.2.1 dX12_steps_589 (lv_at hl 2 rfl) ?_
      refine lv_iadd C.1 C.2.1 dX12_steps_591 ?_
      refine lv_imul C.1 C.2.1 dX12_steps_592 ?_
      refine lv_aload_n C.1 C.2.1 dX12_steps_593 rfl (lv_at hl 0 rfl) ?_
      refine gx_getR C g fl_X12_161 dX12_steps_594 sh_11 rfl (by decide) ?_
      refine lv_iload C.1 C.2.1 dX12_steps_597 (lv_at hl 2 rfl) ?_
      obtain ⟨i2, h⟩ := h
      refine gx_iald C g dX12_steps_599 sh_93 i2 ?_
      obtain ⟨i3, h⟩ := h
      refine gx_iast C g dX12_steps_600 sh_88 i3 (fun H locs σ4 eσ4 g => ?_)
      have h := h σ4 eσ4
      obtain ⟨x4_5, ex4_5⟩ : ∃ y : Int32, y = x4 + 1 := ⟨_, rfl⟩
      have h := h x4_5 ex4_5
      refine lv_iinc (v := x4_5) (lv' := [(4, .int x4_5), (0, .ref (ga E 11)), (1, .int x1)]) C.1 C.2.1 dX12_steps_601 hl (k := 2) rfl (by rw [ex4_5]; rfl) (by decide) rfl (fun ls hl => ?_)
      refine lv_goto (tgt := 568) C.1 C.2.1 dX12_steps_604 (by decide) ?_
      exact ih x1 x4_5 _ _ _ _ (lv_sub hl [1, 2, 0] rfl) g h
set_option maxHeartbeats 4000000 in
set_option maxRecDepth 100000 in
theorem tX12_steps_438 {p : Program} {l : Launch} {e : Env} {s : State} {m : MethodId} {args : Array Value} {below : List Frame} {meth : Method} {c : Code} {E : EE} {base : Nat} (C : Cx p E base s m args meth c cX12_steps 14 RX12) (hr : meth.sig.returnType = none) {Q : St → Prop} {K123 : Int32 → Int32 → St → Prop} (hK123 : ∀ (x1 : Int32) (x4 : Int32) (σ : St) (H : Heap) (locs : List Loc) (ls : Array Slot), lv_has ls 14 [(0, .ref (ga E 11)), (1, .int x1), (4, .int x4)] → GW E base s σ H locs → K123 x1 x4 σ → W p l e rmX12_steps s m args below meth c H locs 0 0 (MQ below (QV E base Q) args s 0 0 (fun q => base ≤ q)) (F0 m 123 ls [])) : ∀ (x1 : Int32) (x4 : Int32) (x5 : Int32) (x7 : Int32) (x9 : Int32) (x10 : Int32) (x11 : Int32) (x12 : Int32) (xt0 : Int32) (σ : St) (H : Heap) (locs : List Loc) (ls : Array Slot), lv_has ls 14 [(0, .ref (ga E 11)), (1, .int x1), (4, .int x4), (5, .int x5), (7, .int x7), (9, .int x9), (10, .int x10), (11, .int x11), (12, .int x12)] → GW E base s σ H locs → wX12_steps_438 Q K123 x1 x4 x5 x7 x9 x10 x11 x12 xt0 σ → W p l e rmX12_steps s m args below meth c H locs 0 0 (MQ below (QV E base Q) args s 0 0 (fun q => base ≤ q)) (F0 m 438 ls [.int xt0]) := by
  intro x1 x4 x5 x7 x9 x10 x11 x12 xt0 σ H locs ls hl g h
  refine lv_istore (lv' := [(13, .int xt0), (0, .ref (ga E 11)), (1, .int x1), (4, .int x4), (5, .int x5), (7, .int x7), (9, .int x9), (10, .int x10), (11, .int x11), (12, .int x12)]) C.1 C.2.1 dX12_steps_438 hl (by decide) rfl (fun ls hl => ?_)
  refine lv_iload C.1 C.2.1 dX12_steps_440 (lv_at hl 7 rfl) ?_
  refine lv_iload C.1 C.2.1 dX12_steps_442 (lv_at hl 0 rfl) ?_
  refine lv_isub C.1 C.2.1 dX12_steps_444 ?_
  refine lv_topi (fun x10_1 ex10_1 => ?_)
  have h := h x10_1 ex10_1
  refine lv_istore (lv' := [(10, .int x10_1), (13, .int xt0), (0, .ref (ga E 11)), (1, .int x1), (4, .int x4), (5, .int x5), (7, .int x7), (9, .int x9), (11, .int x11), (12, .int x12)]) C.1 C.2.1 dX12_steps_445 hl (by decide) rfl (fun ls hl => ?_)
  refine lv_aload_n C.1 C.2.1 dX12_steps_447 rfl (lv_at hl 2 rfl) ?_
  refine gx_getR C g fl_X12_140 dX12_steps_448 sh_11 rfl (by decide) ?_
  refine lv_iload C.1 C.2.1 dX12_steps_451 (lv_at hl 5 rfl) ?_
  refine lv_iconst (v := 3) C.1 C.2.1 dX12_steps_453 (by decide) ?_
  refine lv_iadd C.1 C.2.1 dX12_steps_454 ?_
  refine lv_iload C.1 C.2.1 dX12_steps_455 (lv_at hl 6 rfl) ?_
  obtain ⟨i2, h⟩ := h
  refine gx_iast C g dX12_steps_457 sh_88 i2 (fun H locs σ3 eσ3 g => ?_)
  have h := h σ3 eσ3
  refine lv_aload_n C.1 C.2.1 dX12_steps_458 rfl (lv_at hl 2 rfl) ?_
  refine gx_getR C g fl_X12_140 dX12_steps_459 sh_11 rfl (by decide) ?_
  refine lv_iload C.1 C.2.1 dX12_steps_462 (lv_at hl 5 rfl) ?_
  refine lv_iconst (v := 4) C.1 C.2.1 dX12_steps_464 (by decide) ?_
  refine lv_iadd C.1 C.2.1 dX12_steps_465 ?_
  refine lv_iload C.1 C.2.1 dX12_steps_466 (lv_at hl 7 rfl) ?_
  obtain ⟨i4, h⟩ := h
  refine gx_iast C g dX12_steps_468 sh_88 i4 (fun H locs σ5 eσ5 g => ?_)
  have h := h σ5 eσ5
  refine lv_aload_n C.1 C.2.1 dX12_steps_469 rfl (lv_at hl 2 rfl) ?_
  refine gx_getR C g fl_X12_140 dX12_steps_470 sh_11 rfl (by decide) ?_
  refine lv_iload C.1 C.2.1 dX12_steps_473 (lv_at hl 5 rfl) ?_
  refine lv_iconst (v := 5) C.1 C.2.1 dX12_steps_475 (by decide) ?_
  refine lv_iadd C.1 C.2.1 dX12_steps_476 ?_
  refine lv_iload C.1 C.2.1 dX12_steps_477 (lv_at hl 8 rfl) ?_
  obtain ⟨i6, h⟩ := h
  refine gx_iast C g dX12_steps_479 sh_88 i6 (fun H locs σ7 eσ7 g => ?_)
  have h := h σ7 eσ7
  refine lv_aload_n C.1 C.2.1 dX12_steps_480 rfl (lv_at hl 2 rfl) ?_
  refine gx_getR C g fl_X12_140 dX12_steps_481 sh_11 rfl (by decide) ?_
  refine lv_iload C.1 C.2.1 dX12_steps_484 (lv_at hl 5 rfl) ?_
  refine lv_bipush (v := 6) C.1 C.2.1 dX12_steps_486 (by decide) ?_
  refine lv_iadd C.1 C.2.1 dX12_steps_488 ?_
  refine lv_iload C.1 C.2.1 dX12_steps_489 (lv_at hl 8 rfl) ?_
  refine lv_aload_n C.1 C.2.1 dX12_steps_491 rfl (lv_at hl 2 rfl) ?_
  refine lv_iload C.1 C.2.1 dX12_steps_492 (lv_at hl 7 rfl) ?_
  refine gx_calli0 g (gx_runV (k := 11) (rest := [.int x11, .int (x5 + (6 : Int32)), .ref (ga E 88)]) C g mb_X12_factorOf ml_X12_344 rfl sh_11 (mX12_factorOf x9 _ _ h) ⟨Nat.le_of_ble_eq_true rfl, Nat.le_of_ble_eq_true rfl⟩ ⟨Nat.le_refl _, Nat.le_refl _⟩ rfl hl.1 rfl (Nat.le_of_ble_eq_true rfl) dX12_steps_494) rfl rfl (fun r8 σ9 H locs h g => ?_)
  refine lv_imul C.1 C.2.1 dX12_steps_497 ?_
  obtain ⟨i10, h⟩ := h
  refine gx_iast C g dX12_steps_498 sh_88 i10 (fun H locs σ11 eσ11 g => ?_)
  have h := h σ11 eσ11
  refine lv_aload_n C.1 C.2.1 dX12_steps_499 rfl (lv_at hl 2 rfl) ?_
  refine gx_getR C g fl_X12_140 dX12_steps_500 sh_11 rfl (by decide) ?_
  refine lv_iload C.1 C.2.1 dX12_steps_503 (lv_at hl 5 rfl) ?_
  refine lv_bipush (v := 7) C.1 C.2.1 dX12_steps_505 (by decide) ?_
  refine lv_iadd C.1 C.2.1 dX12_steps_507 ?_
  refine lv_iload C.1 C.2.1 dX12_steps_508 (lv_at hl 9 rfl) ?_
  obtain ⟨i12, h⟩ := h
  refine gx_iast C g dX12_steps_510 sh_88 i12 (fun H locs σ13 eσ13 g => ?_)
  have h := h σ13 eσ13
  refine lv_aload_n C.1 C.2.1 dX12_steps_511 rfl (lv_at hl 2 rfl) ?_
  refine gx_getR C g fl_X12_140 dX12_steps_512 sh_11 rfl (by decide) ?_
  refine lv_iload C.1 C.2.1 dX12_steps_515 (lv_at hl 5 rfl) ?_
  refine lv_bipush (v := 8) C.1 C.2.1 dX12_steps_517 (by decide) ?_
  refine lv_iadd C.1 C.2.1 dX12_steps_519 ?_
  refine lv_iload C.1 C.2.1 dX12_steps_520 (lv_at hl 1 rfl) ?_
  obtain ⟨i14, h⟩ := h
  refine gx_iast C g dX12_steps_522 sh_88 i14 (fun H locs σ15 eσ15 g => ?_)
  have h := h σ15 eσ15
  refine lv_aload_n C.1 C.2.1 dX12_steps_523 rfl (lv_at hl 2 rfl) ?_
  refine gx_getR C g fl_X12_140 dX12_steps_524 sh_11 rfl (by decide) ?_
  refine lv_iload C.1 C.2.1 dX12_steps_527 (lv_at hl 5 rfl) ?_
  refine lv_bipush (v := 9) C.1 C.2.1 dX12_steps_529 (by decide) ?_
  refine lv_iadd C.1 C.2.1 dX12_steps_531 ?_
  refine lv_iload C.1 C.2.1 dX12_steps_532 (lv_at hl 8 rfl) ?_
  refine lv_iload C.1 C.2.1 dX12_steps_534 (lv_at hl 9 rfl) ?_
  refine lv_iadd C.1 C.2.1 dX12_steps_536 ?_
  refine lv_iload C.1 C.2.1 dX12_steps_537 (lv_at hl 1 rfl) ?_
  refine lv_iadd C.1 C.2.1 dX12_steps_539 ?_
  obtain ⟨i16, h⟩ := h
  refine gx_iast C g dX12_steps_540 sh_88 i16 (fun H locs σ17 eσ17 g => ?_)
  have h := h σ17 eσ17
  refine lv_aload_n C.1 C.2.1 dX12_steps_541 rfl (lv_at hl 2 rfl) ?_
  refine gx_getR C g fl_X12_161 dX12_steps_542 sh_11 rfl (by decide) ?_
  refine lv_iload C.1 C.2.1 dX12_steps_545 (lv_at hl 4 rfl) ?_
  refine lv_iload C.1 C.2.1 dX12_steps_547 (lv_at hl 0 rfl) ?_
  obtain ⟨i18, h⟩ := h
  refine gx_iast C g dX12_steps_549 sh_93 i18 (fun H locs σ19 eσ19 g => ?_)
  have h := h σ19 eσ19
  obtain ⟨x4_20, ex4_20⟩ : ∃ y : Int32, y = x4 + 1 := ⟨_, rfl⟩
  have h := h x4_20 ex4_20
  refine lv_iinc (v := x4_20) (lv' := [(4, .int x4_20), (10, .int x10_1), (13, .int xt0), (0, .ref (ga E 11)), (1, .int x1), (5, .int x5), (7, .int x7), (9, .int x9), (11, .int x11), (12, .int x12)]) C.1 C.2.1 dX12_steps_550 hl (k := 4) rfl (by rw [ex4_20]; rfl) (by decide) rfl (fun ls hl => ?_)
  refine lv_goto (tgt := 123) C.1 C.2.1 dX12_steps_553 (by decide) ?_
  exact hK123 x1 x4_20 _ _ _ _ (lv_sub hl [3, 4, 0] rfl) g h
set_option maxHeartbeats 4000000 in
set_option maxRecDepth 100000 in
theorem tX12_steps_403 {p : Program} {l : Launch} {e : Env} {s : State} {m : MethodId} {args : Array Value} {below : List Frame} {meth : Method} {c : Code} {E : EE} {base : Nat} (C : Cx p E base s m args meth c cX12_steps 14 RX12) (hr : meth.sig.returnType = none) {Q : St → Prop} {K123 : Int32 → Int32 → St → Prop} (hK123 : ∀ (x1 : Int32) (x4 : Int32) (σ : St) (H : Heap) (locs : List Loc) (ls : Array Slot), lv_has ls 14 [(0, .ref (ga E 11)), (1, .int x1), (4, .int x4)] → GW E base s σ H locs → K123 x1 x4 σ → W p l e rmX12_steps s m args below meth c H locs 0 0 (MQ below (QV E base Q) args s 0 0 (fun q => base ≤ q)) (F0 m 123 ls [])) : ∀ (x1 : Int32) (x4 : Int32) (x5 : Int32) (x7 : Int32) (x9 : Int32) (x10 : Int32) (x11 : Int32) (xt0 : Int32) (σ : St) (H : Heap) (locs : List Loc) (ls : Array Slot), lv_has ls 14 [(0, .ref (ga E 11)), (1, .int x1), (4, .int x4), (5, .int x5), (7, .int x7), (9, .int x9), (10, .int x10), (11, .int x11)] → GW E base s σ H locs → wX12_steps_403 Q K123 x1 x4 x5 x7 x9 x10 x11 xt0 σ → W p l e rmX12_steps s m args below meth c H locs 0 0 (MQ below (QV E base Q) args s 0 0 (fun q => base ≤ q)) (F0 m 403 ls [.int xt0]) := by
  intro x1 x4 x5 x7 x9 x10 x11 xt0 σ H locs ls hl g h
  refine lv_istore (lv' := [(12, .int xt0), (0, .ref (ga E 11)), (1, .int x1), (4, .int x4), (5, .int x5), (7, .int x7), (9, .int x9), (10, .int x10), (11, .int x11)]) C.1 C.2.1 dX12_steps_403 hl (by decide) rfl (fun ls hl => ?_)
  refine lv_iload C.1 C.2.1 dX12_steps_405 (lv_at hl 7 rfl) ?_
  refine lv_iload C.1 C.2.1 dX12_steps_407 (lv_at hl 0 rfl) ?_
  refine lv_isub C.1 C.2.1 dX12_steps_409 ?_
  refine lv_topi (fun x10_1 ex10_1 => ?_)
  have h := h x10_1 ex10_1
  refine lv_istore (lv' := [(10, .int x10_1), (12, .int xt0), (0, .ref (ga E 11)), (1, .int x1), (4, .int x4), (5, .int x5), (7, .int x7), (9, .int x9), (11, .int x11)]) C.1 C.2.1 dX12_steps_410 hl (by decide) rfl (fun ls hl => ?_)
  refine lv_iload C.1 C.2.1 dX12_steps_412 (lv_at hl 0 rfl) ?_
  refine lv_aload_n C.1 C.2.1 dX12_steps_414 rfl (lv_at hl 2 rfl) ?_
  refine gx_getR C g fl_X12_95 dX12_steps_415 sh_11 rfl (by decide) ?_
  refine lv_iload C.1 C.2.1 dX12_steps_418 (lv_at hl 4 rfl) ?_
  obtain ⟨i2, h⟩ := h
  refine gx_iald C g dX12_steps_420 sh_73 i2 ?_
  refine lv_icmp_le (tgt := 437) C.1 C.2.1 dX12_steps_421 (by decide) (fun c3 => ?_) (fun c3 => ?_)
  · have h := h.1 c3
    refine lv_iconst (v := 0) C.1 C.2.1 dX12_steps_437 (by decide) ?_
    exact tX12_steps_438 C hr hK123 x1 x4 x5 x7 x9 x10_1 x11 xt0 (0 : Int32) _ _ _ _ (lv_sub hl [2, 3, 4, 5, 6, 7, 0, 8, 1] rfl) g h
  · have h := h.2 c3
    refine lv_iload C.1 C.2.1 dX12_steps_424 (lv_at hl 0 rfl) ?_
    refine lv_aload_n C.1 C.2.1 dX12_steps_426 rfl (lv_at hl 2 rfl) ?_
    refine gx_getR C g fl_X12_95 dX12_steps_427 sh_11 rfl (by decide) ?_
    refine lv_iload C.1 C.2.1 dX12_steps_430 (lv_at hl 4 rfl) ?_
    obtain ⟨i4, h⟩ := h
    refine gx_iald C g dX12_steps_432 sh_73 i4 ?_
    refine lv_isub C.1 C.2.1 dX12_steps_433 ?_
    refine lv_goto (tgt := 438) C.1 C.2.1 dX12_steps_434 (by decide) ?_
    exact tX12_steps_438 C hr hK123 x1 x4 x5 x7 x9 x10_1 x11 xt0 (x10_1 - (gv σ 73 x4.toNatClampNeg)) _ _ _ _ (lv_sub hl [2, 3, 4, 5, 6, 7, 0, 8, 1] rfl) g h
set_option maxHeartbeats 4000000 in
set_option maxRecDepth 100000 in
theorem tX12_steps_376 {p : Program} {l : Launch} {e : Env} {s : State} {m : MethodId} {args : Array Value} {below : List Frame} {meth : Method} {c : Code} {E : EE} {base : Nat} (C : Cx p E base s m args meth c cX12_steps 14 RX12) (hr : meth.sig.returnType = none) {Q : St → Prop} {K123 : Int32 → Int32 → St → Prop} (hK123 : ∀ (x1 : Int32) (x4 : Int32) (σ : St) (H : Heap) (locs : List Loc) (ls : Array Slot), lv_has ls 14 [(0, .ref (ga E 11)), (1, .int x1), (4, .int x4)] → GW E base s σ H locs → K123 x1 x4 σ → W p l e rmX12_steps s m args below meth c H locs 0 0 (MQ below (QV E base Q) args s 0 0 (fun q => base ≤ q)) (F0 m 123 ls [])) : ∀ (x1 : Int32) (x4 : Int32) (x5 : Int32) (x7 : Int32) (x9 : Int32) (x10 : Int32) (xt0 : Int32) (σ : St) (H : Heap) (locs : List Loc) (ls : Array Slot), lv_has ls 14 [(0, .ref (ga E 11)), (1, .int x1), (4, .int x4), (5, .int x5), (7, .int x7), (9, .int x9), (10, .int x10)] → GW E base s σ H locs → wX12_steps_376 Q K123 x1 x4 x5 x7 x9 x10 xt0 σ → W p l e rmX12_steps s m args below meth c H locs 0 0 (MQ below (QV E base Q) args s 0 0 (fun q => base ≤ q)) (F0 m 376 ls [.int xt0]) := by
  intro x1 x4 x5 x7 x9 x10 xt0 σ H locs ls hl g h
  refine lv_istore (lv' := [(11, .int xt0), (0, .ref (ga E 11)), (1, .int x1), (4, .int x4), (5, .int x5), (7, .int x7), (9, .int x9), (10, .int x10)]) C.1 C.2.1 dX12_steps_376 hl (by decide) rfl (fun ls hl => ?_)
  refine lv_iload C.1 C.2.1 dX12_steps_378 (lv_at hl 7 rfl) ?_
  refine lv_iload C.1 C.2.1 dX12_steps_380 (lv_at hl 0 rfl) ?_
  refine lv_isub C.1 C.2.1 dX12_steps_382 ?_
  refine lv_topi (fun x10_1 ex10_1 => ?_)
  have h := h x10_1 ex10_1
  refine lv_istore (lv' := [(10, .int x10_1), (11, .int xt0), (0, .ref (ga E 11)), (1, .int x1), (4, .int x4), (5, .int x5), (7, .int x7), (9, .int x9)]) C.1 C.2.1 dX12_steps_383 hl (by decide) rfl (fun ls hl => ?_)
  refine lv_iconst (v := 3) C.1 C.2.1 dX12_steps_385 (by decide) ?_
  refine lv_iload C.1 C.2.1 dX12_steps_386 (lv_at hl 6 rfl) ?_
  refine lv_imul C.1 C.2.1 dX12_steps_388 ?_
  refine lv_iload C.1 C.2.1 dX12_steps_389 (lv_at hl 0 rfl) ?_
  refine lv_icmp_ge (tgt := 401) C.1 C.2.1 dX12_steps_391 (by decide) (fun c2 => ?_) (fun c2 => ?_)
  · have h := h.1 c2
    refine lv_iload C.1 C.2.1 dX12_steps_401 (lv_at hl 0 rfl) ?_
    exact tX12_steps_403 C hr hK123 x1 x4 x5 x7 x9 x10_1 xt0 x10_1 _ _ _ _ (lv_sub hl [2, 3, 4, 5, 6, 7, 0, 1] rfl) g h
  · have h := h.2 c2
    refine lv_iconst (v := 3) C.1 C.2.1 dX12_steps_394 (by decide) ?_
    refine lv_iload C.1 C.2.1 dX12_steps_395 (lv_at hl 6 rfl) ?_
    refine lv_imul C.1 C.2.1 dX12_steps_397 ?_
    refine lv_goto (tgt := 403) C.1 C.2.1 dX12_steps_398 (by decide) ?_
    exact tX12_steps_403 C hr hK123 x1 x4 x5 x7 x9 x10_1 xt0 ((3 : Int32) * x7) _ _ _ _ (lv_sub hl [2, 3, 4, 5, 6, 7, 0, 1] rfl) g h
set_option maxHeartbeats 4000000 in
set_option maxRecDepth 100000 in
theorem tX12_steps_322 {p : Program} {l : Launch} {e : Env} {s : State} {m : MethodId} {args : Array Value} {below : List Frame} {meth : Method} {c : Code} {E : EE} {base : Nat} (C : Cx p E base s m args meth c cX12_steps 14 RX12) (hr : meth.sig.returnType = none) {Q : St → Prop} {K123 : Int32 → Int32 → St → Prop} (hK123 : ∀ (x1 : Int32) (x4 : Int32) (σ : St) (H : Heap) (locs : List Loc) (ls : Array Slot), lv_has ls 14 [(0, .ref (ga E 11)), (1, .int x1), (4, .int x4)] → GW E base s σ H locs → K123 x1 x4 σ → W p l e rmX12_steps s m args below meth c H locs 0 0 (MQ below (QV E base Q) args s 0 0 (fun q => base ≤ q)) (F0 m 123 ls [])) : ∀ (x1 : Int32) (x4 : Int32) (x5 : Int32) (x7 : Int32) (xt0 : Int32) (xt1 : Int32) (σ : St) (H : Heap) (locs : List Loc) (ls : Array Slot), lv_has ls 14 [(0, .ref (ga E 11)), (1, .int x1), (4, .int x4), (5, .int x5), (7, .int x7)] → GW E base s σ H locs → wX12_steps_322 Q K123 x1 x4 x5 x7 xt0 xt1 σ → W p l e rmX12_steps s m args below meth c H locs 0 0 (MQ below (QV E base Q) args s 0 0 (fun q => base ≤ q)) (F0 m 322 ls [.int xt1, .int xt0]) := by
  intro x1 x4 x5 x7 xt0 xt1 σ H locs ls hl g h
  refine lv_isub C.1 C.2.1 dX12_steps_322 ?_
  refine lv_topi (fun x9_1 ex9_1 => ?_)
  have h := h x9_1 ex9_1
  refine lv_istore (lv' := [(9, .int x9_1), (0, .ref (ga E 11)), (1, .int x1), (4, .int x4), (5, .int x5), (7, .int x7)]) C.1 C.2.1 dX12_steps_323 hl (by decide) rfl (fun ls hl => ?_)
  refine lv_aload_n C.1 C.2.1 dX12_steps_325 rfl (lv_at hl 1 rfl) ?_
  refine gx_getR C g fl_X12_140 dX12_steps_326 sh_11 rfl (by decide) ?_
  refine lv_iload C.1 C.2.1 dX12_steps_329 (lv_at hl 4 rfl) ?_
  obtain ⟨i2, h⟩ := h
  refine gx_iald C g dX12_steps_331 sh_88 i2 ?_
  refine lv_aload_n C.1 C.2.1 dX12_steps_332 rfl (lv_at hl 1 rfl) ?_
  refine gx_getR C g fl_X12_140 dX12_steps_333 sh_11 rfl (by decide) ?_
  refine lv_iload C.1 C.2.1 dX12_steps_336 (lv_at hl 4 rfl) ?_
  refine lv_iconst (v := 1) C.1 C.2.1 dX12_steps_338 (by decide) ?_
  refine lv_iadd C.1 C.2.1 dX12_steps_339 ?_
  obtain ⟨i3, h⟩ := h
  refine gx_iald C g dX12_steps_340 sh_88 i3 ?_
  refine lv_iadd C.1 C.2.1 dX12_steps_341 ?_
  refine lv_topi (fun x10_4 ex10_4 => ?_)
  have h := h x10_4 ex10_4
  refine lv_istore (lv' := [(10, .int x10_4), (9, .int x9_1), (0, .ref (ga E 11)), (1, .int x1), (4, .int x4), (5, .int x5), (7, .int x7)]) C.1 C.2.1 dX12_steps_342 hl (by decide) rfl (fun ls hl => ?_)
  refine lv_iconst (v := 2) C.1 C.2.1 dX12_steps_344 (by decide) ?_
  refine lv_aload_n C.1 C.2.1 dX12_steps_345 rfl (lv_at hl 2 rfl) ?_
  refine gx_getR C g fl_X12_140 dX12_steps_346 sh_11 rfl (by decide) ?_
  refine lv_iload C.1 C.2.1 dX12_steps_349 (lv_at hl 5 rfl) ?_
  refine lv_iconst (v := 2) C.1 C.2.1 dX12_steps_351 (by decide) ?_
  refine lv_iadd C.1 C.2.1 dX12_steps_352 ?_
  obtain ⟨i5, h⟩ := h
  refine gx_iald C g dX12_steps_353 sh_88 i5 ?_
  refine lv_imul C.1 C.2.1 dX12_steps_354 ?_
  refine lv_iload C.1 C.2.1 dX12_steps_355 (lv_at hl 0 rfl) ?_
  refine lv_icmp_ge (tgt := 374) C.1 C.2.1 dX12_steps_357 (by decide) (fun c6 => ?_) (fun c6 => ?_)
  · have h := h.1 c6
    refine lv_iload C.1 C.2.1 dX12_steps_374 (lv_at hl 0 rfl) ?_
    exact tX12_steps_376 C hr hK123 x1 x4 x5 x7 x9_1 x10_4 x10_4 _ _ _ _ (lv_sub hl [2, 3, 4, 5, 6, 1, 0] rfl) g h
  · have h := h.2 c6
    refine lv_iconst (v := 2) C.1 C.2.1 dX12_steps_360 (by decide) ?_
    refine lv_aload_n C.1 C.2.1 dX12_steps_361 rfl (lv_at hl 2 rfl) ?_
    refine gx_getR C g fl_X12_140 dX12_steps_362 sh_11 rfl (by decide) ?_
    refine lv_iload C.1 C.2.1 dX12_steps_365 (lv_at hl 5 rfl) ?_
    refine lv_iconst (v := 2) C.1 C.2.1 dX12_steps_367 (by decide) ?_
    refine lv_iadd C.1 C.2.1 dX12_steps_368 ?_
    obtain ⟨i7, h⟩ := h
    refine gx_iald C g dX12_steps_369 sh_88 i7 ?_
    refine lv_imul C.1 C.2.1 dX12_steps_370 ?_
    refine lv_goto (tgt := 376) C.1 C.2.1 dX12_steps_371 (by decide) ?_
    exact tX12_steps_376 C hr hK123 x1 x4 x5 x7 x9_1 x10_4 ((2 : Int32) * (gv σ 88 (x5 + (2 : Int32)).toNatClampNeg)) _ _ _ _ (lv_sub hl [2, 3, 4, 5, 6, 1, 0] rfl) g h
set_option maxHeartbeats 4000000 in
set_option maxRecDepth 100000 in
theorem tX12_steps_302 {p : Program} {l : Launch} {e : Env} {s : State} {m : MethodId} {args : Array Value} {below : List Frame} {meth : Method} {c : Code} {E : EE} {base : Nat} (C : Cx p E base s m args meth c cX12_steps 14 RX12) (hr : meth.sig.returnType = none) {Q : St → Prop} {K123 : Int32 → Int32 → St → Prop} (hK123 : ∀ (x1 : Int32) (x4 : Int32) (σ : St) (H : Heap) (locs : List Loc) (ls : Array Slot), lv_has ls 14 [(0, .ref (ga E 11)), (1, .int x1), (4, .int x4)] → GW E base s σ H locs → K123 x1 x4 σ → W p l e rmX12_steps s m args below meth c H locs 0 0 (MQ below (QV E base Q) args s 0 0 (fun q => base ≤ q)) (F0 m 123 ls [])) : ∀ (x1 : Int32) (x4 : Int32) (x5 : Int32) (x7 : Int32) (xt0 : Int32) (σ : St) (H : Heap) (locs : List Loc) (ls : Array Slot), lv_has ls 14 [(0, .ref (ga E 11)), (1, .int x1), (4, .int x4), (5, .int x5), (7, .int x7)] → GW E base s σ H locs → wX12_steps_302 Q K123 x1 x4 x5 x7 xt0 σ → W p l e rmX12_steps s m args below meth c H locs 0 0 (MQ below (QV E base Q) args s 0 0 (fun q => base ≤ q)) (F0 m 302 ls [.int xt0]) := by
  intro x1 x4 x5 x7 xt0 σ H locs ls hl g h
  refine lv_istore (lv' := [(8, .int xt0), (0, .ref (ga E 11)), (1, .int x1), (4, .int x4), (5, .int x5), (7, .int x7)]) C.1 C.2.1 dX12_steps_302 hl (by decide) rfl (fun ls hl => ?_)
  refine lv_aload_n C.1 C.2.1 dX12_steps_304 rfl (lv_at hl 1 rfl) ?_
  refine gx_getR C g fl_X12_140 dX12_steps_305 sh_11 rfl (by decide) ?_
  refine lv_iload C.1 C.2.1 dX12_steps_308 (lv_at hl 4 rfl) ?_
  obtain ⟨i1, h⟩ := h
  refine gx_iald C g dX12_steps_310 sh_88 i1 ?_
  refine lv_iload C.1 C.2.1 dX12_steps_311 (lv_at hl 0 rfl) ?_
  refine lv_if_le (tgt := 321) C.1 C.2.1 dX12_steps_313 (by decide) (fun c2 => ?_) (fun c2 => ?_)
  · have h := h.1 c2
    refine lv_iconst (v := 0) C.1 C.2.1 dX12_steps_321 (by decide) ?_
    exact tX12_steps_322 C hr hK123 x1 x4 x5 x7 (gv σ 88 x5.toNatClampNeg) (0 : Int32) _ _ _ _ (lv_sub hl [1, 2, 3, 4, 5] rfl) g h
  · have h := h.2 c2
    refine lv_iload C.1 C.2.1 dX12_steps_316 (lv_at hl 0 rfl) ?_
    refine lv_goto (tgt := 322) C.1 C.2.1 dX12_steps_318 (by decide) ?_
    exact tX12_steps_322 C hr hK123 x1 x4 x5 x7 (gv σ 88 x5.toNatClampNeg) xt0 _ _ _ _ (lv_sub hl [1, 2, 3, 4, 5] rfl) g h
set_option maxHeartbeats 4000000 in
set_option maxRecDepth 100000 in
theorem tX12_steps_267 {p : Program} {l : Launch} {e : Env} {s : State} {m : MethodId} {args : Array Value} {below : List Frame} {meth : Method} {c : Code} {E : EE} {base : Nat} (C : Cx p E base s m args meth c cX12_steps 14 RX12) (hr : meth.sig.returnType = none) {Q : St → Prop} {K123 : Int32 → Int32 → St → Prop} (hK123 : ∀ (x1 : Int32) (x4 : Int32) (σ : St) (H : Heap) (locs : List Loc) (ls : Array Slot), lv_has ls 14 [(0, .ref (ga E 11)), (1, .int x1), (4, .int x4)] → GW E base s σ H locs → K123 x1 x4 σ → W p l e rmX12_steps s m args below meth c H locs 0 0 (MQ below (QV E base Q) args s 0 0 (fun q => base ≤ q)) (F0 m 123 ls [])) : ∀ (x1 : Int32) (x4 : Int32) (x5 : Int32) (x7 : Int32) (σ : St) (H : Heap) (locs : List Loc) (ls : Array Slot), lv_has ls 14 [(0, .ref (ga E 11)), (1, .int x1), (4, .int x4), (5, .int x5), (7, .int x7)] → GW E base s σ H locs → wX12_steps_267 Q K123 x1 x4 x5 x7 σ → W p l e rmX12_steps s m args below meth c H locs 0 0 (MQ below (QV E base Q) args s 0 0 (fun q => base ≤ q)) (F0 m 267 ls []) := by
  intro x1 x4 x5 x7 σ H locs ls hl g h
  refine lv_iload C.1 C.2.1 dX12_steps_267 (lv_at hl 2 rfl) ?_
  refine lv_iconst (v := 1) C.1 C.2.1 dX12_steps_269 (by decide) ?_
  refine lv_iadd C.1 C.2.1 dX12_steps_270 ?_
  refine lv_aload_n C.1 C.2.1 dX12_steps_271 rfl (lv_at hl 0 rfl) ?_
  refine gx_getI C g fl_X12_307 dX12_steps_272 sh_11 rfl ?_
  refine lv_icmp_ge (tgt := 301) C.1 C.2.1 dX12_steps_275 (by decide) (fun c1 => ?_) (fun c1 => ?_)
  · have h := h.1 c1
    refine lv_iconst (v := 0) C.1 C.2.1 dX12_steps_301 (by decide) ?_
    exact tX12_steps_302 C hr hK123 x1 x4 x5 x7 (0 : Int32) _ _ _ _ (lv_sub hl [0, 1, 2, 3, 4] rfl) g h
  · have h := h.2 c1
    refine lv_aload_n C.1 C.2.1 dX12_steps_278 rfl (lv_at hl 0 rfl) ?_
    refine gx_getR C g fl_X12_140 dX12_steps_279 sh_11 rfl (by decide) ?_
    refine lv_iload C.1 C.2.1 dX12_steps_282 (lv_at hl 3 rfl) ?_
    refine lv_bipush (v := 10) C.1 C.2.1 dX12_steps_284 (by decide) ?_
    refine lv_iadd C.1 C.2.1 dX12_steps_286 ?_
    obtain ⟨i2, h⟩ := h
    refine gx_iald C g dX12_steps_287 sh_88 i2 ?_
    refine lv_aload_n C.1 C.2.1 dX12_steps_288 rfl (lv_at hl 0 rfl) ?_
    refine gx_getR C g fl_X12_98 dX12_steps_289 sh_11 rfl (by decide) ?_
    refine lv_iload C.1 C.2.1 dX12_steps_292 (lv_at hl 2 rfl) ?_
    refine lv_iconst (v := 1) C.1 C.2.1 dX12_steps_294 (by decide) ?_
    refine lv_iadd C.1 C.2.1 dX12_steps_295 ?_
    obtain ⟨i3, h⟩ := h
    refine gx_iald C g dX12_steps_296 sh_74 i3 ?_
    refine lv_isub C.1 C.2.1 dX12_steps_297 ?_
    refine lv_goto (tgt := 302) C.1 C.2.1 dX12_steps_298 (by decide) ?_
    exact tX12_steps_302 C hr hK123 x1 x4 x5 x7 ((gv σ 88 (x5 + (10 : Int32)).toNatClampNeg) - (gv σ 74 (x4 + (1 : Int32)).toNatClampNeg)) _ _ _ _ (lv_sub hl [0, 1, 2, 3, 4] rfl) g h
set_option maxHeartbeats 4000000 in
set_option maxRecDepth 100000 in
theorem tX12_steps_240 {p : Program} {l : Launch} {e : Env} {s : State} {m : MethodId} {args : Array Value} {below : List Frame} {meth : Method} {c : Code} {E : EE} {base : Nat} (C : Cx p E base s m args meth c cX12_steps 14 RX12) (hr : meth.sig.returnType = none) {Q : St → Prop} {K123 : Int32 → Int32 → St → Prop} (hK123 : ∀ (x1 : Int32) (x4 : Int32) (σ : St) (H : Heap) (locs : List Loc) (ls : Array Slot), lv_has ls 14 [(0, .ref (ga E 11)), (1, .int x1), (4, .int x4)] → GW E base s σ H locs → K123 x1 x4 σ → W p l e rmX12_steps s m args below meth c H locs 0 0 (MQ below (QV E base Q) args s 0 0 (fun q => base ≤ q)) (F0 m 123 ls [])) {K168 : Int32 → Int32 → Int32 → Int32 → Int32 → Int32 → St → Prop} (hK168 : ∀ (x1 : Int32) (x4 : Int32) (x5 : Int32) (x6 : Int32) (x7 : Int32) (x8 : Int32) (σ : St) (H : Heap) (locs : List Loc) (ls : Array Slot), lv_has ls 14 [(0, .ref (ga E 11)), (1, .int x1), (4, .int x4), (5, .int x5), (6, .int x6), (7, .int x7), (8, .int x8)] → GW E base s σ H locs → K168 x1 x4 x5 x6 x7 x8 σ → W p l e rmX12_steps s m args below meth c H locs 0 0 (MQ below (QV E base Q) args s 0 0 (fun q => base ≤ q)) (F0 m 168 ls [])) : ∀ (x1 : Int32) (x4 : Int32) (x5 : Int32) (x6 : Int32) (x7 : Int32) (x8 : Int32) (σ : St) (H : Heap) (locs : List Loc) (ls : Array Slot), lv_has ls 14 [(0, .ref (ga E 11)), (1, .int x1), (4, .int x4), (5, .int x5), (6, .int x6), (7, .int x7), (8, .int x8)] → GW E base s σ H locs → wX12_steps_240 Q K123 K168 x1 x4 x5 x6 x7 x8 σ → W p l e rmX12_steps s m args below meth c H locs 0 0 (MQ below (QV E base Q) args s 0 0 (fun q => base ≤ q)) (F0 m 240 ls []) := by
  intro x1 x4 x5 x6 x7 x8 σ H locs ls hl g h
  obtain ⟨x8_1, ex8_1⟩ : ∃ y : Int32, y = x8 + 1 := ⟨_, rfl⟩
  have h := h x8_1 ex8_1
  refine lv_iinc (v := x8_1) (lv' := [(8, .int x8_1), (0, .ref (ga E 11)), (1, .int x1), (4, .int x4), (5, .int x5), (6, .int x6), (7, .int x7)]) C.1 C.2.1 dX12_steps_240 hl (k := 6) rfl (by rw [ex8_1]; rfl) (by decide) rfl (fun ls hl => ?_)
  refine lv_goto (tgt := 168) C.1 C.2.1 dX12_steps_243 (by decide) ?_
  exact hK168 x1 x4 x5 x6 x7 x8_1 _ _ _ _ (lv_sub hl [1, 2, 3, 4, 5, 6, 0] rfl) g h
set_option maxHeartbeats 4000000 in
set_option maxRecDepth 100000 in
theorem tX12_steps_168 {p : Program} {l : Launch} {e : Env} {s : State} {m : MethodId} {args : Array Value} {below : List Frame} {meth : Method} {c : Code} {E : EE} {base : Nat} (C : Cx p E base s m args meth c cX12_steps 14 RX12) (hr : meth.sig.returnType = none) {Q : St → Prop} {K123 : Int32 → Int32 → St → Prop} (hK123 : ∀ (x1 : Int32) (x4 : Int32) (σ : St) (H : Heap) (locs : List Loc) (ls : Array Slot), lv_has ls 14 [(0, .ref (ga E 11)), (1, .int x1), (4, .int x4)] → GW E base s σ H locs → K123 x1 x4 σ → W p l e rmX12_steps s m args below meth c H locs 0 0 (MQ below (QV E base Q) args s 0 0 (fun q => base ≤ q)) (F0 m 123 ls [])) : ∀ (n : Nat) (x1 : Int32) (x4 : Int32) (x5 : Int32) (x6 : Int32) (x7 : Int32) (x8 : Int32) (σ : St) (H : Heap) (locs : List Loc) (ls : Array Slot), lv_has ls 14 [(0, .ref (ga E 11)), (1, .int x1), (4, .int x4), (5, .int x5), (6, .int x6), (7, .int x7), (8, .int x8)] → GW E base s σ H locs → wX12_steps_168 Q K123 n x1 x4 x5 x6 x7 x8 σ → W p l e rmX12_steps s m args below meth c H locs 0 0 (MQ below (QV E base Q) args s 0 0 (fun q => base ≤ q)) (F0 m 168 ls []) := by
  intro n
  induction n with
  | zero => intro _ _ _ _ _ _; intros; exact False.elim (by assumption)
  | succ n ih =>
    intro x1 x4 x5 x6 x7 x8 σ H locs ls hl g h
    refine lv_iload C.1 C.2.1 dX12_steps_168 (lv_at hl 6 rfl) ?_
    refine lv_aload_n C.1 C.2.1 dX12_steps_170 rfl (lv_at hl 0 rfl) ?_
    refine gx_getI C g fl_X12_263 dX12_steps_171 sh_11 rfl ?_
    refine lv_icmp_ge (tgt := 246) C.1 C.2.1 dX12_steps_174 (by decide) (fun c1 => ?_) (fun c1 => ?_)
    · have h := h.1 c1
      refine lv_iload C.1 C.2.1 dX12_steps_246 (lv_at hl 5 rfl) ?_
      refine lv_aload_n C.1 C.2.1 dX12_steps_248 rfl (lv_at hl 0 rfl) ?_
      refine gx_getR C g fl_X12_104 dX12_steps_249 sh_11 rfl (by decide) ?_
      refine lv_iload C.1 C.2.1 dX12_steps_252 (lv_at hl 2 rfl) ?_
      obtain ⟨i2, h⟩ := h
      refine gx_iald C g dX12_steps_254 sh_76 i2 ?_
      refine lv_icmp_le (tgt := 267) C.1 C.2.1 dX12_steps_255 (by decide) (fun c3 => ?_) (fun c3 => ?_)
      · have h := h.1 c3
        exact tX12_steps_267 C hr hK123 x1 x4 x5 x7 _ _ _ _ (lv_sub hl [0, 1, 2, 3, 5] rfl) g h
      · have h := h.2 c3
        refine lv_aload_n C.1 C.2.1 dX12_steps_258 rfl (lv_at hl 0 rfl) ?_
        refine gx_getR C g fl_X12_104 dX12_steps_259 sh_11 rfl (by decide) ?_
        refine lv_iload C.1 C.2.1 dX12_steps_262 (lv_at hl 2 rfl) ?_
        obtain ⟨i4, h⟩ := h
        refine gx_iald C g dX12_steps_264 sh_76 i4 ?_
        refine lv_topi (fun x7_5 ex7_5 => ?_)
        have h := h x7_5 ex7_5
        refine lv_istore (lv' := [(7, .int x7_5), (0, .ref (ga E 11)), (1, .int x1), (4, .int x4), (5, .int x5), (6, .int x6), (8, .int x8)]) C.1 C.2.1 dX12_steps_265 hl (by decide) rfl (fun ls hl => ?_)
        exact tX12_steps_267 C hr hK123 x1 x4 x5 x7_5 _ _ _ _ (lv_sub hl [1, 2, 3, 4, 0] rfl) g h
    · have h := h.2 c1
      refine lv_aload_n C.1 C.2.1 dX12_steps_177 rfl (lv_at hl 0 rfl) ?_
      refine gx_getR C g fl_X12_55 dX12_steps_178 sh_11 rfl (by decide) ?_
      refine lv_iload C.1 C.2.1 dX12_steps_181 (lv_at hl 6 rfl) ?_
      obtain ⟨i6, h⟩ := h
      refine gx_zald C g dX12_steps_183 sh_60 i6 ?_
      refine lv_if_eq (tgt := 240) C.1 C.2.1 dX12_steps_184 (by decide) (fun c7 => ?_) (fun c7 => ?_)
      · have h := h.1 c7
        exact tX12_steps_240 C hr hK123 ih x1 x4 x5 x6 x7 x8 _ _ _ _ (lv_sub hl [0, 1, 2, 3, 4, 5, 6] rfl) g h
      · have h := h.2 c7
        refine lv_aload_n C.1 C.2.1 dX12_steps_187 rfl (lv_at hl 0 rfl) ?_
        refine lv_iload C.1 C.2.1 dX12_steps_188 (lv_at hl 6 rfl) ?_
        refine lv_iload C.1 C.2.1 dX12_steps_190 (lv_at hl 2 rfl) ?_
        refine lv_iload_n C.1 C.2.1 dX12_steps_192 rfl (lv_at hl 1 rfl) ?_
        refine lv_iload C.1 C.2.1 dX12_steps_193 (lv_at hl 4 rfl) ?_
        refine gx_calli0 g (gx_runV (k := 11) (rest := []) C g mb_X12_counts ml_X12_340 rfl sh_11 (mX12_counts x8 x4 x1 x6 _ _ h) ⟨Nat.le_of_ble_eq_true rfl, Nat.le_of_ble_eq_true rfl⟩ ⟨Nat.le_refl _, Nat.le_refl _⟩ rfl hl.1 rfl (Nat.le_of_ble_eq_true rfl) dX12_steps_195) rfl rfl (fun r8 σ9 H locs h g => ?_)
        refine lv_if_ne (tgt := 204) C.1 C.2.1 dX12_steps_198 (by decide) (fun c10 => ?_) (fun c10 => ?_)
        · have h := h.2 c10
          refine lv_aload_n C.1 C.2.1 dX12_steps_204 rfl (lv_at hl 0 rfl) ?_
          refine lv_aload_n C.1 C.2.1 dX12_steps_205 rfl (lv_at hl 0 rfl) ?_
          refine gx_getR C g fl_X12_59 dX12_steps_206 sh_11 rfl (by decide) ?_
          refine lv_iload C.1 C.2.1 dX12_steps_209 (lv_at hl 6 rfl) ?_
          obtain ⟨i11, h⟩ := h
          refine gx_iald C g dX12_steps_211 sh_61 i11 ?_
          refine lv_aload_n C.1 C.2.1 dX12_steps_212 rfl (lv_at hl 0 rfl) ?_
          refine gx_getR C g fl_X12_62 dX12_steps_213 sh_11 rfl (by decide) ?_
          refine lv_iload C.1 C.2.1 dX12_steps_216 (lv_at hl 6 rfl) ?_
          obtain ⟨i12, h⟩ := h
          refine gx_iald C g dX12_steps_218 sh_62 i12 ?_
          refine lv_iload C.1 C.2.1 dX12_steps_219 (lv_at hl 2 rfl) ?_
          refine lv_iload_n C.1 C.2.1 dX12_steps_221 rfl (lv_at hl 1 rfl) ?_
          refine lv_iload C.1 C.2.1 dX12_steps_222 (lv_at hl 4 rfl) ?_
          refine gx_calli0 g (gx_runV (k := 11) (rest := []) C g mb_X12_value ml_X12_332 rfl sh_11 (mX12_value (gv σ9 61 x8.toNatClampNeg) (gv σ9 62 x8.toNatClampNeg) x4 x1 x6 _ _ h) ⟨Nat.le_of_ble_eq_true rfl, Nat.le_of_ble_eq_true rfl⟩ ⟨Nat.le_refl _, Nat.le_refl _⟩ rfl hl.1 rfl (Nat.le_of_ble_eq_true rfl) dX12_steps_224) rfl rfl (fun r13 σ14 H locs h g => ?_)
          refine lv_istore (lv' := [(9, .int r13), (0, .ref (ga E 11)), (1, .int x1), (4, .int x4), (5, .int x5), (6, .int x6), (7, .int x7), (8, .int x8)]) C.1 C.2.1 dX12_steps_227 hl (by decide) rfl (fun ls hl => ?_)
          refine lv_iload C.1 C.2.1 dX12_steps_229 (lv_at hl 0 rfl) ?_
          refine lv_iload C.1 C.2.1 dX12_steps_231 (lv_at hl 6 rfl) ?_
          refine lv_icmp_le (tgt := 240) C.1 C.2.1 dX12_steps_233 (by decide) (fun c15 => ?_) (fun c15 => ?_)
          · have h := h.1 c15
            exact tX12_steps_240 C hr hK123 ih x1 x4 x5 x6 x7 x8 _ _ _ _ (lv_sub hl [1, 2, 3, 4, 5, 6, 7] rfl) g h
          · have h := h.2 c15
            refine lv_iload C.1 C.2.1 dX12_steps_236 (lv_at hl 0 rfl) ?_
            refine lv_istore (lv' := [(7, .int r13), (9, .int r13), (0, .ref (ga E 11)), (1, .int x1), (4, .int x4), (5, .int x5), (6, .int x6), (8, .int x8)]) C.1 C.2.1 dX12_steps_238 hl (by decide) rfl (fun ls hl => ?_)
            exact tX12_steps_240 C hr hK123 ih x1 x4 x5 x6 r13 x8 _ _ _ _ (lv_sub hl [2, 3, 4, 5, 6, 0, 7] rfl) g h
        · have h := h.1 c10
          refine lv_goto (tgt := 240) C.1 C.2.1 dX12_steps_201 (by decide) ?_
          exact tX12_steps_240 C hr hK123 ih x1 x4 x5 x6 x7 x8 _ _ _ _ (lv_sub hl [0, 1, 2, 3, 4, 5, 6] rfl) g h
set_option maxHeartbeats 4000000 in
set_option maxRecDepth 100000 in
theorem tX12_steps_123 {p : Program} {l : Launch} {e : Env} {s : State} {m : MethodId} {args : Array Value} {below : List Frame} {meth : Method} {c : Code} {E : EE} {base : Nat} (C : Cx p E base s m args meth c cX12_steps 14 RX12) (hr : meth.sig.returnType = none) {Q : St → Prop} : ∀ (n : Nat) (x1 : Int32) (x4 : Int32) (σ : St) (H : Heap) (locs : List Loc) (ls : Array Slot), lv_has ls 14 [(0, .ref (ga E 11)), (1, .int x1), (4, .int x4)] → GW E base s σ H locs → wX12_steps_123 Q n x1 x4 σ → W p l e rmX12_steps s m args below meth c H locs 0 0 (MQ below (QV E base Q) args s 0 0 (fun q => base ≤ q)) (F0 m 123 ls []) := by
  intro n
  induction n with
  | zero => intro _ _; intros; exact False.elim (by assumption)
  | succ n ih =>
    intro x1 x4 σ H locs ls hl g h
    refine lv_iload C.1 C.2.1 dX12_steps_123 (lv_at hl 2 rfl) ?_
    refine lv_aload_n C.1 C.2.1 dX12_steps_125 rfl (lv_at hl 0 rfl) ?_
    refine gx_getI C g fl_X12_307 dX12_steps_126 sh_11 rfl ?_
    refine lv_icmp_ge (tgt := 556) C.1 C.2.1 dX12_steps_129 (by decide) (fun c1 => ?_) (fun c1 => ?_)
    · have h := h.1 c1
      refine lv_iload_n C.1 C.2.1 dX12_steps_556 rfl (lv_at hl 1 rfl) ?_
      refine lv_iconst (v := 1) C.1 C.2.1 dX12_steps_557 (by decide) ?_
      refine lv_iadd C.1 C.2.1 dX12_steps_558 ?_
      refine lv_sipush (v := 240) C.1 C.2.1 dX12_steps_559 (by decide) ?_
      refine lv_icmp_ge (tgt := 607) C.1 C.2.1 dX12_steps_562 (by decide) (fun c2 => ?_) (fun c2 => ?_)
      · have h := h.1 c2
        exact gx_vret C hr g dX12_steps_607 h
      · have h := h.2 c2
        refine lv_iconst (v := 0) C.1 C.2.1 dX12_steps_565 (by decide) ?_
        refine lv_istore (lv' := [(4, .int (0 : Int32)), (0, .ref (ga E 11)), (1, .int x1)]) C.1 C.2.1 dX12_steps_566 hl (by decide) rfl (fun ls hl => ?_)
        obtain ⟨j, h⟩ := h
        exact tX12_steps_568 C hr j x1 (0 : Int32) _ _ _ _ (lv_sub hl [1, 2, 0] rfl) g h
    · have h := h.2 c1
      refine lv_bipush (v := 10) C.1 C.2.1 dX12_steps_132 (by decide) ?_
      refine lv_bipush (v := 7) C.1 C.2.1 dX12_steps_134 (by decide) ?_
      refine lv_iload_n C.1 C.2.1 dX12_steps_136 rfl (lv_at hl 1 rfl) ?_
      refine lv_imul C.1 C.2.1 dX12_steps_137 ?_
      refine lv_iload C.1 C.2.1 dX12_steps_138 (lv_at hl 2 rfl) ?_
      refine lv_iadd C.1 C.2.1 dX12_steps_140 ?_
      refine lv_imul C.1 C.2.1 dX12_steps_141 ?_
      refine lv_topi (fun x5_3 ex5_3 => ?_)
      have h := h x5_3 ex5_3
      refine lv_istore (lv' := [(5, .int x5_3), (0, .ref (ga E 11)), (1, .int x1), (4, .int x4)]) C.1 C.2.1 dX12_steps_142 hl (by decide) rfl (fun ls hl => ?_)
      refine lv_aload_n C.1 C.2.1 dX12_steps_144 rfl (lv_at hl 1 rfl) ?_
      refine gx_getR C g fl_X12_152 dX12_steps_145 sh_11 rfl (by decide) ?_
      refine lv_bipush (v := 14) C.1 C.2.1 dX12_steps_148 (by decide) ?_
      refine lv_iload_n C.1 C.2.1 dX12_steps_150 rfl (lv_at hl 2 rfl) ?_
      refine lv_imul C.1 C.2.1 dX12_steps_151 ?_
      refine lv_bipush (v := 7) C.1 C.2.1 dX12_steps_152 (by decide) ?_
      refine lv_iadd C.1 C.2.1 dX12_steps_154 ?_
      refine lv_iload C.1 C.2.1 dX12_steps_155 (lv_at hl 3 rfl) ?_
      refine lv_iadd C.1 C.2.1 dX12_steps_157 ?_
      obtain ⟨i4, h⟩ := h
      refine gx_iald C g dX12_steps_158 sh_90 i4 ?_
      refine lv_topi (fun x6_5 ex6_5 => ?_)
      have h := h x6_5 ex6_5
      refine lv_istore (lv' := [(6, .int x6_5), (5, .int x5_3), (0, .ref (ga E 11)), (1, .int x1), (4, .int x4)]) C.1 C.2.1 dX12_steps_159 hl (by decide) rfl (fun ls hl => ?_)
      refine lv_iload C.1 C.2.1 dX12_steps_161 (lv_at hl 0 rfl) ?_
      refine lv_istore (lv' := [(7, .int x6_5), (6, .int x6_5), (5, .int x5_3), (0, .ref (ga E 11)), (1, .int x1), (4, .int x4)]) C.1 C.2.1 dX12_steps_163 hl (by decide) rfl (fun ls hl => ?_)
      refine lv_iconst (v := 0) C.1 C.2.1 dX12_steps_165 (by decide) ?_
      refine lv_istore (lv' := [(8, .int (0 : Int32)), (7, .int x6_5), (6, .int x6_5), (5, .int x5_3), (0, .ref (ga E 11)), (1, .int x1), (4, .int x4)]) C.1 C.2.1 dX12_steps_166 hl (by decide) rfl (fun ls hl => ?_)
      obtain ⟨j, h⟩ := h
      exact tX12_steps_168 C hr ih j x1 x4 x5_3 x6_5 x6_5 (0 : Int32) _ _ _ _ (lv_sub hl [4, 5, 6, 3, 2, 1, 0] rfl) g h
set_option maxHeartbeats 4000000 in
set_option maxRecDepth 100000 in
theorem tX12_steps_113 {p : Program} {l : Launch} {e : Env} {s : State} {m : MethodId} {args : Array Value} {below : List Frame} {meth : Method} {c : Code} {E : EE} {base : Nat} (C : Cx p E base s m args meth c cX12_steps 14 RX12) (hr : meth.sig.returnType = none) {Q : St → Prop} {K3 : Int32 → Int32 → Int32 → Int32 → St → Prop} (hK3 : ∀ (x1 : Int32) (x2 : Int32) (x3 : Int32) (x4 : Int32) (σ : St) (H : Heap) (locs : List Loc) (ls : Array Slot), lv_has ls 14 [(0, .ref (ga E 11)), (1, .int x1), (2, .int x2), (3, .int x3), (4, .int x4)] → GW E base s σ H locs → K3 x1 x2 x3 x4 σ → W p l e rmX12_steps s m args below meth c H locs 0 0 (MQ below (QV E base Q) args s 0 0 (fun q => base ≤ q)) (F0 m 3 ls [])) : ∀ (x1 : Int32) (x2 : Int32) (x3 : Int32) (x4 : Int32) (xt1 : Int32) (xt2 : Int32) (σ : St) (H : Heap) (locs : List Loc) (ls : Array Slot), lv_has ls 14 [(0, .ref (ga E 11)), (1, .int x1), (2, .int x2), (3, .int x3), (4, .int x4)] → GW E base s σ H locs → wX12_steps_113 Q K3 x1 x2 x3 x4 xt1 xt2 σ → W p l e rmX12_steps s m args below meth c H locs 0 0 (MQ below (QV E base Q) args s 0 0 (fun q => base ≤ q)) (F0 m 113 ls [.int xt2, .int xt1, .ref (ga E 88)]) := by
  intro x1 x2 x3 x4 xt1 xt2 σ H locs ls hl g h
  obtain ⟨i1, h⟩ := h
  refine gx_iast C g dX12_steps_113 sh_88 i1 (fun H locs σ2 eσ2 g => ?_)
  have h := h σ2 eσ2
  obtain ⟨x4_3, ex4_3⟩ : ∃ y : Int32, y = x4 + 1 := ⟨_, rfl⟩
  have h := h x4_3 ex4_3
  refine lv_iinc (v := x4_3) (lv' := [(4, .int x4_3), (0, .ref (ga E 11)), (1, .int x1), (2, .int x2), (3, .int x3)]) C.1 C.2.1 dX12_steps_114 hl (k := 4) rfl (by rw [ex4_3]; rfl) (by decide) rfl (fun ls hl => ?_)
  refine lv_goto (tgt := 3) C.1 C.2.1 dX12_steps_117 (by decide) ?_
  exact hK3 x1 x2 x3 x4_3 _ _ _ _ (lv_sub hl [1, 2, 3, 4, 0] rfl) g h
set_option maxHeartbeats 4000000 in
set_option maxRecDepth 100000 in
theorem tX12_steps_57 {p : Program} {l : Launch} {e : Env} {s : State} {m : MethodId} {args : Array Value} {below : List Frame} {meth : Method} {c : Code} {E : EE} {base : Nat} (C : Cx p E base s m args meth c cX12_steps 14 RX12) (hr : meth.sig.returnType = none) {Q : St → Prop} {K3 : Int32 → Int32 → Int32 → Int32 → St → Prop} (hK3 : ∀ (x1 : Int32) (x2 : Int32) (x3 : Int32) (x4 : Int32) (σ : St) (H : Heap) (locs : List Loc) (ls : Array Slot), lv_has ls 14 [(0, .ref (ga E 11)), (1, .int x1), (2, .int x2), (3, .int x3), (4, .int x4)] → GW E base s σ H locs → K3 x1 x2 x3 x4 σ → W p l e rmX12_steps s m args below meth c H locs 0 0 (MQ below (QV E base Q) args s 0 0 (fun q => base ≤ q)) (F0 m 3 ls [])) : ∀ (x1 : Int32) (x2 : Int32) (x3 : Int32) (x4 : Int32) (x5 : Int32) (xt0 : Int32) (σ : St) (H : Heap) (locs : List Loc) (ls : Array Slot), lv_has ls 14 [(0, .ref (ga E 11)), (1, .int x1), (2, .int x2), (3, .int x3), (4, .int x4), (5, .int x5)] → GW E base s σ H locs → wX12_steps_57 Q K3 x1 x2 x3 x4 x5 xt0 σ → W p l e rmX12_steps s m args below meth c H locs 0 0 (MQ below (QV E base Q) args s 0 0 (fun q => base ≤ q)) (F0 m 57 ls [.int xt0]) := by
  intro x1 x2 x3 x4 x5 xt0 σ H locs ls hl g h
  refine lv_istore (lv' := [(6, .int xt0), (0, .ref (ga E 11)), (1, .int x1), (2, .int x2), (3, .int x3), (4, .int x4), (5, .int x5)]) C.1 C.2.1 dX12_steps_57 hl (by decide) rfl (fun ls hl => ?_)
  refine lv_aload_n C.1 C.2.1 dX12_steps_59 rfl (lv_at hl 1 rfl) ?_
  refine gx_getR C g fl_X12_140 dX12_steps_60 sh_11 rfl (by decide) ?_
  refine lv_iload C.1 C.2.1 dX12_steps_63 (lv_at hl 6 rfl) ?_
  refine lv_iconst (v := 1) C.1 C.2.1 dX12_steps_65 (by decide) ?_
  refine lv_iadd C.1 C.2.1 dX12_steps_66 ?_
  refine lv_iload C.1 C.2.1 dX12_steps_67 (lv_at hl 0 rfl) ?_
  refine lv_aload_n C.1 C.2.1 dX12_steps_69 rfl (lv_at hl 1 rfl) ?_
  refine gx_getR C g fl_X12_149 dX12_steps_70 sh_11 rfl (by decide) ?_
  refine lv_bipush (v := 7) C.1 C.2.1 dX12_steps_73 (by decide) ?_
  refine lv_iload_n C.1 C.2.1 dX12_steps_75 rfl (lv_at hl 2 rfl) ?_
  refine lv_imul C.1 C.2.1 dX12_steps_76 ?_
  refine lv_iload C.1 C.2.1 dX12_steps_77 (lv_at hl 5 rfl) ?_
  refine lv_iadd C.1 C.2.1 dX12_steps_79 ?_
  obtain ⟨i1, h⟩ := h
  refine gx_iald C g dX12_steps_80 sh_89 i1 ?_
  refine lv_iadd C.1 C.2.1 dX12_steps_81 ?_
  obtain ⟨i2, h⟩ := h
  refine gx_iast C g dX12_steps_82 sh_88 i2 (fun H locs σ3 eσ3 g => ?_)
  have h := h σ3 eσ3
  refine lv_aload_n C.1 C.2.1 dX12_steps_83 rfl (lv_at hl 1 rfl) ?_
  refine gx_getR C g fl_X12_140 dX12_steps_84 sh_11 rfl (by decide) ?_
  refine lv_iload C.1 C.2.1 dX12_steps_87 (lv_at hl 6 rfl) ?_
  refine lv_iconst (v := 2) C.1 C.2.1 dX12_steps_89 (by decide) ?_
  refine lv_iadd C.1 C.2.1 dX12_steps_90 ?_
  refine lv_iload C.1 C.2.1 dX12_steps_91 (lv_at hl 5 rfl) ?_
  refine lv_iload_n C.1 C.2.1 dX12_steps_93 rfl (lv_at hl 3 rfl) ?_
  refine lv_icmp_ne (tgt := 101) C.1 C.2.1 dX12_steps_94 (by decide) (fun c4 => ?_) (fun c4 => ?_)
  · have h := h.2 c4
    refine lv_aload_n C.1 C.2.1 dX12_steps_101 rfl (lv_at hl 1 rfl) ?_
    refine gx_getR C g fl_X12_152 dX12_steps_102 sh_11 rfl (by decide) ?_
    refine lv_bipush (v := 14) C.1 C.2.1 dX12_steps_105 (by decide) ?_
    refine lv_iload_n C.1 C.2.1 dX12_steps_107 rfl (lv_at hl 2 rfl) ?_
    refine lv_imul C.1 C.2.1 dX12_steps_108 ?_
    refine lv_iload C.1 C.2.1 dX12_steps_109 (lv_at hl 5 rfl) ?_
    refine lv_iadd C.1 C.2.1 dX12_steps_111 ?_
    obtain ⟨i5, h⟩ := h
    refine gx_iald C g dX12_steps_112 sh_90 i5 ?_
    exact tX12_steps_113 C hr hK3 x1 x2 x3 x4 (x5 + (2 : Int32)) (gv σ3 90 (((14 : Int32) * x1) + x4).toNatClampNeg) _ _ _ _ (lv_sub hl [1, 2, 3, 4, 5] rfl) g h
  · have h := h.1 c4
    refine lv_iload_n C.1 C.2.1 dX12_steps_97 rfl (lv_at hl 4 rfl) ?_
    refine lv_goto (tgt := 113) C.1 C.2.1 dX12_steps_98 (by decide) ?_
    exact tX12_steps_113 C hr hK3 x1 x2 x3 x4 (x5 + (2 : Int32)) x3 _ _ _ _ (lv_sub hl [1, 2, 3, 4, 5] rfl) g h
set_option maxHeartbeats 4000000 in
set_option maxRecDepth 100000 in
theorem tX12_steps_3 {p : Program} {l : Launch} {e : Env} {s : State} {m : MethodId} {args : Array Value} {below : List Frame} {meth : Method} {c : Code} {E : EE} {base : Nat} (C : Cx p E base s m args meth c cX12_steps 14 RX12) (hr : meth.sig.returnType = none) {Q : St → Prop} : ∀ (n : Nat) (x1 : Int32) (x2 : Int32) (x3 : Int32) (x4 : Int32) (σ : St) (H : Heap) (locs : List Loc) (ls : Array Slot), lv_has ls 14 [(0, .ref (ga E 11)), (1, .int x1), (2, .int x2), (3, .int x3), (4, .int x4)] → GW E base s σ H locs → wX12_steps_3 Q n x1 x2 x3 x4 σ → W p l e rmX12_steps s m args below meth c H locs 0 0 (MQ below (QV E base Q) args s 0 0 (fun q => base ≤ q)) (F0 m 3 ls []) := by
  intro n
  induction n with
  | zero => intro _ _ _ _; intros; exact False.elim (by assumption)
  | succ n ih =>
    intro x1 x2 x3 x4 σ H locs ls hl g h
    refine lv_iload C.1 C.2.1 dX12_steps_3 (lv_at hl 4 rfl) ?_
    refine lv_aload_n C.1 C.2.1 dX12_steps_5 rfl (lv_at hl 0 rfl) ?_
    refine gx_getI C g fl_X12_307 dX12_steps_6 sh_11 rfl ?_
    refine lv_icmp_ge (tgt := 120) C.1 C.2.1 dX12_steps_9 (by decide) (fun c1 => ?_) (fun c1 => ?_)
    · have h := h.1 c1
      refine lv_iconst (v := 0) C.1 C.2.1 dX12_steps_120 (by decide) ?_
      refine lv_istore (lv' := [(4, .int (0 : Int32)), (0, .ref (ga E 11)), (1, .int x1), (2, .int x2), (3, .int x3)]) C.1 C.2.1 dX12_steps_121 hl (by decide) rfl (fun ls hl => ?_)
      obtain ⟨j, h⟩ := h
      exact tX12_steps_123 C hr j x1 (0 : Int32) _ _ _ _ (lv_sub hl [1, 2, 0] rfl) g h
    · have h := h.2 c1
      refine lv_bipush (v := 10) C.1 C.2.1 dX12_steps_12 (by decide) ?_
      refine lv_bipush (v := 7) C.1 C.2.1 dX12_steps_14 (by decide) ?_
      refine lv_iload_n C.1 C.2.1 dX12_steps_16 rfl (lv_at hl 1 rfl) ?_
      refine lv_imul C.1 C.2.1 dX12_steps_17 ?_
      refine lv_iload C.1 C.2.1 dX12_steps_18 (lv_at hl 4 rfl) ?_
      refine lv_iadd C.1 C.2.1 dX12_steps_20 ?_
      refine lv_imul C.1 C.2.1 dX12_steps_21 ?_
      refine lv_topi (fun x5_2 ex5_2 => ?_)
      have h := h x5_2 ex5_2
      refine lv_istore (lv' := [(5, .int x5_2), (0, .ref (ga E 11)), (1, .int x1), (2, .int x2), (3, .int x3), (4, .int x4)]) C.1 C.2.1 dX12_steps_22 hl (by decide) rfl (fun ls hl => ?_)
      refine lv_iload C.1 C.2.1 dX12_steps_24 (lv_at hl 5 rfl) ?_
      refine lv_if_ne (tgt := 36) C.1 C.2.1 dX12_steps_26 (by decide) (fun c3 => ?_) (fun c3 => ?_)
      · have h := h.2 c3
        refine lv_iload_n C.1 C.2.1 dX12_steps_36 rfl (lv_at hl 2 rfl) ?_
        refine lv_if_ne (tgt := 44) C.1 C.2.1 dX12_steps_37 (by decide) (fun c4 => ?_) (fun c4 => ?_)
        · have h := h.2 c4
          refine lv_aload_n C.1 C.2.1 dX12_steps_44 rfl (lv_at hl 1 rfl) ?_
          refine gx_getR C g fl_X12_140 dX12_steps_45 sh_11 rfl (by decide) ?_
          refine lv_iload C.1 C.2.1 dX12_steps_48 (lv_at hl 0 rfl) ?_
          refine lv_bipush (v := 80) C.1 C.2.1 dX12_steps_50 (by decide) ?_
          refine lv_isub C.1 C.2.1 dX12_steps_52 ?_
          refine lv_bipush (v := 9) C.1 C.2.1 dX12_steps_53 (by decide) ?_
          refine lv_iadd C.1 C.2.1 dX12_steps_55 ?_
          obtain ⟨i5, h⟩ := h
          refine gx_iald C g dX12_steps_56 sh_88 i5 ?_
          exact tX12_steps_57 C hr ih x1 x2 x3 x4 x5_2 (gv σ 88 ((x5_2 - (80 : Int32)) + (9 : Int32)).toNatClampNeg) _ _ _ _ (lv_sub hl [1, 2, 3, 4, 5, 0] rfl) g h
        · have h := h.1 c4
          refine lv_iconst (v := 0) C.1 C.2.1 dX12_steps_40 (by decide) ?_
          refine lv_goto (tgt := 57) C.1 C.2.1 dX12_steps_41 (by decide) ?_
          exact tX12_steps_57 C hr ih x1 x2 x3 x4 x5_2 (0 : Int32) _ _ _ _ (lv_sub hl [1, 2, 3, 4, 5, 0] rfl) g h
      · have h := h.1 c3
        refine lv_aload_n C.1 C.2.1 dX12_steps_29 rfl (lv_at hl 1 rfl) ?_
        refine gx_getI C g fl_X12_313 dX12_steps_30 sh_11 rfl ?_
        refine lv_goto (tgt := 57) C.1 C.2.1 dX12_steps_33 (by decide) ?_
        exact tX12_steps_57 C hr ih x1 x2 x3 x4 x5_2 (gv σ 11 48) _ _ _ _ (lv_sub hl [1, 2, 3, 4, 5, 0] rfl) g h
set_option maxHeartbeats 4000000 in
set_option maxRecDepth 100000 in
theorem tX12_steps_e {p : Program} {l : Launch} {e : Env} {s : State} {m : MethodId} {args : Array Value} {below : List Frame} {meth : Method} {c : Code} {E : EE} {base : Nat} (C : Cx p E base s m args meth c cX12_steps 14 RX12) (hr : meth.sig.returnType = none) {Q : St → Prop} : ∀ (x1 : Int32) (x2 : Int32) (x3 : Int32) (σ : St) (H : Heap) (locs : List Loc) (ls : Array Slot), lv_has ls 14 [(0, .ref (ga E 11)), (1, .int x1), (2, .int x2), (3, .int x3)] → GW E base s σ H locs → wX12_steps x1 x2 x3 σ Q → W p l e rmX12_steps s m args below meth c H locs 0 0 (MQ below (QV E base Q) args s 0 0 (fun q => base ≤ q)) (F0 m 0 ls []) := by
  intro x1 x2 x3 σ H locs ls hl g h
  refine lv_iconst (v := 0) C.1 C.2.1 dX12_steps_0 (by decide) ?_
  refine lv_istore (lv' := [(4, .int (0 : Int32)), (0, .ref (ga E 11)), (1, .int x1), (2, .int x2), (3, .int x3)]) C.1 C.2.1 dX12_steps_1 hl (by decide) rfl (fun ls hl => ?_)
  obtain ⟨j, h⟩ := h
  exact tX12_steps_3 C hr j x1 x2 x3 (0 : Int32) _ _ _ _ (lv_sub hl [1, 2, 3, 4, 0] rfl) g h
theorem mX12_steps {l : Launch} {E : EE} {base : Nat} (x1 : Int32) (x2 : Int32) (x3 : Int32) (σ : St) (Q : St → Prop) (h : wX12_steps x1 x2 x3 σ Q) : Met l yX12_steps (wy yX12_steps cX12_steps 14 none) rmX12_steps (va_Pc [.ref (ga E 11), .int x1, .int x2, .int x3] (fun U => SW E base σ U)) (QV E base Q) (rmX12_steps).cells (rmX12_steps).slots (fun q => base ≤ q) :=
  met_of (by decide) (Nat.le_of_ble_eq_true rfl) (fun p e s m args below meth c C hr g ls hl => tX12_steps_e C hr x1 x2 x3 _ _ _ _ hl g h)
abbrev rmX12_works : Room := { frames := 5, cells := 0, slots := 0, locals := 141 }
def wX12_works_55 (Q : St → Prop) : Nat → Int32 → Int32 → Int32 → St → Prop
  | 0, _, _, _, _ => False
  | n + 1, x1, x2, x3, σ => (((240 : Int32) ≤ x3 → ∀ σ2 : St, σ2 = pv σ 11 66 x1 → ∀ σ3 : St, σ3 = pv σ2 11 67 x2 → Q σ3) ∧ (¬ ((240 : Int32) ≤ x3) → wX12_steps x3 (-1 : Int32) (0 : Int32) σ (fun (σ5 : St) => ∀ x3_6 : Int32, x3_6 = x3 + 1 → wX12_works_55 Q n x1 x2 x3_6 σ5)))
def wX12_works_29 (Q : St → Prop) : Nat → Int32 → Int32 → Int32 → St → Prop
  | 0, _, _, _, _ => False
  | n + 1, x1, x2, x3, σ => (((gv σ 11 43) ≤ x3 → ∃ j : Nat, wX12_works_55 Q j x1 x2 (0 : Int32) σ) ∧ (¬ ((gv σ 11 43) ≤ x3) → vp_in ((10 : Int32) * x3) 16800 ∧ ∀ σ3 : St, σ3 = pv σ 88 ((10 : Int32) * x3).toNatClampNeg (0 : Int32) → ∀ x3_4 : Int32, x3_4 = x3 + 1 → wX12_works_29 Q n x1 x2 x3_4 σ3))
def wX12_works_17 (Q : St → Prop) (x1 : Int32) (x2 : Int32) (σ : St) : Prop := wX12_knows x1 σ (fun (σ2 : St) => wX12_sets x2 σ2 (fun (σ4 : St) => ∃ j : Nat, wX12_works_29 Q j x1 x2 (0 : Int32) σ4))
def wX12_works (x1 : Int32) (x2 : Int32) (σ : St) (Q : St → Prop) : Prop := (((gv σ 11 66) = x1 → (((gv σ 11 67) = x2 → Q σ) ∧ (¬ ((gv σ 11 67) = x2) → wX12_works_17 Q x1 x2 σ))) ∧ (¬ ((gv σ 11 66) = x1) → wX12_works_17 Q x1 x2 σ))
set_option maxHeartbeats 4000000 in
set_option maxRecDepth 100000 in
theorem tX12_works_55 {p : Program} {l : Launch} {e : Env} {s : State} {m : MethodId} {args : Array Value} {below : List Frame} {meth : Method} {c : Code} {E : EE} {base : Nat} (C : Cx p E base s m args meth c cX12_works 4 RX12) (hr : meth.sig.returnType = none) {Q : St → Prop} : ∀ (n : Nat) (x1 : Int32) (x2 : Int32) (x3 : Int32) (σ : St) (H : Heap) (locs : List Loc) (ls : Array Slot), lv_has ls 4 [(0, .ref (ga E 11)), (1, .int x1), (2, .int x2), (3, .int x3)] → GW E base s σ H locs → wX12_works_55 Q n x1 x2 x3 σ → W p l e rmX12_works s m args below meth c H locs 0 0 (MQ below (QV E base Q) args s 0 0 (fun q => base ≤ q)) (F0 m 55 ls []) := by
  intro n
  induction n with
  | zero => intro _ _ _; intros; exact False.elim (by assumption)
  | succ n ih =>
    intro x1 x2 x3 σ H locs ls hl g h
    refine lv_iload_n C.1 C.2.1 dX12_works_55 rfl (lv_at hl 3 rfl) ?_
    refine lv_sipush (v := 240) C.1 C.2.1 dX12_works_56 (by decide) ?_
    refine lv_icmp_ge (tgt := 75) C.1 C.2.1 dX12_works_59 (by decide) (fun c1 => ?_) (fun c1 => ?_)
    · have h := h.1 c1
      refine lv_aload_n C.1 C.2.1 dX12_works_75 rfl (lv_at hl 0 rfl) ?_
      refine lv_iload_n C.1 C.2.1 dX12_works_76 rfl (lv_at hl 1 rfl) ?_
      refine gx_putI C g fi_X12_143 dX12_works_77 sh_11 rfl (fun H locs σ2 eσ2 g => ?_)
      have h := h σ2 eσ2
      refine lv_aload_n C.1 C.2.1 dX12_works_80 rfl (lv_at hl 0 rfl) ?_
      refine lv_iload_n C.1 C.2.1 dX12_works_81 rfl (lv_at hl 2 rfl) ?_
      refine gx_putI C g fi_X12_146 dX12_works_82 sh_11 rfl (fun H locs σ3 eσ3 g => ?_)
      have h := h σ3 eσ3
      exact gx_vret C hr g dX12_works_85 h
    · have h := h.2 c1
      refine lv_aload_n C.1 C.2.1 dX12_works_62 rfl (lv_at hl 0 rfl) ?_
      refine lv_iload_n C.1 C.2.1 dX12_works_63 rfl (lv_at hl 3 rfl) ?_
      refine lv_iconst (v := -1) C.1 C.2.1 dX12_works_64 (by decide) ?_
      refine lv_iconst (v := 0) C.1 C.2.1 dX12_works_65 (by decide) ?_
      refine gx_callv0 g (gx_runV (k := 11) (rest := []) C g mb_X12_steps ml_X12_353 rfl sh_11 (mX12_steps x3 (-1 : Int32) (0 : Int32) _ _ h) ⟨Nat.le_of_ble_eq_true rfl, Nat.le_of_ble_eq_true rfl⟩ ⟨Nat.le_refl _, Nat.le_refl _⟩ rfl hl.1 rfl (Nat.le_of_ble_eq_true rfl) dX12_works_66) rfl rfl (fun σ5 H locs h g => ?_)
      obtain ⟨x3_6, ex3_6⟩ : ∃ y : Int32, y = x3 + 1 := ⟨_, rfl⟩
      have h := h x3_6 ex3_6
      refine lv_iinc (v := x3_6) (lv' := [(3, .int x3_6), (0, .ref (ga E 11)), (1, .int x1), (2, .int x2)]) C.1 C.2.1 dX12_works_69 hl (k := 3) rfl (by rw [ex3_6]; rfl) (by decide) rfl (fun ls hl => ?_)
      refine lv_goto (tgt := 55) C.1 C.2.1 dX12_works_72 (by decide) ?_
      exact ih x1 x2 x3_6 _ _ _ _ (lv_sub hl [1, 2, 3, 0] rfl) g h
set_option maxHeartbeats 4000000 in
set_option maxRecDepth 100000 in
theorem tX12_works_29 {p : Program} {l : Launch} {e : Env} {s : State} {m : MethodId} {args : Array Value} {below : List Frame} {meth : Method} {c : Code} {E : EE} {base : Nat} (C : Cx p E base s m args meth c cX12_works 4 RX12) (hr : meth.sig.returnType = none) {Q : St → Prop} : ∀ (n : Nat) (x1 : Int32) (x2 : Int32) (x3 : Int32) (σ : St) (H : Heap) (locs : List Loc) (ls : Array Slot), lv_has ls 4 [(0, .ref (ga E 11)), (1, .int x1), (2, .int x2), (3, .int x3)] → GW E base s σ H locs → wX12_works_29 Q n x1 x2 x3 σ → W p l e rmX12_works s m args below meth c H locs 0 0 (MQ below (QV E base Q) args s 0 0 (fun q => base ≤ q)) (F0 m 29 ls []) := by
  intro n
  induction n with
  | zero => intro _ _ _; intros; exact False.elim (by assumption)
  | succ n ih =>
    intro x1 x2 x3 σ H locs ls hl g h
    refine lv_iload_n C.1 C.2.1 dX12_works_29 rfl (lv_at hl 3 rfl) ?_
    refine lv_aload_n C.1 C.2.1 dX12_works_30 rfl (lv_at hl 0 rfl) ?_
    refine gx_getI C g fl_X12_307 dX12_works_31 sh_11 rfl ?_
    refine lv_icmp_ge (tgt := 53) C.1 C.2.1 dX12_works_34 (by decide) (fun c1 => ?_) (fun c1 => ?_)
    · have h := h.1 c1
      refine lv_iconst (v := 0) C.1 C.2.1 dX12_works_53 (by decide) ?_
      refine lv_istore_n (lv' := [(3, .int (0 : Int32)), (0, .ref (ga E 11)), (1, .int x1), (2, .int x2)]) C.1 C.2.1 dX12_works_54 rfl hl (by decide) rfl (fun ls hl => ?_)
      obtain ⟨j, h⟩ := h
      exact tX12_works_55 C hr j x1 x2 (0 : Int32) _ _ _ _ (lv_sub hl [1, 2, 3, 0] rfl) g h
    · have h := h.2 c1
      refine lv_aload_n C.1 C.2.1 dX12_works_37 rfl (lv_at hl 0 rfl) ?_
      refine gx_getR C g fl_X12_140 dX12_works_38 sh_11 rfl (by decide) ?_
      refine lv_bipush (v := 10) C.1 C.2.1 dX12_works_41 (by decide) ?_
      refine lv_iload_n C.1 C.2.1 dX12_works_43 rfl (lv_at hl 3 rfl) ?_
      refine lv_imul C.1 C.2.1 dX12_works_44 ?_
      refine lv_iconst (v := 0) C.1 C.2.1 dX12_works_45 (by decide) ?_
      obtain ⟨i2, h⟩ := h
      refine gx_iast C g dX12_works_46 sh_88 i2 (fun H locs σ3 eσ3 g => ?_)
      have h := h σ3 eσ3
      obtain ⟨x3_4, ex3_4⟩ : ∃ y : Int32, y = x3 + 1 := ⟨_, rfl⟩
      have h := h x3_4 ex3_4
      refine lv_iinc (v := x3_4) (lv' := [(3, .int x3_4), (0, .ref (ga E 11)), (1, .int x1), (2, .int x2)]) C.1 C.2.1 dX12_works_47 hl (k := 3) rfl (by rw [ex3_4]; rfl) (by decide) rfl (fun ls hl => ?_)
      refine lv_goto (tgt := 29) C.1 C.2.1 dX12_works_50 (by decide) ?_
      exact ih x1 x2 x3_4 _ _ _ _ (lv_sub hl [1, 2, 3, 0] rfl) g h
set_option maxHeartbeats 4000000 in
set_option maxRecDepth 100000 in
theorem tX12_works_17 {p : Program} {l : Launch} {e : Env} {s : State} {m : MethodId} {args : Array Value} {below : List Frame} {meth : Method} {c : Code} {E : EE} {base : Nat} (C : Cx p E base s m args meth c cX12_works 4 RX12) (hr : meth.sig.returnType = none) {Q : St → Prop} : ∀ (x1 : Int32) (x2 : Int32) (σ : St) (H : Heap) (locs : List Loc) (ls : Array Slot), lv_has ls 4 [(0, .ref (ga E 11)), (1, .int x1), (2, .int x2)] → GW E base s σ H locs → wX12_works_17 Q x1 x2 σ → W p l e rmX12_works s m args below meth c H locs 0 0 (MQ below (QV E base Q) args s 0 0 (fun q => base ≤ q)) (F0 m 17 ls []) := by
  intro x1 x2 σ H locs ls hl g h
  refine lv_aload_n C.1 C.2.1 dX12_works_17 rfl (lv_at hl 0 rfl) ?_
  refine lv_iload_n C.1 C.2.1 dX12_works_18 rfl (lv_at hl 1 rfl) ?_
  refine gx_callv0 g (gx_runV (k := 11) (rest := []) C g mb_X12_knows ml_X12_347 rfl sh_11 (mX12_knows x1 _ _ h) ⟨Nat.le_of_ble_eq_true rfl, Nat.le_of_ble_eq_true rfl⟩ ⟨Nat.le_refl _, Nat.le_refl _⟩ rfl hl.1 rfl (Nat.le_of_ble_eq_true rfl) dX12_works_19) rfl rfl (fun σ2 H locs h g => ?_)
  refine lv_aload_n C.1 C.2.1 dX12_works_22 rfl (lv_at hl 0 rfl) ?_
  refine lv_iload_n C.1 C.2.1 dX12_works_23 rfl (lv_at hl 2 rfl) ?_
  refine gx_callv0 g (gx_runV (k := 11) (rest := []) C g mb_X12_sets ml_X12_350 rfl sh_11 (mX12_sets x2 _ _ h) ⟨Nat.le_of_ble_eq_true rfl, Nat.le_of_ble_eq_true rfl⟩ ⟨Nat.le_refl _, Nat.le_refl _⟩ rfl hl.1 rfl (Nat.le_of_ble_eq_true rfl) dX12_works_24) rfl rfl (fun σ4 H locs h g => ?_)
  refine lv_iconst (v := 0) C.1 C.2.1 dX12_works_27 (by decide) ?_
  refine lv_istore_n (lv' := [(3, .int (0 : Int32)), (0, .ref (ga E 11)), (1, .int x1), (2, .int x2)]) C.1 C.2.1 dX12_works_28 rfl hl (by decide) rfl (fun ls hl => ?_)
  obtain ⟨j, h⟩ := h
  exact tX12_works_29 C hr j x1 x2 (0 : Int32) _ _ _ _ (lv_sub hl [1, 2, 3, 0] rfl) g h
set_option maxHeartbeats 4000000 in
set_option maxRecDepth 100000 in
theorem tX12_works_e {p : Program} {l : Launch} {e : Env} {s : State} {m : MethodId} {args : Array Value} {below : List Frame} {meth : Method} {c : Code} {E : EE} {base : Nat} (C : Cx p E base s m args meth c cX12_works 4 RX12) (hr : meth.sig.returnType = none) {Q : St → Prop} : ∀ (x1 : Int32) (x2 : Int32) (σ : St) (H : Heap) (locs : List Loc) (ls : Array Slot), lv_has ls 4 [(0, .ref (ga E 11)), (1, .int x1), (2, .int x2)] → GW E base s σ H locs → wX12_works x1 x2 σ Q → W p l e rmX12_works s m args below meth c H locs 0 0 (MQ below (QV E base Q) args s 0 0 (fun q => base ≤ q)) (F0 m 0 ls []) := by
  intro x1 x2 σ H locs ls hl g h
  refine lv_aload_n C.1 C.2.1 dX12_works_0 rfl (lv_at hl 0 rfl) ?_
  refine gx_getI C g fl_X12_143 dX12_works_1 sh_11 rfl ?_
  refine lv_iload_n C.1 C.2.1 dX12_works_4 rfl (lv_at hl 1 rfl) ?_
  refine lv_icmp_ne (tgt := 17) C.1 C.2.1 dX12_works_5 (by decide) (fun c1 => ?_) (fun c1 => ?_)
  · have h := h.2 c1
    exact tX12_works_17 C hr x1 x2 _ _ _ _ (lv_sub hl [0, 1, 2] rfl) g h
  · have h := h.1 c1
    refine lv_aload_n C.1 C.2.1 dX12_works_8 rfl (lv_at hl 0 rfl) ?_
    refine gx_getI C g fl_X12_146 dX12_works_9 sh_11 rfl ?_
    refine lv_iload_n C.1 C.2.1 dX12_works_12 rfl (lv_at hl 2 rfl) ?_
    refine lv_icmp_ne (tgt := 17) C.1 C.2.1 dX12_works_13 (by decide) (fun c2 => ?_) (fun c2 => ?_)
    · have h := h.2 c2
      exact tX12_works_17 C hr x1 x2 _ _ _ _ (lv_sub hl [0, 1, 2] rfl) g h
    · have h := h.1 c2
      exact gx_vret C hr g dX12_works_16 h
theorem mX12_works {l : Launch} {E : EE} {base : Nat} (x1 : Int32) (x2 : Int32) (σ : St) (Q : St → Prop) (h : wX12_works x1 x2 σ Q) : Met l yX12_works (wy yX12_works cX12_works 4 none) rmX12_works (va_Pc [.ref (ga E 11), .int x1, .int x2] (fun U => SW E base σ U)) (QV E base Q) (rmX12_works).cells (rmX12_works).slots (fun q => base ≤ q) :=
  met_of (by decide) (Nat.le_of_ble_eq_true rfl) (fun p e s m args below meth c C hr g ls hl => tX12_works_e C hr x1 x2 _ _ _ _ hl g h)
abbrev rmX12_isKnown : Room := { frames := 0, cells := 0, slots := 0, locals := 0 }
def wX12_isKnown (x1 : Int32) (σ : St) (Q : Int32 → St → Prop) : Prop := ((x1 < 0 → Q (0 : Int32) σ) ∧ (¬ (x1 < 0) → (((gv σ 11 52) < x1 → Q (0 : Int32) σ) ∧ (¬ ((gv σ 11 52) < x1) → Q (1 : Int32) σ))))
set_option maxHeartbeats 4000000 in
set_option maxRecDepth 100000 in
theorem tX12_isKnown_e {p : Program} {l : Launch} {e : Env} {s : State} {m : MethodId} {args : Array Value} {below : List Frame} {meth : Method} {c : Code} {E : EE} {base : Nat} (C : Cx p E base s m args meth c cX12_isKnown 2 RX12) (hr : meth.sig.returnType = (some .boolean)) {Q : Int32 → St → Prop} : ∀ (x1 : Int32) (σ : St) (H : Heap) (locs : List Loc) (ls : Array Slot), lv_has ls 2 [(0, .ref (ga E 11)), (1, .int x1)] → GW E base s σ H locs → wX12_isKnown x1 σ Q → W p l e rmX12_isKnown s m args below meth c H locs 0 0 (MQ below (QI E base Q) args s 0 0 (fun q => base ≤ q)) (F0 m 0 ls []) := by
  intro x1 σ H locs ls hl g h
  refine lv_iload_n C.1 C.2.1 dX12_isKnown_0 rfl (lv_at hl 1 rfl) ?_
  refine lv_if_lt (tgt := 16) C.1 C.2.1 dX12_isKnown_1 (by decide) (fun c1 => ?_) (fun c1 => ?_)
  · have h := h.1 c1
    refine lv_iconst (v := 0) C.1 C.2.1 dX12_isKnown_16 (by decide) ?_
    exact gx_zret C hr g dX12_isKnown_17 (by decide) h
  · have h := h.2 c1
    refine lv_iload_n C.1 C.2.1 dX12_isKnown_4 rfl (lv_at hl 1 rfl) ?_
    refine lv_aload_n C.1 C.2.1 dX12_isKnown_5 rfl (lv_at hl 0 rfl) ?_
    refine gx_getI C g fl_X12_316 dX12_isKnown_6 sh_11 rfl ?_
    refine lv_icmp_gt (tgt := 16) C.1 C.2.1 dX12_isKnown_9 (by decide) (fun c2 => ?_) (fun c2 => ?_)
    · have h := h.1 c2
      refine lv_iconst (v := 0) C.1 C.2.1 dX12_isKnown_16 (by decide) ?_
      exact gx_zret C hr g dX12_isKnown_17 (by decide) h
    · have h := h.2 c2
      refine lv_iconst (v := 1) C.1 C.2.1 dX12_isKnown_12 (by decide) ?_
      refine lv_goto (tgt := 17) C.1 C.2.1 dX12_isKnown_13 (by decide) ?_
      exact gx_zret C hr g dX12_isKnown_17 (by decide) h
theorem mX12_isKnown {l : Launch} {E : EE} {base : Nat} (x1 : Int32) (σ : St) (Q : Int32 → St → Prop) (h : wX12_isKnown x1 σ Q) : Met l yX12_isKnown (wy yX12_isKnown cX12_isKnown 2 (some .boolean)) rmX12_isKnown (va_Pc [.ref (ga E 11), .int x1] (fun U => SW E base σ U)) (QI E base Q) (rmX12_isKnown).cells (rmX12_isKnown).slots (fun q => base ≤ q) :=
  met_of (by decide) (Nat.le_of_ble_eq_true rfl) (fun p e s m args below meth c C hr g ls hl => tX12_isKnown_e C hr x1 _ _ _ _ hl g h)
abbrev rmX12_isEnd : Room := { frames := 0, cells := 0, slots := 0, locals := 0 }
def wX12_isEnd (x0 : Int32) (σ : St) (Q : Int32 → St → Prop) : Prop := ((x0 < 0 → Q (0 : Int32) σ) ∧ (¬ (x0 < 0) → (((240 : Int32) < x0 → Q (0 : Int32) σ) ∧ (¬ ((240 : Int32) < x0) → Q (1 : Int32) σ))))
set_option maxHeartbeats 4000000 in
set_option maxRecDepth 100000 in
theorem tX12_isEnd_e {p : Program} {l : Launch} {e : Env} {s : State} {m : MethodId} {args : Array Value} {below : List Frame} {meth : Method} {c : Code} {E : EE} {base : Nat} (C : Cx p E base s m args meth c cX12_isEnd 1 RX12) (hr : meth.sig.returnType = (some .boolean)) {Q : Int32 → St → Prop} : ∀ (x0 : Int32) (σ : St) (H : Heap) (locs : List Loc) (ls : Array Slot), lv_has ls 1 [(0, .int x0)] → GW E base s σ H locs → wX12_isEnd x0 σ Q → W p l e rmX12_isEnd s m args below meth c H locs 0 0 (MQ below (QI E base Q) args s 0 0 (fun q => base ≤ q)) (F0 m 0 ls []) := by
  intro x0 σ H locs ls hl g h
  refine lv_iload_n C.1 C.2.1 dX12_isEnd_0 rfl (lv_at hl 0 rfl) ?_
  refine lv_if_lt (tgt := 15) C.1 C.2.1 dX12_isEnd_1 (by decide) (fun c1 => ?_) (fun c1 => ?_)
  · have h := h.1 c1
    refine lv_iconst (v := 0) C.1 C.2.1 dX12_isEnd_15 (by decide) ?_
    exact gx_zret C hr g dX12_isEnd_16 (by decide) h
  · have h := h.2 c1
    refine lv_iload_n C.1 C.2.1 dX12_isEnd_4 rfl (lv_at hl 0 rfl) ?_
    refine lv_sipush (v := 240) C.1 C.2.1 dX12_isEnd_5 (by decide) ?_
    refine lv_icmp_gt (tgt := 15) C.1 C.2.1 dX12_isEnd_8 (by decide) (fun c2 => ?_) (fun c2 => ?_)
    · have h := h.1 c2
      refine lv_iconst (v := 0) C.1 C.2.1 dX12_isEnd_15 (by decide) ?_
      exact gx_zret C hr g dX12_isEnd_16 (by decide) h
    · have h := h.2 c2
      refine lv_iconst (v := 1) C.1 C.2.1 dX12_isEnd_11 (by decide) ?_
      refine lv_goto (tgt := 16) C.1 C.2.1 dX12_isEnd_12 (by decide) ?_
      exact gx_zret C hr g dX12_isEnd_16 (by decide) h
theorem mX12_isEnd {l : Launch} {E : EE} {base : Nat} (x0 : Int32) (σ : St) (Q : Int32 → St → Prop) (h : wX12_isEnd x0 σ Q) : Met l yX12_isEnd (wy yX12_isEnd cX12_isEnd 1 (some .boolean)) rmX12_isEnd (va_Pc [.int x0] (fun U => SW E base σ U)) (QI E base Q) (rmX12_isEnd).cells (rmX12_isEnd).slots (fun q => base ≤ q) :=
  met_of (by decide) (Nat.le_of_ble_eq_true rfl) (fun p e s m args below meth c C hr g ls hl => tX12_isEnd_e C hr x0 _ _ _ _ hl g h)
abbrev rmX12_at_ : Room := { frames := 6, cells := 0, slots := 0, locals := 164 }
def wX12_at_ (x1 : Int32) (x2 : Int32) (x3 : Int32) (x4 : Int32) (σ : St) (Q : Int32 → St → Prop) : Prop := wX12_isMill x2 σ (fun (r1 : Int32) (σ2 : St) => ((r1 = 0 → Q (-1000000 : Int32) σ2) ∧ (¬ (r1 = 0) → ((x1 < 0 → Q (-1000000 : Int32) σ2) ∧ (¬ (x1 < 0) → (((240 : Int32) ≤ x1 → Q (-1000000 : Int32) σ2) ∧ (¬ ((240 : Int32) ≤ x1) → wX12_isKnown x3 σ2 (fun (r6 : Int32) (σ7 : St) => ((r6 = 0 → Q (-1000000 : Int32) σ7) ∧ (¬ (r6 = 0) → ((x4 < 0 → Q (-1000000 : Int32) σ7) ∧ (¬ (x4 < 0) → ((x4 ≤ (9 : Int32) → wX12_works x3 (-1 : Int32) σ7 (fun (σ12 : St) => vp_in (((10 : Int32) * (((7 : Int32) * x1) + x2)) + x4) 16800 ∧ Q (gv σ12 88 (((10 : Int32) * (((7 : Int32) * x1) + x2)) + x4).toNatClampNeg) σ12)) ∧ (¬ (x4 ≤ (9 : Int32)) → Q (-1000000 : Int32) σ7))))))))))))))
set_option maxHeartbeats 4000000 in
set_option maxRecDepth 100000 in
theorem tX12_at__e {p : Program} {l : Launch} {e : Env} {s : State} {m : MethodId} {args : Array Value} {below : List Frame} {meth : Method} {c : Code} {E : EE} {base : Nat} (C : Cx p E base s m args meth c cX12_at_ 5 RX12) (hr : meth.sig.returnType = (some .int)) {Q : Int32 → St → Prop} : ∀ (x1 : Int32) (x2 : Int32) (x3 : Int32) (x4 : Int32) (σ : St) (H : Heap) (locs : List Loc) (ls : Array Slot), lv_has ls 5 [(0, .ref (ga E 11)), (1, .int x1), (2, .int x2), (3, .int x3), (4, .int x4)] → GW E base s σ H locs → wX12_at_ x1 x2 x3 x4 σ Q → W p l e rmX12_at_ s m args below meth c H locs 0 0 (MQ below (QI E base Q) args s 0 0 (fun q => base ≤ q)) (F0 m 0 ls []) := by
  intro x1 x2 x3 x4 σ H locs ls hl g h
  refine lv_aload_n C.1 C.2.1 dX12_at__0 rfl (lv_at hl 0 rfl) ?_
  refine lv_iload_n C.1 C.2.1 dX12_at__1 rfl (lv_at hl 2 rfl) ?_
  refine gx_calli0 g (gx_runV (k := 11) (rest := []) C g mb_X12_isMill ml_X12_319 rfl sh_11 (mX12_isMill x2 _ _ h) ⟨Nat.le_of_ble_eq_true rfl, Nat.le_of_ble_eq_true rfl⟩ ⟨Nat.le_refl _, Nat.le_refl _⟩ rfl hl.1 rfl (Nat.le_of_ble_eq_true rfl) dX12_at__2) rfl rfl (fun r1 σ2 H locs h g => ?_)
  refine lv_if_eq (tgt := 39) C.1 C.2.1 dX12_at__5 (by decide) (fun c3 => ?_) (fun c3 => ?_)
  · have h := h.1 c3
    refine gx_ldc_w C ck_X12_360 dX12_at__39 ?_
    exact gx_iret C hr g dX12_at__42 h
  · have h := h.2 c3
    refine lv_iload_n C.1 C.2.1 dX12_at__8 rfl (lv_at hl 1 rfl) ?_
    refine lv_if_lt (tgt := 39) C.1 C.2.1 dX12_at__9 (by decide) (fun c4 => ?_) (fun c4 => ?_)
    · have h := h.1 c4
      refine gx_ldc_w C ck_X12_360 dX12_at__39 ?_
      exact gx_iret C hr g dX12_at__42 h
    · have h := h.2 c4
      refine lv_iload_n C.1 C.2.1 dX12_at__12 rfl (lv_at hl 1 rfl) ?_
      refine lv_sipush (v := 240) C.1 C.2.1 dX12_at__13 (by decide) ?_
      refine lv_icmp_ge (tgt := 39) C.1 C.2.1 dX12_at__16 (by decide) (fun c5 => ?_) (fun c5 => ?_)
      · have h := h.1 c5
        refine gx_ldc_w C ck_X12_360 dX12_at__39 ?_
        exact gx_iret C hr g dX12_at__42 h
      · have h := h.2 c5
        refine lv_aload_n C.1 C.2.1 dX12_at__19 rfl (lv_at hl 0 rfl) ?_
        refine lv_iload_n C.1 C.2.1 dX12_at__20 rfl (lv_at hl 3 rfl) ?_
        refine gx_calli0 g (gx_runV (k := 11) (rest := []) C g mb_X12_isKnown ml_X12_357 rfl sh_11 (mX12_isKnown x3 _ _ h) ⟨Nat.le_of_ble_eq_true rfl, Nat.le_of_ble_eq_true rfl⟩ ⟨Nat.le_refl _, Nat.le_refl _⟩ rfl hl.1 rfl (Nat.le_of_ble_eq_true rfl) dX12_at__21) rfl rfl (fun r6 σ7 H locs h g => ?_)
        refine lv_if_eq (tgt := 39) C.1 C.2.1 dX12_at__24 (by decide) (fun c8 => ?_) (fun c8 => ?_)
        · have h := h.1 c8
          refine gx_ldc_w C ck_X12_360 dX12_at__39 ?_
          exact gx_iret C hr g dX12_at__42 h
        · have h := h.2 c8
          refine lv_iload C.1 C.2.1 dX12_at__27 (lv_at hl 4 rfl) ?_
          refine lv_if_lt (tgt := 39) C.1 C.2.1 dX12_at__29 (by decide) (fun c9 => ?_) (fun c9 => ?_)
          · have h := h.1 c9
            refine gx_ldc_w C ck_X12_360 dX12_at__39 ?_
            exact gx_iret C hr g dX12_at__42 h
          · have h := h.2 c9
            refine lv_iload C.1 C.2.1 dX12_at__32 (lv_at hl 4 rfl) ?_
            refine lv_bipush (v := 9) C.1 C.2.1 dX12_at__34 (by decide) ?_
            refine lv_icmp_le (tgt := 43) C.1 C.2.1 dX12_at__36 (by decide) (fun c10 => ?_) (fun c10 => ?_)
            · have h := h.1 c10
              refine lv_aload_n C.1 C.2.1 dX12_at__43 rfl (lv_at hl 0 rfl) ?_
              refine lv_iload_n C.1 C.2.1 dX12_at__44 rfl (lv_at hl 3 rfl) ?_
              refine lv_iconst (v := -1) C.1 C.2.1 dX12_at__45 (by decide) ?_
              refine gx_callv0 g (gx_runV (k := 11) (rest := []) C g mb_X12_works ml_X12_361 rfl sh_11 (mX12_works x3 (-1 : Int32) _ _ h) ⟨Nat.le_of_ble_eq_true rfl, Nat.le_of_ble_eq_true rfl⟩ ⟨Nat.le_refl _, Nat.le_refl _⟩ rfl hl.1 rfl (Nat.le_of_ble_eq_true rfl) dX12_at__46) rfl rfl (fun σ12 H locs h g => ?_)
              refine lv_aload_n C.1 C.2.1 dX12_at__49 rfl (lv_at hl 0 rfl) ?_
              refine gx_getR C g fl_X12_140 dX12_at__50 sh_11 rfl (by decide) ?_
              refine lv_bipush (v := 10) C.1 C.2.1 dX12_at__53 (by decide) ?_
              refine lv_bipush (v := 7) C.1 C.2.1 dX12_at__55 (by decide) ?_
              refine lv_iload_n C.1 C.2.1 dX12_at__57 rfl (lv_at hl 1 rfl) ?_
              refine lv_imul C.1 C.2.1 dX12_at__58 ?_
              refine lv_iload_n C.1 C.2.1 dX12_at__59 rfl (lv_at hl 2 rfl) ?_
              refine lv_iadd C.1 C.2.1 dX12_at__60 ?_
              refine lv_imul C.1 C.2.1 dX12_at__61 ?_
              refine lv_iload C.1 C.2.1 dX12_at__62 (lv_at hl 4 rfl) ?_
              refine lv_iadd C.1 C.2.1 dX12_at__64 ?_
              obtain ⟨i13, h⟩ := h
              refine gx_iald C g dX12_at__65 sh_88 i13 ?_
              exact gx_iret C hr g dX12_at__66 h
            · have h := h.2 c10
              refine gx_ldc_w C ck_X12_360 dX12_at__39 ?_
              exact gx_iret C hr g dX12_at__42 h
theorem mX12_at_ {l : Launch} {E : EE} {base : Nat} (x1 : Int32) (x2 : Int32) (x3 : Int32) (x4 : Int32) (σ : St) (Q : Int32 → St → Prop) (h : wX12_at_ x1 x2 x3 x4 σ Q) : Met l yX12_at_ (wy yX12_at_ cX12_at_ 5 (some .int)) rmX12_at_ (va_Pc [.ref (ga E 11), .int x1, .int x2, .int x3, .int x4] (fun U => SW E base σ U)) (QI E base Q) (rmX12_at_).cells (rmX12_at_).slots (fun q => base ≤ q) :=
  met_of (by decide) (Nat.le_of_ble_eq_true rfl) (fun p e s m args below meth c C hr g ls hl => tX12_at__e C hr x1 x2 x3 x4 _ _ _ _ hl g h)
abbrev rmX12_sea : Room := { frames := 6, cells := 0, slots := 0, locals := 164 }
def wX12_sea_37 (Q : Int32 → St → Prop) : Nat → Int32 → Int32 → Int32 → St → Prop
  | 0, _, _, _, _ => False
  | n + 1, x1, x3, x4, σ => ((x1 ≤ x4 → Q x3 σ) ∧ (¬ (x1 ≤ x4) → vp_in (((10 : Int32) * ((((7 : Int32) * x4) + (gv σ 11 43)) - (1 : Int32))) + (9 : Int32)) 16800 ∧ ∀ x3_3 : Int32, x3_3 = x3 + (gv σ 88 (((10 : Int32) * ((((7 : Int32) * x4) + (gv σ 11 43)) - (1 : Int32))) + (9 : Int32)).toNatClampNeg) → ∀ x4_4 : Int32, x4_4 = x4 + 1 → wX12_sea_37 Q n x1 x3_3 x4_4 σ))
def wX12_sea (x1 : Int32) (x2 : Int32) (σ : St) (Q : Int32 → St → Prop) : Prop := wX12_isEnd x1 σ (fun (r1 : Int32) (σ2 : St) => ((r1 = 0 → Q (-1 : Int32) σ2) ∧ (¬ (r1 = 0) → wX12_isKnown x2 σ2 (fun (r4 : Int32) (σ5 : St) => ((r4 = 0 → Q (-1 : Int32) σ5) ∧ (¬ (r4 = 0) → (((gv σ5 11 43) = 0 → Q (0 : Int32) σ5) ∧ (¬ ((gv σ5 11 43) = 0) → wX12_works x2 (-1 : Int32) σ5 (fun (σ9 : St) => ∃ j : Nat, wX12_sea_37 Q j x1 (0 : Int32) (0 : Int32) σ9)))))))))
set_option maxHeartbeats 4000000 in
set_option maxRecDepth 100000 in
theorem tX12_sea_37 {p : Program} {l : Launch} {e : Env} {s : State} {m : MethodId} {args : Array Value} {below : List Frame} {meth : Method} {c : Code} {E : EE} {base : Nat} (C : Cx p E base s m args meth c cX12_sea 5 RX12) (hr : meth.sig.returnType = (some .int)) {Q : Int32 → St → Prop} : ∀ (n : Nat) (x1 : Int32) (x3 : Int32) (x4 : Int32) (σ : St) (H : Heap) (locs : List Loc) (ls : Array Slot), lv_has ls 5 [(0, .ref (ga E 11)), (1, .int x1), (3, .int x3), (4, .int x4)] → GW E base s σ H locs → wX12_sea_37 Q n x1 x3 x4 σ → W p l e rmX12_sea s m args below meth c H locs 0 0 (MQ below (QI E base Q) args s 0 0 (fun q => base ≤ q)) (F0 m 37 ls []) := by
  intro n
  induction n with
  | zero => intro _ _ _; intros; exact False.elim (by assumption)
  | succ n ih =>
    intro x1 x3 x4 σ H locs ls hl g h
    refine lv_iload C.1 C.2.1 dX12_sea_37 (lv_at hl 3 rfl) ?_
    refine lv_iload_n C.1 C.2.1 dX12_sea_39 rfl (lv_at hl 1 rfl) ?_
    refine lv_icmp_ge (tgt := 75) C.1 C.2.1 dX12_sea_40 (by decide) (fun c1 => ?_) (fun c1 => ?_)
    · have h := h.1 c1
      refine lv_iload_n C.1 C.2.1 dX12_sea_75 rfl (lv_at hl 2 rfl) ?_
      exact gx_iret C hr g dX12_sea_76 h
    · have h := h.2 c1
      refine lv_iload_n C.1 C.2.1 dX12_sea_43 rfl (lv_at hl 2 rfl) ?_
      refine lv_aload_n C.1 C.2.1 dX12_sea_44 rfl (lv_at hl 0 rfl) ?_
      refine gx_getR C g fl_X12_140 dX12_sea_45 sh_11 rfl (by decide) ?_
      refine lv_bipush (v := 10) C.1 C.2.1 dX12_sea_48 (by decide) ?_
      refine lv_bipush (v := 7) C.1 C.2.1 dX12_sea_50 (by decide) ?_
      refine lv_iload C.1 C.2.1 dX12_sea_52 (lv_at hl 3 rfl) ?_
      refine lv_imul C.1 C.2.1 dX12_sea_54 ?_
      refine lv_aload_n C.1 C.2.1 dX12_sea_55 rfl (lv_at hl 0 rfl) ?_
      refine gx_getI C g fl_X12_307 dX12_sea_56 sh_11 rfl ?_
      refine lv_iadd C.1 C.2.1 dX12_sea_59 ?_
      refine lv_iconst (v := 1) C.1 C.2.1 dX12_sea_60 (by decide) ?_
      refine lv_isub C.1 C.2.1 dX12_sea_61 ?_
      refine lv_imul C.1 C.2.1 dX12_sea_62 ?_
      refine lv_bipush (v := 9) C.1 C.2.1 dX12_sea_63 (by decide) ?_
      refine lv_iadd C.1 C.2.1 dX12_sea_65 ?_
      obtain ⟨i2, h⟩ := h
      refine gx_iald C g dX12_sea_66 sh_88 i2 ?_
      refine lv_iadd C.1 C.2.1 dX12_sea_67 ?_
      refine lv_topi (fun x3_3 ex3_3 => ?_)
      have h := h x3_3 ex3_3
      refine lv_istore_n (lv' := [(3, .int x3_3), (0, .ref (ga E 11)), (1, .int x1), (4, .int x4)]) C.1 C.2.1 dX12_sea_68 rfl hl (by decide) rfl (fun ls hl => ?_)
      obtain ⟨x4_4, ex4_4⟩ : ∃ y : Int32, y = x4 + 1 := ⟨_, rfl⟩
      have h := h x4_4 ex4_4
      refine lv_iinc (v := x4_4) (lv' := [(4, .int x4_4), (3, .int x3_3), (0, .ref (ga E 11)), (1, .int x1)]) C.1 C.2.1 dX12_sea_69 hl (k := 3) rfl (by rw [ex4_4]; rfl) (by decide) rfl (fun ls hl => ?_)
      refine lv_goto (tgt := 37) C.1 C.2.1 dX12_sea_72 (by decide) ?_
      exact ih x1 x3_3 x4_4 _ _ _ _ (lv_sub hl [2, 3, 1, 0] rfl) g h
set_option maxHeartbeats 4000000 in
set_option maxRecDepth 100000 in
theorem tX12_sea_e {p : Program} {l : Launch} {e : Env} {s : State} {m : MethodId} {args : Array Value} {below : List Frame} {meth : Method} {c : Code} {E : EE} {base : Nat} (C : Cx p E base s m args meth c cX12_sea 5 RX12) (hr : meth.sig.returnType = (some .int)) {Q : Int32 → St → Prop} : ∀ (x1 : Int32) (x2 : Int32) (σ : St) (H : Heap) (locs : List Loc) (ls : Array Slot), lv_has ls 5 [(0, .ref (ga E 11)), (1, .int x1), (2, .int x2)] → GW E base s σ H locs → wX12_sea x1 x2 σ Q → W p l e rmX12_sea s m args below meth c H locs 0 0 (MQ below (QI E base Q) args s 0 0 (fun q => base ≤ q)) (F0 m 0 ls []) := by
  intro x1 x2 σ H locs ls hl g h
  refine lv_iload_n C.1 C.2.1 dX12_sea_0 rfl (lv_at hl 1 rfl) ?_
  refine gx_calli0 g (gx_runS (rest := []) C g ms_X12_isEnd ml_X12_364 (mX12_isEnd x1 _ _ h) ⟨Nat.le_of_ble_eq_true rfl, Nat.le_of_ble_eq_true rfl⟩ ⟨Nat.le_refl _, Nat.le_refl _⟩ rfl hl.1 rfl (Nat.le_of_ble_eq_true rfl) dX12_sea_1) rfl rfl (fun r1 σ2 H locs h g => ?_)
  refine lv_if_eq (tgt := 15) C.1 C.2.1 dX12_sea_4 (by decide) (fun c3 => ?_) (fun c3 => ?_)
  · have h := h.1 c3
    refine lv_iconst (v := -1) C.1 C.2.1 dX12_sea_15 (by decide) ?_
    exact gx_iret C hr g dX12_sea_16 h
  · have h := h.2 c3
    refine lv_aload_n C.1 C.2.1 dX12_sea_7 rfl (lv_at hl 0 rfl) ?_
    refine lv_iload_n C.1 C.2.1 dX12_sea_8 rfl (lv_at hl 2 rfl) ?_
    refine gx_calli0 g (gx_runV (k := 11) (rest := []) C g mb_X12_isKnown ml_X12_357 rfl sh_11 (mX12_isKnown x2 _ _ h) ⟨Nat.le_of_ble_eq_true rfl, Nat.le_of_ble_eq_true rfl⟩ ⟨Nat.le_refl _, Nat.le_refl _⟩ rfl hl.1 rfl (Nat.le_of_ble_eq_true rfl) dX12_sea_9) rfl rfl (fun r4 σ5 H locs h g => ?_)
    refine lv_if_ne (tgt := 17) C.1 C.2.1 dX12_sea_12 (by decide) (fun c6 => ?_) (fun c6 => ?_)
    · have h := h.2 c6
      refine lv_aload_n C.1 C.2.1 dX12_sea_17 rfl (lv_at hl 0 rfl) ?_
      refine gx_getI C g fl_X12_307 dX12_sea_18 sh_11 rfl ?_
      refine lv_if_ne (tgt := 26) C.1 C.2.1 dX12_sea_21 (by decide) (fun c7 => ?_) (fun c7 => ?_)
      · have h := h.2 c7
        refine lv_aload_n C.1 C.2.1 dX12_sea_26 rfl (lv_at hl 0 rfl) ?_
        refine lv_iload_n C.1 C.2.1 dX12_sea_27 rfl (lv_at hl 2 rfl) ?_
        refine lv_iconst (v := -1) C.1 C.2.1 dX12_sea_28 (by decide) ?_
        refine gx_callv0 g (gx_runV (k := 11) (rest := []) C g mb_X12_works ml_X12_361 rfl sh_11 (mX12_works x2 (-1 : Int32) _ _ h) ⟨Nat.le_of_ble_eq_true rfl, Nat.le_of_ble_eq_true rfl⟩ ⟨Nat.le_refl _, Nat.le_refl _⟩ rfl hl.1 rfl (Nat.le_of_ble_eq_true rfl) dX12_sea_29) rfl rfl (fun σ9 H locs h g => ?_)
        refine lv_iconst (v := 0) C.1 C.2.1 dX12_sea_32 (by decide) ?_
        refine lv_istore_n (lv' := [(3, .int (0 : Int32)), (0, .ref (ga E 11)), (1, .int x1), (2, .int x2)]) C.1 C.2.1 dX12_sea_33 rfl hl (by decide) rfl (fun ls hl => ?_)
        refine lv_iconst (v := 0) C.1 C.2.1 dX12_sea_34 (by decide) ?_
        refine lv_istore (lv' := [(4, .int (0 : Int32)), (3, .int (0 : Int32)), (0, .ref (ga E 11)), (1, .int x1), (2, .int x2)]) C.1 C.2.1 dX12_sea_35 hl (by decide) rfl (fun ls hl => ?_)
        obtain ⟨j, h⟩ := h
        exact tX12_sea_37 C hr j x1 (0 : Int32) (0 : Int32) _ _ _ _ (lv_sub hl [2, 3, 1, 0] rfl) g h
      · have h := h.1 c7
        refine lv_iconst (v := 0) C.1 C.2.1 dX12_sea_24 (by decide) ?_
        exact gx_iret C hr g dX12_sea_25 h
    · have h := h.1 c6
      refine lv_iconst (v := -1) C.1 C.2.1 dX12_sea_15 (by decide) ?_
      exact gx_iret C hr g dX12_sea_16 h
theorem mX12_sea {l : Launch} {E : EE} {base : Nat} (x1 : Int32) (x2 : Int32) (σ : St) (Q : Int32 → St → Prop) (h : wX12_sea x1 x2 σ Q) : Met l yX12_sea (wy yX12_sea cX12_sea 5 (some .int)) rmX12_sea (va_Pc [.ref (ga E 11), .int x1, .int x2] (fun U => SW E base σ U)) (QI E base Q) (rmX12_sea).cells (rmX12_sea).slots (fun q => base ≤ q) :=
  met_of (by decide) (Nat.le_of_ble_eq_true rfl) (fun p e s m args below meth c C hr g ls hl => tX12_sea_e C hr x1 x2 _ _ _ _ hl g h)
abbrev rmX12_breaks : Room := { frames := 4, cells := 0, slots := 0, locals := 108 }
def wX12_breaks (x1 : Int32) (x2 : Int32) (x3 : Int32) (σ : St) (Q : Int32 → St → Prop) : Prop := vp_in x1 31 ∧ (((gv σ 60 x1.toNatClampNeg) = 0 → wX12_counts x1 x2 x3 (-1 : Int32) σ (fun (r3 : Int32) (σ4 : St) => ((r3 = 0 → Q (0 : Int32) σ4) ∧ (¬ (r3 = 0) → vp_in x1 31 ∧ vp_in x1 31 ∧ wX12_holds (gv σ4 61 x1.toNatClampNeg) (gv σ4 62 x1.toNatClampNeg) x2 x3 (-1 : Int32) σ4 (fun (r8 : Int32) (σ9 : St) => ((r8 = 0 → Q (1 : Int32) σ9) ∧ (¬ (r8 = 0) → Q (0 : Int32) σ9))))))) ∧ (¬ ((gv σ 60 x1.toNatClampNeg) = 0) → Q (0 : Int32) σ))
set_option maxHeartbeats 4000000 in
set_option maxRecDepth 100000 in
theorem tX12_breaks_e {p : Program} {l : Launch} {e : Env} {s : State} {m : MethodId} {args : Array Value} {below : List Frame} {meth : Method} {c : Code} {E : EE} {base : Nat} (C : Cx p E base s m args meth c cX12_breaks 4 RX12) (hr : meth.sig.returnType = (some .boolean)) {Q : Int32 → St → Prop} : ∀ (x1 : Int32) (x2 : Int32) (x3 : Int32) (σ : St) (H : Heap) (locs : List Loc) (ls : Array Slot), lv_has ls 4 [(0, .ref (ga E 11)), (1, .int x1), (2, .int x2), (3, .int x3)] → GW E base s σ H locs → wX12_breaks x1 x2 x3 σ Q → W p l e rmX12_breaks s m args below meth c H locs 0 0 (MQ below (QI E base Q) args s 0 0 (fun q => base ≤ q)) (F0 m 0 ls []) := by
  intro x1 x2 x3 σ H locs ls hl g h
  refine lv_aload_n C.1 C.2.1 dX12_breaks_0 rfl (lv_at hl 0 rfl) ?_
  refine gx_getR C g fl_X12_55 dX12_breaks_1 sh_11 rfl (by decide) ?_
  refine lv_iload_n C.1 C.2.1 dX12_breaks_4 rfl (lv_at hl 1 rfl) ?_
  obtain ⟨i1, h⟩ := h
  refine gx_zald C g dX12_breaks_5 sh_60 i1 ?_
  refine lv_if_ne (tgt := 46) C.1 C.2.1 dX12_breaks_6 (by decide) (fun c2 => ?_) (fun c2 => ?_)
  · have h := h.2 c2
    refine lv_iconst (v := 0) C.1 C.2.1 dX12_breaks_46 (by decide) ?_
    exact gx_zret C hr g dX12_breaks_47 (by decide) h
  · have h := h.1 c2
    refine lv_aload_n C.1 C.2.1 dX12_breaks_9 rfl (lv_at hl 0 rfl) ?_
    refine lv_iload_n C.1 C.2.1 dX12_breaks_10 rfl (lv_at hl 1 rfl) ?_
    refine lv_iload_n C.1 C.2.1 dX12_breaks_11 rfl (lv_at hl 2 rfl) ?_
    refine lv_iload_n C.1 C.2.1 dX12_breaks_12 rfl (lv_at hl 3 rfl) ?_
    refine lv_iconst (v := -1) C.1 C.2.1 dX12_breaks_13 (by decide) ?_
    refine gx_calli0 g (gx_runV (k := 11) (rest := []) C g mb_X12_counts ml_X12_340 rfl sh_11 (mX12_counts x1 x2 x3 (-1 : Int32) _ _ h) ⟨Nat.le_of_ble_eq_true rfl, Nat.le_of_ble_eq_true rfl⟩ ⟨Nat.le_refl _, Nat.le_refl _⟩ rfl hl.1 rfl (Nat.le_of_ble_eq_true rfl) dX12_breaks_14) rfl rfl (fun r3 σ4 H locs h g => ?_)
    refine lv_if_eq (tgt := 46) C.1 C.2.1 dX12_breaks_17 (by decide) (fun c5 => ?_) (fun c5 => ?_)
    · have h := h.1 c5
      refine lv_iconst (v := 0) C.1 C.2.1 dX12_breaks_46 (by decide) ?_
      exact gx_zret C hr g dX12_breaks_47 (by decide) h
    · have h := h.2 c5
      refine lv_aload_n C.1 C.2.1 dX12_breaks_20 rfl (lv_at hl 0 rfl) ?_
      refine lv_aload_n C.1 C.2.1 dX12_breaks_21 rfl (lv_at hl 0 rfl) ?_
      refine gx_getR C g fl_X12_59 dX12_breaks_22 sh_11 rfl (by decide) ?_
      refine lv_iload_n C.1 C.2.1 dX12_breaks_25 rfl (lv_at hl 1 rfl) ?_
      obtain ⟨i6, h⟩ := h
      refine gx_iald C g dX12_breaks_26 sh_61 i6 ?_
      refine lv_aload_n C.1 C.2.1 dX12_breaks_27 rfl (lv_at hl 0 rfl) ?_
      refine gx_getR C g fl_X12_62 dX12_breaks_28 sh_11 rfl (by decide) ?_
      refine lv_iload_n C.1 C.2.1 dX12_breaks_31 rfl (lv_at hl 1 rfl) ?_
      obtain ⟨i7, h⟩ := h
      refine gx_iald C g dX12_breaks_32 sh_62 i7 ?_
      refine lv_iload_n C.1 C.2.1 dX12_breaks_33 rfl (lv_at hl 2 rfl) ?_
      refine lv_iload_n C.1 C.2.1 dX12_breaks_34 rfl (lv_at hl 3 rfl) ?_
      refine lv_iconst (v := -1) C.1 C.2.1 dX12_breaks_35 (by decide) ?_
      refine gx_calli0 g (gx_runV (k := 11) (rest := []) C g mb_X12_holds ml_X12_336 rfl sh_11 (mX12_holds (gv σ4 61 x1.toNatClampNeg) (gv σ4 62 x1.toNatClampNeg) x2 x3 (-1 : Int32) _ _ h) ⟨Nat.le_of_ble_eq_true rfl, Nat.le_of_ble_eq_true rfl⟩ ⟨Nat.le_refl _, Nat.le_refl _⟩ rfl hl.1 rfl (Nat.le_of_ble_eq_true rfl) dX12_breaks_36) rfl rfl (fun r8 σ9 H locs h g => ?_)
      refine lv_if_ne (tgt := 46) C.1 C.2.1 dX12_breaks_39 (by decide) (fun c10 => ?_) (fun c10 => ?_)
      · have h := h.2 c10
        refine lv_iconst (v := 0) C.1 C.2.1 dX12_breaks_46 (by decide) ?_
        exact gx_zret C hr g dX12_breaks_47 (by decide) h
      · have h := h.1 c10
        refine lv_iconst (v := 1) C.1 C.2.1 dX12_breaks_42 (by decide) ?_
        refine lv_goto (tgt := 47) C.1 C.2.1 dX12_breaks_43 (by decide) ?_
        exact gx_zret C hr g dX12_breaks_47 (by decide) h
theorem mX12_breaks {l : Launch} {E : EE} {base : Nat} (x1 : Int32) (x2 : Int32) (x3 : Int32) (σ : St) (Q : Int32 → St → Prop) (h : wX12_breaks x1 x2 x3 σ Q) : Met l yX12_breaks (wy yX12_breaks cX12_breaks 4 (some .boolean)) rmX12_breaks (va_Pc [.ref (ga E 11), .int x1, .int x2, .int x3] (fun U => SW E base σ U)) (QI E base Q) (rmX12_breaks).cells (rmX12_breaks).slots (fun q => base ≤ q) :=
  met_of (by decide) (Nat.le_of_ble_eq_true rfl) (fun p e s m args below meth c C hr g ls hl => tX12_breaks_e C hr x1 x2 x3 _ _ _ _ hl g h)
abbrev rmX12_broken : Room := { frames := 6, cells := 0, slots := 0, locals := 164 }
def wX12_broken_90 (Q : Int32 → St → Prop) (K37 : Int32 → Int32 → Int32 → St → Prop) (K49 : Int32 → Int32 → Int32 → Int32 → St → Prop) (x1 : Int32) (x4 : Int32) (x5 : Int32) (x6 : Int32) (σ : St) : Prop := ∀ x6_1 : Int32, x6_1 = x6 + 1 → K49 x1 x4 x5 x6_1 σ
def wX12_broken_49 (Q : Int32 → St → Prop) (K37 : Int32 → Int32 → Int32 → St → Prop) : Nat → Int32 → Int32 → Int32 → Int32 → St → Prop
  | 0, _, _, _, _, _ => False
  | n + 1, x1, x4, x5, x6, σ => (((gv σ 11 23) ≤ x6 → ∀ x5_2 : Int32, x5_2 = x5 + 1 → K37 x1 x4 x5_2 σ) ∧ (¬ ((gv σ 11 23) ≤ x6) → wX12_breaks x6 x5 x1 σ (fun (r3 : Int32) (σ4 : St) => ((r3 = 0 → wX12_broken_90 Q K37 (fun x1' x4' x5' x6' σ' => wX12_broken_49 Q K37 n x1' x4' x5' x6' σ') x1 x4 x5 x6 σ4) ∧ (¬ (r3 = 0) → ((x4 = 0 → Q (((100 : Int32) * x5) + x6) σ4) ∧ (¬ (x4 = 0) → ∀ x4_7 : Int32, x4_7 = x4 + (-1) → wX12_broken_90 Q K37 (fun x1' x4' x5' x6' σ' => wX12_broken_49 Q K37 n x1' x4' x5' x6' σ') x1 x4_7 x5 x6 σ4)))))))
def wX12_broken_37 (Q : Int32 → St → Prop) : Nat → Int32 → Int32 → Int32 → St → Prop
  | 0, _, _, _, _ => False
  | n + 1, x1, x4, x5, σ => (((gv σ 11 43) ≤ x5 → Q (-1 : Int32) σ) ∧ (¬ ((gv σ 11 43) ≤ x5) → ∃ j : Nat, wX12_broken_49 Q (fun x1' x4' x5' σ' => wX12_broken_37 Q n x1' x4' x5' σ') j x1 x4 x5 (0 : Int32) σ))
def wX12_broken (x1 : Int32) (x2 : Int32) (x3 : Int32) (σ : St) (Q : Int32 → St → Prop) : Prop := ((x1 < 0 → Q (-1 : Int32) σ) ∧ (¬ (x1 < 0) → (((240 : Int32) ≤ x1 → Q (-1 : Int32) σ) ∧ (¬ ((240 : Int32) ≤ x1) → wX12_isKnown x2 σ (fun (r3 : Int32) (σ4 : St) => ((r3 = 0 → Q (-1 : Int32) σ4) ∧ (¬ (r3 = 0) → ((0 ≤ x3 → wX12_works x2 (-1 : Int32) σ4 (fun (σ8 : St) => ∃ j : Nat, wX12_broken_37 Q j x1 x3 (0 : Int32) σ8)) ∧ (¬ (0 ≤ x3) → Q (-1 : Int32) σ4)))))))))
set_option maxHeartbeats 4000000 in
set_option maxRecDepth 100000 in
theorem tX12_broken_90 {p : Program} {l : Launch} {e : Env} {s : State} {m : MethodId} {args : Array Value} {below : List Frame} {meth : Method} {c : Code} {E : EE} {base : Nat} (C : Cx p E base s m args meth c cX12_broken 7 RX12) (hr : meth.sig.returnType = (some .int)) {Q : Int32 → St → Prop} {K37 : Int32 → Int32 → Int32 → St → Prop} (hK37 : ∀ (x1 : Int32) (x4 : Int32) (x5 : Int32) (σ : St) (H : Heap) (locs : List Loc) (ls : Array Slot), lv_has ls 7 [(0, .ref (ga E 11)), (1, .int x1), (4, .int x4), (5, .int x5)] → GW E base s σ H locs → K37 x1 x4 x5 σ → W p l e rmX12_broken s m args below meth c H locs 0 0 (MQ below (QI E base Q) args s 0 0 (fun q => base ≤ q)) (F0 m 37 ls [])) {K49 : Int32 → Int32 → Int32 → Int32 → St → Prop} (hK49 : ∀ (x1 : Int32) (x4 : Int32) (x5 : Int32) (x6 : Int32) (σ : St) (H : Heap) (locs : List Loc) (ls : Array Slot), lv_has ls 7 [(0, .ref (ga E 11)), (1, .int x1), (4, .int x4), (5, .int x5), (6, .int x6)] → GW E base s σ H locs → K49 x1 x4 x5 x6 σ → W p l e rmX12_broken s m args below meth c H locs 0 0 (MQ below (QI E base Q) args s 0 0 (fun q => base ≤ q)) (F0 m 49 ls [])) : ∀ (x1 : Int32) (x4 : Int32) (x5 : Int32) (x6 : Int32) (σ : St) (H : Heap) (locs : List Loc) (ls : Array Slot), lv_has ls 7 [(0, .ref (ga E 11)), (1, .int x1), (4, .int x4), (5, .int x5), (6, .int x6)] → GW E base s σ H locs → wX12_broken_90 Q K37 K49 x1 x4 x5 x6 σ → W p l e rmX12_broken s m args below meth c H locs 0 0 (MQ below (QI E base Q) args s 0 0 (fun q => base ≤ q)) (F0 m 90 ls []) := by
  intro x1 x4 x5 x6 σ H locs ls hl g h
  obtain ⟨x6_1, ex6_1⟩ : ∃ y : Int32, y = x6 + 1 := ⟨_, rfl⟩
  have h := h x6_1 ex6_1
  refine lv_iinc (v := x6_1) (lv' := [(6, .int x6_1), (0, .ref (ga E 11)), (1, .int x1), (4, .int x4), (5, .int x5)]) C.1 C.2.1 dX12_broken_90 hl (k := 4) rfl (by rw [ex6_1]; rfl) (by decide) rfl (fun ls hl => ?_)
  refine lv_goto (tgt := 49) C.1 C.2.1 dX12_broken_93 (by decide) ?_
  exact hK49 x1 x4 x5 x6_1 _ _ _ _ (lv_sub hl [1, 2, 3, 4, 0] rfl) g h
set_option maxHeartbeats 4000000 in
set_option maxRecDepth 100000 in
theorem tX12_broken_49 {p : Program} {l : Launch} {e : Env} {s : State} {m : MethodId} {args : Array Value} {below : List Frame} {meth : Method} {c : Code} {E : EE} {base : Nat} (C : Cx p E base s m args meth c cX12_broken 7 RX12) (hr : meth.sig.returnType = (some .int)) {Q : Int32 → St → Prop} {K37 : Int32 → Int32 → Int32 → St → Prop} (hK37 : ∀ (x1 : Int32) (x4 : Int32) (x5 : Int32) (σ : St) (H : Heap) (locs : List Loc) (ls : Array Slot), lv_has ls 7 [(0, .ref (ga E 11)), (1, .int x1), (4, .int x4), (5, .int x5)] → GW E base s σ H locs → K37 x1 x4 x5 σ → W p l e rmX12_broken s m args below meth c H locs 0 0 (MQ below (QI E base Q) args s 0 0 (fun q => base ≤ q)) (F0 m 37 ls [])) : ∀ (n : Nat) (x1 : Int32) (x4 : Int32) (x5 : Int32) (x6 : Int32) (σ : St) (H : Heap) (locs : List Loc) (ls : Array Slot), lv_has ls 7 [(0, .ref (ga E 11)), (1, .int x1), (4, .int x4), (5, .int x5), (6, .int x6)] → GW E base s σ H locs → wX12_broken_49 Q K37 n x1 x4 x5 x6 σ → W p l e rmX12_broken s m args below meth c H locs 0 0 (MQ below (QI E base Q) args s 0 0 (fun q => base ≤ q)) (F0 m 49 ls []) := by
  intro n
  induction n with
  | zero => intro _ _ _ _; intros; exact False.elim (by assumption)
  | succ n ih =>
    intro x1 x4 x5 x6 σ H locs ls hl g h
    refine lv_iload C.1 C.2.1 dX12_broken_49 (lv_at hl 4 rfl) ?_
    refine lv_aload_n C.1 C.2.1 dX12_broken_51 rfl (lv_at hl 0 rfl) ?_
    refine gx_getI C g fl_X12_263 dX12_broken_52 sh_11 rfl ?_
    refine lv_icmp_ge (tgt := 96) C.1 C.2.1 dX12_broken_55 (by decide) (fun c1 => ?_) (fun c1 => ?_)
    · have h := h.1 c1
      obtain ⟨x5_2, ex5_2⟩ : ∃ y : Int32, y = x5 + 1 := ⟨_, rfl⟩
      have h := h x5_2 ex5_2
      refine lv_iinc (v := x5_2) (lv' := [(5, .int x5_2), (0, .ref (ga E 11)), (1, .int x1), (4, .int x4), (6, .int x6)]) C.1 C.2.1 dX12_broken_96 hl (k := 3) rfl (by rw [ex5_2]; rfl) (by decide) rfl (fun ls hl => ?_)
      refine lv_goto (tgt := 37) C.1 C.2.1 dX12_broken_99 (by decide) ?_
      exact hK37 x1 x4 x5_2 _ _ _ _ (lv_sub hl [1, 2, 3, 0] rfl) g h
    · have h := h.2 c1
      refine lv_aload_n C.1 C.2.1 dX12_broken_58 rfl (lv_at hl 0 rfl) ?_
      refine lv_iload C.1 C.2.1 dX12_broken_59 (lv_at hl 4 rfl) ?_
      refine lv_iload C.1 C.2.1 dX12_broken_61 (lv_at hl 3 rfl) ?_
      refine lv_iload_n C.1 C.2.1 dX12_broken_63 rfl (lv_at hl 1 rfl) ?_
      refine gx_calli0 g (gx_runV (k := 11) (rest := []) C g mb_X12_breaks ml_X12_367 rfl sh_11 (mX12_breaks x6 x5 x1 _ _ h) ⟨Nat.le_of_ble_eq_true rfl, Nat.le_of_ble_eq_true rfl⟩ ⟨Nat.le_refl _, Nat.le_refl _⟩ rfl hl.1 rfl (Nat.le_of_ble_eq_true rfl) dX12_broken_64) rfl rfl (fun r3 σ4 H locs h g => ?_)
      refine lv_if_ne (tgt := 73) C.1 C.2.1 dX12_broken_67 (by decide) (fun c5 => ?_) (fun c5 => ?_)
      · have h := h.2 c5
        refine lv_iload C.1 C.2.1 dX12_broken_73 (lv_at hl 2 rfl) ?_
        refine lv_if_ne (tgt := 87) C.1 C.2.1 dX12_broken_75 (by decide) (fun c6 => ?_) (fun c6 => ?_)
        · have h := h.2 c6
          obtain ⟨x4_7, ex4_7⟩ : ∃ y : Int32, y = x4 + (-1) := ⟨_, rfl⟩
          have h := h x4_7 ex4_7
          refine lv_iinc (v := x4_7) (lv' := [(4, .int x4_7), (0, .ref (ga E 11)), (1, .int x1), (5, .int x5), (6, .int x6)]) C.1 C.2.1 dX12_broken_87 hl (k := 2) rfl (by rw [ex4_7]; rfl) (by decide) rfl (fun ls hl => ?_)
          exact tX12_broken_90 C hr hK37 ih x1 x4_7 x5 x6 _ _ _ _ (lv_sub hl [1, 2, 0, 3, 4] rfl) g h
        · have h := h.1 c6
          refine lv_bipush (v := 100) C.1 C.2.1 dX12_broken_78 (by decide) ?_
          refine lv_iload C.1 C.2.1 dX12_broken_80 (lv_at hl 3 rfl) ?_
          refine lv_imul C.1 C.2.1 dX12_broken_82 ?_
          refine lv_iload C.1 C.2.1 dX12_broken_83 (lv_at hl 4 rfl) ?_
          refine lv_iadd C.1 C.2.1 dX12_broken_85 ?_
          exact gx_iret C hr g dX12_broken_86 h
      · have h := h.1 c5
        refine lv_goto (tgt := 90) C.1 C.2.1 dX12_broken_70 (by decide) ?_
        exact tX12_broken_90 C hr hK37 ih x1 x4 x5 x6 _ _ _ _ (lv_sub hl [0, 1, 2, 3, 4] rfl) g h
set_option maxHeartbeats 4000000 in
set_option maxRecDepth 100000 in
theorem tX12_broken_37 {p : Program} {l : Launch} {e : Env} {s : State} {m : MethodId} {args : Array Value} {below : List Frame} {meth : Method} {c : Code} {E : EE} {base : Nat} (C : Cx p E base s m args meth c cX12_broken 7 RX12) (hr : meth.sig.returnType = (some .int)) {Q : Int32 → St → Prop} : ∀ (n : Nat) (x1 : Int32) (x4 : Int32) (x5 : Int32) (σ : St) (H : Heap) (locs : List Loc) (ls : Array Slot), lv_has ls 7 [(0, .ref (ga E 11)), (1, .int x1), (4, .int x4), (5, .int x5)] → GW E base s σ H locs → wX12_broken_37 Q n x1 x4 x5 σ → W p l e rmX12_broken s m args below meth c H locs 0 0 (MQ below (QI E base Q) args s 0 0 (fun q => base ≤ q)) (F0 m 37 ls []) := by
  intro n
  induction n with
  | zero => intro _ _ _; intros; exact False.elim (by assumption)
  | succ n ih =>
    intro x1 x4 x5 σ H locs ls hl g h
    refine lv_iload C.1 C.2.1 dX12_broken_37 (lv_at hl 3 rfl) ?_
    refine lv_aload_n C.1 C.2.1 dX12_broken_39 rfl (lv_at hl 0 rfl) ?_
    refine gx_getI C g fl_X12_307 dX12_broken_40 sh_11 rfl ?_
    refine lv_icmp_ge (tgt := 102) C.1 C.2.1 dX12_broken_43 (by decide) (fun c1 => ?_) (fun c1 => ?_)
    · have h := h.1 c1
      refine lv_iconst (v := -1) C.1 C.2.1 dX12_broken_102 (by decide) ?_
      exact gx_iret C hr g dX12_broken_103 h
    · have h := h.2 c1
      refine lv_iconst (v := 0) C.1 C.2.1 dX12_broken_46 (by decide) ?_
      refine lv_istore (lv' := [(6, .int (0 : Int32)), (0, .ref (ga E 11)), (1, .int x1), (4, .int x4), (5, .int x5)]) C.1 C.2.1 dX12_broken_47 hl (by decide) rfl (fun ls hl => ?_)
      obtain ⟨j, h⟩ := h
      exact tX12_broken_49 C hr ih j x1 x4 x5 (0 : Int32) _ _ _ _ (lv_sub hl [1, 2, 3, 4, 0] rfl) g h
set_option maxHeartbeats 4000000 in
set_option maxRecDepth 100000 in
theorem tX12_broken_e {p : Program} {l : Launch} {e : Env} {s : State} {m : MethodId} {args : Array Value} {below : List Frame} {meth : Method} {c : Code} {E : EE} {base : Nat} (C : Cx p E base s m args meth c cX12_broken 7 RX12) (hr : meth.sig.returnType = (some .int)) {Q : Int32 → St → Prop} : ∀ (x1 : Int32) (x2 : Int32) (x3 : Int32) (σ : St) (H : Heap) (locs : List Loc) (ls : Array Slot), lv_has ls 7 [(0, .ref (ga E 11)), (1, .int x1), (2, .int x2), (3, .int x3)] → GW E base s σ H locs → wX12_broken x1 x2 x3 σ Q → W p l e rmX12_broken s m args below meth c H locs 0 0 (MQ below (QI E base Q) args s 0 0 (fun q => base ≤ q)) (F0 m 0 ls []) := by
  intro x1 x2 x3 σ H locs ls hl g h
  refine lv_iload_n C.1 C.2.1 dX12_broken_0 rfl (lv_at hl 1 rfl) ?_
  refine lv_if_lt (tgt := 23) C.1 C.2.1 dX12_broken_1 (by decide) (fun c1 => ?_) (fun c1 => ?_)
  · have h := h.1 c1
    refine lv_iconst (v := -1) C.1 C.2.1 dX12_broken_23 (by decide) ?_
    exact gx_iret C hr g dX12_broken_24 h
  · have h := h.2 c1
    refine lv_iload_n C.1 C.2.1 dX12_broken_4 rfl (lv_at hl 1 rfl) ?_
    refine lv_sipush (v := 240) C.1 C.2.1 dX12_broken_5 (by decide) ?_
    refine lv_icmp_ge (tgt := 23) C.1 C.2.1 dX12_broken_8 (by decide) (fun c2 => ?_) (fun c2 => ?_)
    · have h := h.1 c2
      refine lv_iconst (v := -1) C.1 C.2.1 dX12_broken_23 (by decide) ?_
      exact gx_iret C hr g dX12_broken_24 h
    · have h := h.2 c2
      refine lv_aload_n C.1 C.2.1 dX12_broken_11 rfl (lv_at hl 0 rfl) ?_
      refine lv_iload_n C.1 C.2.1 dX12_broken_12 rfl (lv_at hl 2 rfl) ?_
      refine gx_calli0 g (gx_runV (k := 11) (rest := []) C g mb_X12_isKnown ml_X12_357 rfl sh_11 (mX12_isKnown x2 _ _ h) ⟨Nat.le_of_ble_eq_true rfl, Nat.le_of_ble_eq_true rfl⟩ ⟨Nat.le_refl _, Nat.le_refl _⟩ rfl hl.1 rfl (Nat.le_of_ble_eq_true rfl) dX12_broken_13) rfl rfl (fun r3 σ4 H locs h g => ?_)
      refine lv_if_eq (tgt := 23) C.1 C.2.1 dX12_broken_16 (by decide) (fun c5 => ?_) (fun c5 => ?_)
      · have h := h.1 c5
        refine lv_iconst (v := -1) C.1 C.2.1 dX12_broken_23 (by decide) ?_
        exact gx_iret C hr g dX12_broken_24 h
      · have h := h.2 c5
        refine lv_iload_n C.1 C.2.1 dX12_broken_19 rfl (lv_at hl 3 rfl) ?_
        refine lv_if_ge (tgt := 25) C.1 C.2.1 dX12_broken_20 (by decide) (fun c6 => ?_) (fun c6 => ?_)
        · have h := h.1 c6
          refine lv_aload_n C.1 C.2.1 dX12_broken_25 rfl (lv_at hl 0 rfl) ?_
          refine lv_iload_n C.1 C.2.1 dX12_broken_26 rfl (lv_at hl 2 rfl) ?_
          refine lv_iconst (v := -1) C.1 C.2.1 dX12_broken_27 (by decide) ?_
          refine gx_callv0 g (gx_runV (k := 11) (rest := []) C g mb_X12_works ml_X12_361 rfl sh_11 (mX12_works x2 (-1 : Int32) _ _ h) ⟨Nat.le_of_ble_eq_true rfl, Nat.le_of_ble_eq_true rfl⟩ ⟨Nat.le_refl _, Nat.le_refl _⟩ rfl hl.1 rfl (Nat.le_of_ble_eq_true rfl) dX12_broken_28) rfl rfl (fun σ8 H locs h g => ?_)
          refine lv_iload_n C.1 C.2.1 dX12_broken_31 rfl (lv_at hl 3 rfl) ?_
          refine lv_istore (lv' := [(4, .int x3), (0, .ref (ga E 11)), (1, .int x1), (2, .int x2), (3, .int x3)]) C.1 C.2.1 dX12_broken_32 hl (by decide) rfl (fun ls hl => ?_)
          refine lv_iconst (v := 0) C.1 C.2.1 dX12_broken_34 (by decide) ?_
          refine lv_istore (lv' := [(5, .int (0 : Int32)), (4, .int x3), (0, .ref (ga E 11)), (1, .int x1), (2, .int x2), (3, .int x3)]) C.1 C.2.1 dX12_broken_35 hl (by decide) rfl (fun ls hl => ?_)
          obtain ⟨j, h⟩ := h
          exact tX12_broken_37 C hr j x1 x3 (0 : Int32) _ _ _ _ (lv_sub hl [2, 3, 1, 0] rfl) g h
        · have h := h.2 c6
          refine lv_iconst (v := -1) C.1 C.2.1 dX12_broken_23 (by decide) ?_
          exact gx_iret C hr g dX12_broken_24 h
theorem mX12_broken {l : Launch} {E : EE} {base : Nat} (x1 : Int32) (x2 : Int32) (x3 : Int32) (σ : St) (Q : Int32 → St → Prop) (h : wX12_broken x1 x2 x3 σ Q) : Met l yX12_broken (wy yX12_broken cX12_broken 7 (some .int)) rmX12_broken (va_Pc [.ref (ga E 11), .int x1, .int x2, .int x3] (fun U => SW E base σ U)) (QI E base Q) (rmX12_broken).cells (rmX12_broken).slots (fun q => base ≤ q) :=
  met_of (by decide) (Nat.le_of_ble_eq_true rfl) (fun p e s m args below meth c C hr g ls hl => tX12_broken_e C hr x1 x2 x3 _ _ _ _ hl g h)
abbrev rmX12_first : Room := { frames := 6, cells := 0, slots := 0, locals := 164 }
def wX12_first_54 (Q : Int32 → St → Prop) (K33 : Int32 → Int32 → St → Prop) (K42 : Int32 → Int32 → Int32 → St → Prop) : Nat → Int32 → Int32 → Int32 → Int32 → St → Prop
  | 0, _, _, _, _, _ => False
  | n + 1, x2, x4, x5, x6, σ => (((gv σ 11 23) ≤ x6 → ∀ x5_2 : Int32, x5_2 = x5 + 1 → K42 x2 x4 x5_2 σ) ∧ (¬ ((gv σ 11 23) ≤ x6) → wX12_breaks x6 x5 x4 σ (fun (r3 : Int32) (σ4 : St) => ((r3 = 0 → ∀ x6_6 : Int32, x6_6 = x6 + 1 → wX12_first_54 Q K33 K42 n x2 x4 x5 x6_6 σ4) ∧ (¬ (r3 = 0) → Q x4 σ4)))))
def wX12_first_42 (Q : Int32 → St → Prop) (K33 : Int32 → Int32 → St → Prop) : Nat → Int32 → Int32 → Int32 → St → Prop
  | 0, _, _, _, _ => False
  | n + 1, x2, x4, x5, σ => (((gv σ 11 43) ≤ x5 → ∀ x4_2 : Int32, x4_2 = x4 + 1 → K33 x2 x4_2 σ) ∧ (¬ ((gv σ 11 43) ≤ x5) → ∃ j : Nat, wX12_first_54 Q K33 (fun x2' x4' x5' σ' => wX12_first_42 Q K33 n x2' x4' x5' σ') j x2 x4 x5 (0 : Int32) σ))
def wX12_first_33 (Q : Int32 → St → Prop) : Nat → Int32 → Int32 → St → Prop
  | 0, _, _, _ => False
  | n + 1, x2, x4, σ => ((x2 ≤ x4 → Q (-1 : Int32) σ) ∧ (¬ (x2 ≤ x4) → ∃ j : Nat, wX12_first_42 Q (fun x2' x4' σ' => wX12_first_33 Q n x2' x4' σ') j x2 x4 (0 : Int32) σ))
def wX12_first (x1 : Int32) (x2 : Int32) (x3 : Int32) (σ : St) (Q : Int32 → St → Prop) : Prop := wX12_isEnd x1 σ (fun (r1 : Int32) (σ2 : St) => ((r1 = 0 → Q (-1 : Int32) σ2) ∧ (¬ (r1 = 0) → wX12_isEnd x2 σ2 (fun (r4 : Int32) (σ5 : St) => ((r4 = 0 → Q (-1 : Int32) σ5) ∧ (¬ (r4 = 0) → wX12_isKnown x3 σ5 (fun (r7 : Int32) (σ8 : St) => ((r7 = 0 → Q (-1 : Int32) σ8) ∧ (¬ (r7 = 0) → wX12_works x3 (-1 : Int32) σ8 (fun (σ11 : St) => ∃ j : Nat, wX12_first_33 Q j x2 x1 σ11))))))))))
set_option maxHeartbeats 4000000 in
set_option maxRecDepth 100000 in
theorem tX12_first_54 {p : Program} {l : Launch} {e : Env} {s : State} {m : MethodId} {args : Array Value} {below : List Frame} {meth : Method} {c : Code} {E : EE} {base : Nat} (C : Cx p E base s m args meth c cX12_first 7 RX12) (hr : meth.sig.returnType = (some .int)) {Q : Int32 → St → Prop} {K33 : Int32 → Int32 → St → Prop} (hK33 : ∀ (x2 : Int32) (x4 : Int32) (σ : St) (H : Heap) (locs : List Loc) (ls : Array Slot), lv_has ls 7 [(0, .ref (ga E 11)), (2, .int x2), (4, .int x4)] → GW E base s σ H locs → K33 x2 x4 σ → W p l e rmX12_first s m args below meth c H locs 0 0 (MQ below (QI E base Q) args s 0 0 (fun q => base ≤ q)) (F0 m 33 ls [])) {K42 : Int32 → Int32 → Int32 → St → Prop} (hK42 : ∀ (x2 : Int32) (x4 : Int32) (x5 : Int32) (σ : St) (H : Heap) (locs : List Loc) (ls : Array Slot), lv_has ls 7 [(0, .ref (ga E 11)), (2, .int x2), (4, .int x4), (5, .int x5)] → GW E base s σ H locs → K42 x2 x4 x5 σ → W p l e rmX12_first s m args below meth c H locs 0 0 (MQ below (QI E base Q) args s 0 0 (fun q => base ≤ q)) (F0 m 42 ls [])) : ∀ (n : Nat) (x2 : Int32) (x4 : Int32) (x5 : Int32) (x6 : Int32) (σ : St) (H : Heap) (locs : List Loc) (ls : Array Slot), lv_has ls 7 [(0, .ref (ga E 11)), (2, .int x2), (4, .int x4), (5, .int x5), (6, .int x6)] → GW E base s σ H locs → wX12_first_54 Q K33 K42 n x2 x4 x5 x6 σ → W p l e rmX12_first s m args below meth c H locs 0 0 (MQ below (QI E base Q) args s 0 0 (fun q => base ≤ q)) (F0 m 54 ls []) := by
  intro n
  induction n with
  | zero => intro _ _ _ _; intros; exact False.elim (by assumption)
  | succ n ih =>
    intro x2 x4 x5 x6 σ H locs ls hl g h
    refine lv_iload C.1 C.2.1 dX12_first_54 (lv_at hl 4 rfl) ?_
    refine lv_aload_n C.1 C.2.1 dX12_first_56 rfl (lv_at hl 0 rfl) ?_
    refine gx_getI C g fl_X12_263 dX12_first_57 sh_11 rfl ?_
    refine lv_icmp_ge (tgt := 85) C.1 C.2.1 dX12_first_60 (by decide) (fun c1 => ?_) (fun c1 => ?_)
    · have h := h.1 c1
      obtain ⟨x5_2, ex5_2⟩ : ∃ y : Int32, y = x5 + 1 := ⟨_, rfl⟩
      have h := h x5_2 ex5_2
      refine lv_iinc (v := x5_2) (lv' := [(5, .int x5_2), (0, .ref (ga E 11)), (2, .int x2), (4, .int x4), (6, .int x6)]) C.1 C.2.1 dX12_first_85 hl (k := 3) rfl (by rw [ex5_2]; rfl) (by decide) rfl (fun ls hl => ?_)
      refine lv_goto (tgt := 42) C.1 C.2.1 dX12_first_88 (by decide) ?_
      exact hK42 x2 x4 x5_2 _ _ _ _ (lv_sub hl [1, 2, 3, 0] rfl) g h
    · have h := h.2 c1
      refine lv_aload_n C.1 C.2.1 dX12_first_63 rfl (lv_at hl 0 rfl) ?_
      refine lv_iload C.1 C.2.1 dX12_first_64 (lv_at hl 4 rfl) ?_
      refine lv_iload C.1 C.2.1 dX12_first_66 (lv_at hl 3 rfl) ?_
      refine lv_iload C.1 C.2.1 dX12_first_68 (lv_at hl 2 rfl) ?_
      refine gx_calli0 g (gx_runV (k := 11) (rest := []) C g mb_X12_breaks ml_X12_367 rfl sh_11 (mX12_breaks x6 x5 x4 _ _ h) ⟨Nat.le_of_ble_eq_true rfl, Nat.le_of_ble_eq_true rfl⟩ ⟨Nat.le_refl _, Nat.le_refl _⟩ rfl hl.1 rfl (Nat.le_of_ble_eq_true rfl) dX12_first_70) rfl rfl (fun r3 σ4 H locs h g => ?_)
      refine lv_if_eq (tgt := 79) C.1 C.2.1 dX12_first_73 (by decide) (fun c5 => ?_) (fun c5 => ?_)
      · have h := h.1 c5
        obtain ⟨x6_6, ex6_6⟩ : ∃ y : Int32, y = x6 + 1 := ⟨_, rfl⟩
        have h := h x6_6 ex6_6
        refine lv_iinc (v := x6_6) (lv' := [(6, .int x6_6), (0, .ref (ga E 11)), (2, .int x2), (4, .int x4), (5, .int x5)]) C.1 C.2.1 dX12_first_79 hl (k := 4) rfl (by rw [ex6_6]; rfl) (by decide) rfl (fun ls hl => ?_)
        refine lv_goto (tgt := 54) C.1 C.2.1 dX12_first_82 (by decide) ?_
        exact ih x2 x4 x5 x6_6 _ _ _ _ (lv_sub hl [1, 2, 3, 4, 0] rfl) g h
      · have h := h.2 c5
        refine lv_iload C.1 C.2.1 dX12_first_76 (lv_at hl 2 rfl) ?_
        exact gx_iret C hr g dX12_first_78 h
set_option maxHeartbeats 4000000 in
set_option maxRecDepth 100000 in
theorem tX12_first_42 {p : Program} {l : Launch} {e : Env} {s : State} {m : MethodId} {args : Array Value} {below : List Frame} {meth : Method} {c : Code} {E : EE} {base : Nat} (C : Cx p E base s m args meth c cX12_first 7 RX12) (hr : meth.sig.returnType = (some .int)) {Q : Int32 → St → Prop} {K33 : Int32 → Int32 → St → Prop} (hK33 : ∀ (x2 : Int32) (x4 : Int32) (σ : St) (H : Heap) (locs : List Loc) (ls : Array Slot), lv_has ls 7 [(0, .ref (ga E 11)), (2, .int x2), (4, .int x4)] → GW E base s σ H locs → K33 x2 x4 σ → W p l e rmX12_first s m args below meth c H locs 0 0 (MQ below (QI E base Q) args s 0 0 (fun q => base ≤ q)) (F0 m 33 ls [])) : ∀ (n : Nat) (x2 : Int32) (x4 : Int32) (x5 : Int32) (σ : St) (H : Heap) (locs : List Loc) (ls : Array Slot), lv_has ls 7 [(0, .ref (ga E 11)), (2, .int x2), (4, .int x4), (5, .int x5)] → GW E base s σ H locs → wX12_first_42 Q K33 n x2 x4 x5 σ → W p l e rmX12_first s m args below meth c H locs 0 0 (MQ below (QI E base Q) args s 0 0 (fun q => base ≤ q)) (F0 m 42 ls []) := by
  intro n
  induction n with
  | zero => intro _ _ _; intros; exact False.elim (by assumption)
  | succ n ih =>
    intro x2 x4 x5 σ H locs ls hl g h
    refine lv_iload C.1 C.2.1 dX12_first_42 (lv_at hl 3 rfl) ?_
    refine lv_aload_n C.1 C.2.1 dX12_first_44 rfl (lv_at hl 0 rfl) ?_
    refine gx_getI C g fl_X12_307 dX12_first_45 sh_11 rfl ?_
    refine lv_icmp_ge (tgt := 91) C.1 C.2.1 dX12_first_48 (by decide) (fun c1 => ?_) (fun c1 => ?_)
    · have h := h.1 c1
      obtain ⟨x4_2, ex4_2⟩ : ∃ y : Int32, y = x4 + 1 := ⟨_, rfl⟩
      have h := h x4_2 ex4_2
      refine lv_iinc (v := x4_2) (lv' := [(4, .int x4_2), (0, .ref (ga E 11)), (2, .int x2), (5, .int x5)]) C.1 C.2.1 dX12_first_91 hl (k := 2) rfl (by rw [ex4_2]; rfl) (by decide) rfl (fun ls hl => ?_)
      refine lv_goto (tgt := 33) C.1 C.2.1 dX12_first_94 (by decide) ?_
      exact hK33 x2 x4_2 _ _ _ _ (lv_sub hl [1, 2, 0] rfl) g h
    · have h := h.2 c1
      refine lv_iconst (v := 0) C.1 C.2.1 dX12_first_51 (by decide) ?_
      refine lv_istore (lv' := [(6, .int (0 : Int32)), (0, .ref (ga E 11)), (2, .int x2), (4, .int x4), (5, .int x5)]) C.1 C.2.1 dX12_first_52 hl (by decide) rfl (fun ls hl => ?_)
      obtain ⟨j, h⟩ := h
      exact tX12_first_54 C hr hK33 ih j x2 x4 x5 (0 : Int32) _ _ _ _ (lv_sub hl [1, 2, 3, 4, 0] rfl) g h
set_option maxHeartbeats 4000000 in
set_option maxRecDepth 100000 in
theorem tX12_first_33 {p : Program} {l : Launch} {e : Env} {s : State} {m : MethodId} {args : Array Value} {below : List Frame} {meth : Method} {c : Code} {E : EE} {base : Nat} (C : Cx p E base s m args meth c cX12_first 7 RX12) (hr : meth.sig.returnType = (some .int)) {Q : Int32 → St → Prop} : ∀ (n : Nat) (x2 : Int32) (x4 : Int32) (σ : St) (H : Heap) (locs : List Loc) (ls : Array Slot), lv_has ls 7 [(0, .ref (ga E 11)), (2, .int x2), (4, .int x4)] → GW E base s σ H locs → wX12_first_33 Q n x2 x4 σ → W p l e rmX12_first s m args below meth c H locs 0 0 (MQ below (QI E base Q) args s 0 0 (fun q => base ≤ q)) (F0 m 33 ls []) := by
  intro n
  induction n with
  | zero => intro _ _; intros; exact False.elim (by assumption)
  | succ n ih =>
    intro x2 x4 σ H locs ls hl g h
    refine lv_iload C.1 C.2.1 dX12_first_33 (lv_at hl 2 rfl) ?_
    refine lv_iload_n C.1 C.2.1 dX12_first_35 rfl (lv_at hl 1 rfl) ?_
    refine lv_icmp_ge (tgt := 97) C.1 C.2.1 dX12_first_36 (by decide) (fun c1 => ?_) (fun c1 => ?_)
    · have h := h.1 c1
      refine lv_iconst (v := -1) C.1 C.2.1 dX12_first_97 (by decide) ?_
      exact gx_iret C hr g dX12_first_98 h
    · have h := h.2 c1
      refine lv_iconst (v := 0) C.1 C.2.1 dX12_first_39 (by decide) ?_
      refine lv_istore (lv' := [(5, .int (0 : Int32)), (0, .ref (ga E 11)), (2, .int x2), (4, .int x4)]) C.1 C.2.1 dX12_first_40 hl (by decide) rfl (fun ls hl => ?_)
      obtain ⟨j, h⟩ := h
      exact tX12_first_42 C hr ih j x2 x4 (0 : Int32) _ _ _ _ (lv_sub hl [1, 2, 3, 0] rfl) g h
set_option maxHeartbeats 4000000 in
set_option maxRecDepth 100000 in
theorem tX12_first_e {p : Program} {l : Launch} {e : Env} {s : State} {m : MethodId} {args : Array Value} {below : List Frame} {meth : Method} {c : Code} {E : EE} {base : Nat} (C : Cx p E base s m args meth c cX12_first 7 RX12) (hr : meth.sig.returnType = (some .int)) {Q : Int32 → St → Prop} : ∀ (x1 : Int32) (x2 : Int32) (x3 : Int32) (σ : St) (H : Heap) (locs : List Loc) (ls : Array Slot), lv_has ls 7 [(0, .ref (ga E 11)), (1, .int x1), (2, .int x2), (3, .int x3)] → GW E base s σ H locs → wX12_first x1 x2 x3 σ Q → W p l e rmX12_first s m args below meth c H locs 0 0 (MQ below (QI E base Q) args s 0 0 (fun q => base ≤ q)) (F0 m 0 ls []) := by
  intro x1 x2 x3 σ H locs ls hl g h
  refine lv_iload_n C.1 C.2.1 dX12_first_0 rfl (lv_at hl 1 rfl) ?_
  refine gx_calli0 g (gx_runS (rest := []) C g ms_X12_isEnd ml_X12_364 (mX12_isEnd x1 _ _ h) ⟨Nat.le_of_ble_eq_true rfl, Nat.le_of_ble_eq_true rfl⟩ ⟨Nat.le_refl _, Nat.le_refl _⟩ rfl hl.1 rfl (Nat.le_of_ble_eq_true rfl) dX12_first_1) rfl rfl (fun r1 σ2 H locs h g => ?_)
  refine lv_if_eq (tgt := 22) C.1 C.2.1 dX12_first_4 (by decide) (fun c3 => ?_) (fun c3 => ?_)
  · have h := h.1 c3
    refine lv_iconst (v := -1) C.1 C.2.1 dX12_first_22 (by decide) ?_
    exact gx_iret C hr g dX12_first_23 h
  · have h := h.2 c3
    refine lv_iload_n C.1 C.2.1 dX12_first_7 rfl (lv_at hl 2 rfl) ?_
    refine gx_calli0 g (gx_runS (rest := []) C g ms_X12_isEnd ml_X12_364 (mX12_isEnd x2 _ _ h) ⟨Nat.le_of_ble_eq_true rfl, Nat.le_of_ble_eq_true rfl⟩ ⟨Nat.le_refl _, Nat.le_refl _⟩ rfl hl.1 rfl (Nat.le_of_ble_eq_true rfl) dX12_first_8) rfl rfl (fun r4 σ5 H locs h g => ?_)
    refine lv_if_eq (tgt := 22) C.1 C.2.1 dX12_first_11 (by decide) (fun c6 => ?_) (fun c6 => ?_)
    · have h := h.1 c6
      refine lv_iconst (v := -1) C.1 C.2.1 dX12_first_22 (by decide) ?_
      exact gx_iret C hr g dX12_first_23 h
    · have h := h.2 c6
      refine lv_aload_n C.1 C.2.1 dX12_first_14 rfl (lv_at hl 0 rfl) ?_
      refine lv_iload_n C.1 C.2.1 dX12_first_15 rfl (lv_at hl 3 rfl) ?_
      refine gx_calli0 g (gx_runV (k := 11) (rest := []) C g mb_X12_isKnown ml_X12_357 rfl sh_11 (mX12_isKnown x3 _ _ h) ⟨Nat.le_of_ble_eq_true rfl, Nat.le_of_ble_eq_true rfl⟩ ⟨Nat.le_refl _, Nat.le_refl _⟩ rfl hl.1 rfl (Nat.le_of_ble_eq_true rfl) dX12_first_16) rfl rfl (fun r7 σ8 H locs h g => ?_)
      refine lv_if_ne (tgt := 24) C.1 C.2.1 dX12_first_19 (by decide) (fun c9 => ?_) (fun c9 => ?_)
      · have h := h.2 c9
        refine lv_aload_n C.1 C.2.1 dX12_first_24 rfl (lv_at hl 0 rfl) ?_
        refine lv_iload_n C.1 C.2.1 dX12_first_25 rfl (lv_at hl 3 rfl) ?_
        refine lv_iconst (v := -1) C.1 C.2.1 dX12_first_26 (by decide) ?_
        refine gx_callv0 g (gx_runV (k := 11) (rest := []) C g mb_X12_works ml_X12_361 rfl sh_11 (mX12_works x3 (-1 : Int32) _ _ h) ⟨Nat.le_of_ble_eq_true rfl, Nat.le_of_ble_eq_true rfl⟩ ⟨Nat.le_refl _, Nat.le_refl _⟩ rfl hl.1 rfl (Nat.le_of_ble_eq_true rfl) dX12_first_27) rfl rfl (fun σ11 H locs h g => ?_)
        refine lv_iload_n C.1 C.2.1 dX12_first_30 rfl (lv_at hl 1 rfl) ?_
        refine lv_istore (lv' := [(4, .int x1), (0, .ref (ga E 11)), (1, .int x1), (2, .int x2), (3, .int x3)]) C.1 C.2.1 dX12_first_31 hl (by decide) rfl (fun ls hl => ?_)
        obtain ⟨j, h⟩ := h
        exact tX12_first_33 C hr j x2 x1 _ _ _ _ (lv_sub hl [1, 3, 0] rfl) g h
      · have h := h.1 c9
        refine lv_iconst (v := -1) C.1 C.2.1 dX12_first_22 (by decide) ?_
        exact gx_iret C hr g dX12_first_23 h
theorem mX12_first {l : Launch} {E : EE} {base : Nat} (x1 : Int32) (x2 : Int32) (x3 : Int32) (σ : St) (Q : Int32 → St → Prop) (h : wX12_first x1 x2 x3 σ Q) : Met l yX12_first (wy yX12_first cX12_first 7 (some .int)) rmX12_first (va_Pc [.ref (ga E 11), .int x1, .int x2, .int x3] (fun U => SW E base σ U)) (QI E base Q) (rmX12_first).cells (rmX12_first).slots (fun q => base ≤ q) :=
  met_of (by decide) (Nat.le_of_ble_eq_true rfl) (fun p e s m args below meth c C hr g ls hl => tX12_first_e C hr x1 x2 x3 _ _ _ _ hl g h)
abbrev rmX12_workOf : Room := { frames := 6, cells := 0, slots := 0, locals := 164 }
def wX12_workOf_14 (Q : Int32 → St → Prop) : Nat → Int32 → Int32 → Int32 → Int32 → St → Prop
  | 0, _, _, _, _, _ => False
  | n + 1, x1, x3, x6, x7, σ => ((x3 ≤ x7 → Q x6 σ) ∧ (¬ (x3 ≤ x7) → vp_in (((10 : Int32) * (((7 : Int32) * x7) + x1)) + (6 : Int32)) 16800 ∧ ∀ x6_3 : Int32, x6_3 = x6 + (gv σ 88 (((10 : Int32) * (((7 : Int32) * x7) + x1)) + (6 : Int32)).toNatClampNeg) → ∀ x7_4 : Int32, x7_4 = x7 + 1 → wX12_workOf_14 Q n x1 x3 x6_3 x7_4 σ))
def wX12_workOf (x1 : Int32) (x2 : Int32) (x3 : Int32) (x4 : Int32) (x5 : Int32) (σ : St) (Q : Int32 → St → Prop) : Prop := wX12_works x4 x5 σ (fun (σ2 : St) => ∃ j : Nat, wX12_workOf_14 Q j x1 x3 (0 : Int32) x2 σ2)
set_option maxHeartbeats 4000000 in
set_option maxRecDepth 100000 in
theorem tX12_workOf_14 {p : Program} {l : Launch} {e : Env} {s : State} {m : MethodId} {args : Array Value} {below : List Frame} {meth : Method} {c : Code} {E : EE} {base : Nat} (C : Cx p E base s m args meth c cX12_workOf 8 RX12) (hr : meth.sig.returnType = (some .int)) {Q : Int32 → St → Prop} : ∀ (n : Nat) (x1 : Int32) (x3 : Int32) (x6 : Int32) (x7 : Int32) (σ : St) (H : Heap) (locs : List Loc) (ls : Array Slot), lv_has ls 8 [(0, .ref (ga E 11)), (1, .int x1), (3, .int x3), (6, .int x6), (7, .int x7)] → GW E base s σ H locs → wX12_workOf_14 Q n x1 x3 x6 x7 σ → W p l e rmX12_workOf s m args below meth c H locs 0 0 (MQ below (QI E base Q) args s 0 0 (fun q => base ≤ q)) (F0 m 14 ls []) := by
  intro n
  induction n with
  | zero => intro _ _ _ _; intros; exact False.elim (by assumption)
  | succ n ih =>
    intro x1 x3 x6 x7 σ H locs ls hl g h
    refine lv_iload C.1 C.2.1 dX12_workOf_14 (lv_at hl 4 rfl) ?_
    refine lv_iload_n C.1 C.2.1 dX12_workOf_16 rfl (lv_at hl 2 rfl) ?_
    refine lv_icmp_ge (tgt := 49) C.1 C.2.1 dX12_workOf_17 (by decide) (fun c1 => ?_) (fun c1 => ?_)
    · have h := h.1 c1
      refine lv_iload C.1 C.2.1 dX12_workOf_49 (lv_at hl 3 rfl) ?_
      exact gx_iret C hr g dX12_workOf_51 h
    · have h := h.2 c1
      refine lv_iload C.1 C.2.1 dX12_workOf_20 (lv_at hl 3 rfl) ?_
      refine lv_aload_n C.1 C.2.1 dX12_workOf_22 rfl (lv_at hl 0 rfl) ?_
      refine gx_getR C g fl_X12_140 dX12_workOf_23 sh_11 rfl (by decide) ?_
      refine lv_bipush (v := 10) C.1 C.2.1 dX12_workOf_26 (by decide) ?_
      refine lv_bipush (v := 7) C.1 C.2.1 dX12_workOf_28 (by decide) ?_
      refine lv_iload C.1 C.2.1 dX12_workOf_30 (lv_at hl 4 rfl) ?_
      refine lv_imul C.1 C.2.1 dX12_workOf_32 ?_
      refine lv_iload_n C.1 C.2.1 dX12_workOf_33 rfl (lv_at hl 1 rfl) ?_
      refine lv_iadd C.1 C.2.1 dX12_workOf_34 ?_
      refine lv_imul C.1 C.2.1 dX12_workOf_35 ?_
      refine lv_bipush (v := 6) C.1 C.2.1 dX12_workOf_36 (by decide) ?_
      refine lv_iadd C.1 C.2.1 dX12_workOf_38 ?_
      obtain ⟨i2, h⟩ := h
      refine gx_iald C g dX12_workOf_39 sh_88 i2 ?_
      refine lv_iadd C.1 C.2.1 dX12_workOf_40 ?_
      refine lv_topi (fun x6_3 ex6_3 => ?_)
      have h := h x6_3 ex6_3
      refine lv_istore (lv' := [(6, .int x6_3), (0, .ref (ga E 11)), (1, .int x1), (3, .int x3), (7, .int x7)]) C.1 C.2.1 dX12_workOf_41 hl (by decide) rfl (fun ls hl => ?_)
      obtain ⟨x7_4, ex7_4⟩ : ∃ y : Int32, y = x7 + 1 := ⟨_, rfl⟩
      have h := h x7_4 ex7_4
      refine lv_iinc (v := x7_4) (lv' := [(7, .int x7_4), (6, .int x6_3), (0, .ref (ga E 11)), (1, .int x1), (3, .int x3)]) C.1 C.2.1 dX12_workOf_43 hl (k := 4) rfl (by rw [ex7_4]; rfl) (by decide) rfl (fun ls hl => ?_)
      refine lv_goto (tgt := 14) C.1 C.2.1 dX12_workOf_46 (by decide) ?_
      exact ih x1 x3 x6_3 x7_4 _ _ _ _ (lv_sub hl [2, 3, 4, 1, 0] rfl) g h
set_option maxHeartbeats 4000000 in
set_option maxRecDepth 100000 in
theorem tX12_workOf_e {p : Program} {l : Launch} {e : Env} {s : State} {m : MethodId} {args : Array Value} {below : List Frame} {meth : Method} {c : Code} {E : EE} {base : Nat} (C : Cx p E base s m args meth c cX12_workOf 8 RX12) (hr : meth.sig.returnType = (some .int)) {Q : Int32 → St → Prop} : ∀ (x1 : Int32) (x2 : Int32) (x3 : Int32) (x4 : Int32) (x5 : Int32) (σ : St) (H : Heap) (locs : List Loc) (ls : Array Slot), lv_has ls 8 [(0, .ref (ga E 11)), (1, .int x1), (2, .int x2), (3, .int x3), (4, .int x4), (5, .int x5)] → GW E base s σ H locs → wX12_workOf x1 x2 x3 x4 x5 σ Q → W p l e rmX12_workOf s m args below meth c H locs 0 0 (MQ below (QI E base Q) args s 0 0 (fun q => base ≤ q)) (F0 m 0 ls []) := by
  intro x1 x2 x3 x4 x5 σ H locs ls hl g h
  refine lv_aload_n C.1 C.2.1 dX12_workOf_0 rfl (lv_at hl 0 rfl) ?_
  refine lv_iload C.1 C.2.1 dX12_workOf_1 (lv_at hl 4 rfl) ?_
  refine lv_iload C.1 C.2.1 dX12_workOf_3 (lv_at hl 5 rfl) ?_
  refine gx_callv0 g (gx_runV (k := 11) (rest := []) C g mb_X12_works ml_X12_361 rfl sh_11 (mX12_works x4 x5 _ _ h) ⟨Nat.le_of_ble_eq_true rfl, Nat.le_of_ble_eq_true rfl⟩ ⟨Nat.le_refl _, Nat.le_refl _⟩ rfl hl.1 rfl (Nat.le_of_ble_eq_true rfl) dX12_workOf_5) rfl rfl (fun σ2 H locs h g => ?_)
  refine lv_iconst (v := 0) C.1 C.2.1 dX12_workOf_8 (by decide) ?_
  refine lv_istore (lv' := [(6, .int (0 : Int32)), (0, .ref (ga E 11)), (1, .int x1), (2, .int x2), (3, .int x3), (4, .int x4), (5, .int x5)]) C.1 C.2.1 dX12_workOf_9 hl (by decide) rfl (fun ls hl => ?_)
  refine lv_iload_n C.1 C.2.1 dX12_workOf_11 rfl (lv_at hl 3 rfl) ?_
  refine lv_istore (lv' := [(7, .int x2), (6, .int (0 : Int32)), (0, .ref (ga E 11)), (1, .int x1), (2, .int x2), (3, .int x3), (4, .int x4), (5, .int x5)]) C.1 C.2.1 dX12_workOf_12 hl (by decide) rfl (fun ls hl => ?_)
  obtain ⟨j, h⟩ := h
  exact tX12_workOf_14 C hr j x1 x3 (0 : Int32) x2 _ _ _ _ (lv_sub hl [2, 3, 5, 1, 0] rfl) g h
theorem mX12_workOf {l : Launch} {E : EE} {base : Nat} (x1 : Int32) (x2 : Int32) (x3 : Int32) (x4 : Int32) (x5 : Int32) (σ : St) (Q : Int32 → St → Prop) (h : wX12_workOf x1 x2 x3 x4 x5 σ Q) : Met l yX12_workOf (wy yX12_workOf cX12_workOf 8 (some .int)) rmX12_workOf (va_Pc [.ref (ga E 11), .int x1, .int x2, .int x3, .int x4, .int x5] (fun U => SW E base σ U)) (QI E base Q) (rmX12_workOf).cells (rmX12_workOf).slots (fun q => base ≤ q) :=
  met_of (by decide) (Nat.le_of_ble_eq_true rfl) (fun p e s m args below meth c C hr g ls hl => tX12_workOf_e C hr x1 x2 x3 x4 x5 _ _ _ _ hl g h)
abbrev rmX12_loss : Room := { frames := 7, cells := 0, slots := 0, locals := 191 }
def wX12_loss (x1 : Int32) (x2 : Int32) (x3 : Int32) (x4 : Int32) (x5 : Int32) (σ : St) (Q : Int32 → St → Prop) : Prop := ((x1 < 0 → Q (-1000000 : Int32) σ) ∧ (¬ (x1 < 0) → (((gv σ 11 56) ≤ x1 → Q (-1000000 : Int32) σ) ∧ (¬ ((gv σ 11 56) ≤ x1) → wX12_isMill x2 σ (fun (r3 : Int32) (σ4 : St) => ((r3 = 0 → Q (-1000000 : Int32) σ4) ∧ (¬ (r3 = 0) → wX12_isEnd x3 σ4 (fun (r6 : Int32) (σ7 : St) => ((r6 = 0 → Q (-1000000 : Int32) σ7) ∧ (¬ (r6 = 0) → wX12_isEnd x4 σ7 (fun (r9 : Int32) (σ10 : St) => ((r9 = 0 → Q (-1000000 : Int32) σ10) ∧ (¬ (r9 = 0) → wX12_isKnown x5 σ10 (fun (r12 : Int32) (σ13 : St) => ((r12 = 0 → Q (-1000000 : Int32) σ13) ∧ (¬ (r12 = 0) → wX12_workOf x2 x3 x4 x5 x1 σ13 (fun (r15 : Int32) (σ16 : St) => wX12_workOf x2 x3 x4 x5 (-1 : Int32) σ16 (fun (r17 : Int32) (σ18 : St) => Q (r15 - r17) σ18))))))))))))))))))
set_option maxHeartbeats 4000000 in
set_option maxRecDepth 100000 in
theorem tX12_loss_e {p : Program} {l : Launch} {e : Env} {s : State} {m : MethodId} {args : Array Value} {below : List Frame} {meth : Method} {c : Code} {E : EE} {base : Nat} (C : Cx p E base s m args meth c cX12_loss 6 RX12) (hr : meth.sig.returnType = (some .int)) {Q : Int32 → St → Prop} : ∀ (x1 : Int32) (x2 : Int32) (x3 : Int32) (x4 : Int32) (x5 : Int32) (σ : St) (H : Heap) (locs : List Loc) (ls : Array Slot), lv_has ls 6 [(0, .ref (ga E 11)), (1, .int x1), (2, .int x2), (3, .int x3), (4, .int x4), (5, .int x5)] → GW E base s σ H locs → wX12_loss x1 x2 x3 x4 x5 σ Q → W p l e rmX12_loss s m args below meth c H locs 0 0 (MQ below (QI E base Q) args s 0 0 (fun q => base ≤ q)) (F0 m 0 ls []) := by
  intro x1 x2 x3 x4 x5 σ H locs ls hl g h
  refine lv_iload_n C.1 C.2.1 dX12_loss_0 rfl (lv_at hl 1 rfl) ?_
  refine lv_if_lt (tgt := 44) C.1 C.2.1 dX12_loss_1 (by decide) (fun c1 => ?_) (fun c1 => ?_)
  · have h := h.1 c1
    refine gx_ldc_w C ck_X12_360 dX12_loss_44 ?_
    exact gx_iret C hr g dX12_loss_47 h
  · have h := h.2 c1
    refine lv_iload_n C.1 C.2.1 dX12_loss_4 rfl (lv_at hl 1 rfl) ?_
    refine lv_aload_n C.1 C.2.1 dX12_loss_5 rfl (lv_at hl 0 rfl) ?_
    refine gx_getI C g fl_X12_322 dX12_loss_6 sh_11 rfl ?_
    refine lv_icmp_ge (tgt := 44) C.1 C.2.1 dX12_loss_9 (by decide) (fun c2 => ?_) (fun c2 => ?_)
    · have h := h.1 c2
      refine gx_ldc_w C ck_X12_360 dX12_loss_44 ?_
      exact gx_iret C hr g dX12_loss_47 h
    · have h := h.2 c2
      refine lv_aload_n C.1 C.2.1 dX12_loss_12 rfl (lv_at hl 0 rfl) ?_
      refine lv_iload_n C.1 C.2.1 dX12_loss_13 rfl (lv_at hl 2 rfl) ?_
      refine gx_calli0 g (gx_runV (k := 11) (rest := []) C g mb_X12_isMill ml_X12_319 rfl sh_11 (mX12_isMill x2 _ _ h) ⟨Nat.le_of_ble_eq_true rfl, Nat.le_of_ble_eq_true rfl⟩ ⟨Nat.le_refl _, Nat.le_refl _⟩ rfl hl.1 rfl (Nat.le_of_ble_eq_true rfl) dX12_loss_14) rfl rfl (fun r3 σ4 H locs h g => ?_)
      refine lv_if_eq (tgt := 44) C.1 C.2.1 dX12_loss_17 (by decide) (fun c5 => ?_) (fun c5 => ?_)
      · have h := h.1 c5
        refine gx_ldc_w C ck_X12_360 dX12_loss_44 ?_
        exact gx_iret C hr g dX12_loss_47 h
      · have h := h.2 c5
        refine lv_iload_n C.1 C.2.1 dX12_loss_20 rfl (lv_at hl 3 rfl) ?_
        refine gx_calli0 g (gx_runS (rest := []) C g ms_X12_isEnd ml_X12_364 (mX12_isEnd x3 _ _ h) ⟨Nat.le_of_ble_eq_true rfl, Nat.le_of_ble_eq_true rfl⟩ ⟨Nat.le_refl _, Nat.le_refl _⟩ rfl hl.1 rfl (Nat.le_of_ble_eq_true rfl) dX12_loss_21) rfl rfl (fun r6 σ7 H locs h g => ?_)
        refine lv_if_eq (tgt := 44) C.1 C.2.1 dX12_loss_24 (by decide) (fun c8 => ?_) (fun c8 => ?_)
        · have h := h.1 c8
          refine gx_ldc_w C ck_X12_360 dX12_loss_44 ?_
          exact gx_iret C hr g dX12_loss_47 h
        · have h := h.2 c8
          refine lv_iload C.1 C.2.1 dX12_loss_27 (lv_at hl 4 rfl) ?_
          refine gx_calli0 g (gx_runS (rest := []) C g ms_X12_isEnd ml_X12_364 (mX12_isEnd x4 _ _ h) ⟨Nat.le_of_ble_eq_true rfl, Nat.le_of_ble_eq_true rfl⟩ ⟨Nat.le_refl _, Nat.le_refl _⟩ rfl hl.1 rfl (Nat.le_of_ble_eq_true rfl) dX12_loss_29) rfl rfl (fun r9 σ10 H locs h g => ?_)
          refine lv_if_eq (tgt := 44) C.1 C.2.1 dX12_loss_32 (by decide) (fun c11 => ?_) (fun c11 => ?_)
          · have h := h.1 c11
            refine gx_ldc_w C ck_X12_360 dX12_loss_44 ?_
            exact gx_iret C hr g dX12_loss_47 h
          · have h := h.2 c11
            refine lv_aload_n C.1 C.2.1 dX12_loss_35 rfl (lv_at hl 0 rfl) ?_
            refine lv_iload C.1 C.2.1 dX12_loss_36 (lv_at hl 5 rfl) ?_
            refine gx_calli0 g (gx_runV (k := 11) (rest := []) C g mb_X12_isKnown ml_X12_357 rfl sh_11 (mX12_isKnown x5 _ _ h) ⟨Nat.le_of_ble_eq_true rfl, Nat.le_of_ble_eq_true rfl⟩ ⟨Nat.le_refl _, Nat.le_refl _⟩ rfl hl.1 rfl (Nat.le_of_ble_eq_true rfl) dX12_loss_38) rfl rfl (fun r12 σ13 H locs h g => ?_)
            refine lv_if_ne (tgt := 48) C.1 C.2.1 dX12_loss_41 (by decide) (fun c14 => ?_) (fun c14 => ?_)
            · have h := h.2 c14
              refine lv_aload_n C.1 C.2.1 dX12_loss_48 rfl (lv_at hl 0 rfl) ?_
              refine lv_iload_n C.1 C.2.1 dX12_loss_49 rfl (lv_at hl 2 rfl) ?_
              refine lv_iload_n C.1 C.2.1 dX12_loss_50 rfl (lv_at hl 3 rfl) ?_
              refine lv_iload C.1 C.2.1 dX12_loss_51 (lv_at hl 4 rfl) ?_
              refine lv_iload C.1 C.2.1 dX12_loss_53 (lv_at hl 5 rfl) ?_
              refine lv_iload_n C.1 C.2.1 dX12_loss_55 rfl (lv_at hl 1 rfl) ?_
              refine gx_calli0 g (gx_runV (k := 11) (rest := []) C g mb_X12_workOf ml_X12_371 rfl sh_11 (mX12_workOf x2 x3 x4 x5 x1 _ _ h) ⟨Nat.le_of_ble_eq_true rfl, Nat.le_of_ble_eq_true rfl⟩ ⟨Nat.le_refl _, Nat.le_refl _⟩ rfl hl.1 rfl (Nat.le_of_ble_eq_true rfl) dX12_loss_56) rfl rfl (fun r15 σ16 H locs h g => ?_)
              refine lv_aload_n C.1 C.2.1 dX12_loss_59 rfl (lv_at hl 0 rfl) ?_
              refine lv_iload_n C.1 C.2.1 dX12_loss_60 rfl (lv_at hl 2 rfl) ?_
              refine lv_iload_n C.1 C.2.1 dX12_loss_61 rfl (lv_at hl 3 rfl) ?_
              refine lv_iload C.1 C.2.1 dX12_loss_62 (lv_at hl 4 rfl) ?_
              refine lv_iload C.1 C.2.1 dX12_loss_64 (lv_at hl 5 rfl) ?_
              refine lv_iconst (v := -1) C.1 C.2.1 dX12_loss_66 (by decide) ?_
              refine gx_calli0 g (gx_runV (k := 11) (rest := [.int r15]) C g mb_X12_workOf ml_X12_371 rfl sh_11 (mX12_workOf x2 x3 x4 x5 (-1 : Int32) _ _ h) ⟨Nat.le_of_ble_eq_true rfl, Nat.le_of_ble_eq_true rfl⟩ ⟨Nat.le_refl _, Nat.le_refl _⟩ rfl hl.1 rfl (Nat.le_of_ble_eq_true rfl) dX12_loss_67) rfl rfl (fun r17 σ18 H locs h g => ?_)
              refine lv_isub C.1 C.2.1 dX12_loss_70 ?_
              exact gx_iret C hr g dX12_loss_71 h
            · have h := h.1 c14
              refine gx_ldc_w C ck_X12_360 dX12_loss_44 ?_
              exact gx_iret C hr g dX12_loss_47 h
theorem mX12_loss {l : Launch} {E : EE} {base : Nat} (x1 : Int32) (x2 : Int32) (x3 : Int32) (x4 : Int32) (x5 : Int32) (σ : St) (Q : Int32 → St → Prop) (h : wX12_loss x1 x2 x3 x4 x5 σ Q) : Met l yX12_loss (wy yX12_loss cX12_loss 6 (some .int)) rmX12_loss (va_Pc [.ref (ga E 11), .int x1, .int x2, .int x3, .int x4, .int x5] (fun U => SW E base σ U)) (QI E base Q) (rmX12_loss).cells (rmX12_loss).slots (fun q => base ≤ q) :=
  met_of (by decide) (Nat.le_of_ble_eq_true rfl) (fun p e s m args below meth c C hr g ls hl => tX12_loss_e C hr x1 x2 x3 x4 x5 _ _ _ _ hl g h)
abbrev rmX12_culprit : Room := { frames := 7, cells := 0, slots := 0, locals := 191 }
def wX12_culprit_111 (Q : Int32 → St → Prop) (K54 : Int32 → Int32 → Int32 → Int32 → Int32 → Int32 → Int32 → Int32 → St → Prop) (x1 : Int32) (x2 : Int32) (x3 : Int32) (x4 : Int32) (x5 : Int32) (x6 : Int32) (x7 : Int32) (x8 : Int32) (σ : St) : Prop := ∀ x8_1 : Int32, x8_1 = x8 + 1 → K54 x1 x2 x3 x4 x5 x6 x7 x8_1 σ
def wX12_culprit_54 (Q : Int32 → St → Prop) : Nat → Int32 → Int32 → Int32 → Int32 → Int32 → Int32 → Int32 → Int32 → St → Prop
  | 0, _, _, _, _, _, _, _, _, _ => False
  | n + 1, x1, x2, x3, x4, x5, x6, x7, x8, σ => (((gv σ 11 56) ≤ x8 → Q x6 σ) ∧ (¬ ((gv σ 11 56) ≤ x8) → vp_in x8 200 ∧ (((gv σ 82 x8.toNatClampNeg) = x1 → wX12_culprit_111 Q (fun x1' x2' x3' x4' x5' x6' x7' x8' σ' => wX12_culprit_54 Q n x1' x2' x3' x4' x5' x6' x7' x8' σ') x1 x2 x3 x4 x5 x6 x7 x8 σ) ∧ (¬ ((gv σ 82 x8.toNatClampNeg) = x1) → wX12_workOf x1 x2 x3 x4 x8 σ (fun (r4 : Int32) (σ5 : St) => ∀ x9_6 : Int32, x9_6 = r4 - x5 → ((x7 < x9_6 → wX12_culprit_111 Q (fun x1' x2' x3' x4' x5' x6' x7' x8' σ' => wX12_culprit_54 Q n x1' x2' x3' x4' x5' x6' x7' x8' σ') x1 x2 x3 x4 x5 x8 x9_6 x8 σ5) ∧ (¬ (x7 < x9_6) → wX12_culprit_111 Q (fun x1' x2' x3' x4' x5' x6' x7' x8' σ' => wX12_culprit_54 Q n x1' x2' x3' x4' x5' x6' x7' x8' σ') x1 x2 x3 x4 x5 x6 x7 x8 σ5)))))))
def wX12_culprit (x1 : Int32) (x2 : Int32) (x3 : Int32) (x4 : Int32) (σ : St) (Q : Int32 → St → Prop) : Prop := wX12_isMill x1 σ (fun (r1 : Int32) (σ2 : St) => ((r1 = 0 → Q (-1 : Int32) σ2) ∧ (¬ (r1 = 0) → wX12_isEnd x2 σ2 (fun (r4 : Int32) (σ5 : St) => ((r4 = 0 → Q (-1 : Int32) σ5) ∧ (¬ (r4 = 0) → wX12_isEnd x3 σ5 (fun (r7 : Int32) (σ8 : St) => ((r7 = 0 → Q (-1 : Int32) σ8) ∧ (¬ (r7 = 0) → wX12_isKnown x4 σ8 (fun (r10 : Int32) (σ11 : St) => ((r10 = 0 → Q (-1 : Int32) σ11) ∧ (¬ (r10 = 0) → wX12_workOf x1 x2 x3 x4 (-1 : Int32) σ11 (fun (r13 : Int32) (σ14 : St) => ∃ j : Nat, wX12_culprit_54 Q j x1 x2 x3 x4 r13 (-1 : Int32) (0 : Int32) (0 : Int32) σ14)))))))))))))
set_option maxHeartbeats 4000000 in
set_option maxRecDepth 100000 in
theorem tX12_culprit_111 {p : Program} {l : Launch} {e : Env} {s : State} {m : MethodId} {args : Array Value} {below : List Frame} {meth : Method} {c : Code} {E : EE} {base : Nat} (C : Cx p E base s m args meth c cX12_culprit 10 RX12) (hr : meth.sig.returnType = (some .int)) {Q : Int32 → St → Prop} {K54 : Int32 → Int32 → Int32 → Int32 → Int32 → Int32 → Int32 → Int32 → St → Prop} (hK54 : ∀ (x1 : Int32) (x2 : Int32) (x3 : Int32) (x4 : Int32) (x5 : Int32) (x6 : Int32) (x7 : Int32) (x8 : Int32) (σ : St) (H : Heap) (locs : List Loc) (ls : Array Slot), lv_has ls 10 [(0, .ref (ga E 11)), (1, .int x1), (2, .int x2), (3, .int x3), (4, .int x4), (5, .int x5), (6, .int x6), (7, .int x7), (8, .int x8)] → GW E base s σ H locs → K54 x1 x2 x3 x4 x5 x6 x7 x8 σ → W p l e rmX12_culprit s m args below meth c H locs 0 0 (MQ below (QI E base Q) args s 0 0 (fun q => base ≤ q)) (F0 m 54 ls [])) : ∀ (x1 : Int32) (x2 : Int32) (x3 : Int32) (x4 : Int32) (x5 : Int32) (x6 : Int32) (x7 : Int32) (x8 : Int32) (σ : St) (H : Heap) (locs : List Loc) (ls : Array Slot), lv_has ls 10 [(0, .ref (ga E 11)), (1, .int x1), (2, .int x2), (3, .int x3), (4, .int x4), (5, .int x5), (6, .int x6), (7, .int x7), (8, .int x8)] → GW E base s σ H locs → wX12_culprit_111 Q K54 x1 x2 x3 x4 x5 x6 x7 x8 σ → W p l e rmX12_culprit s m args below meth c H locs 0 0 (MQ below (QI E base Q) args s 0 0 (fun q => base ≤ q)) (F0 m 111 ls []) := by
  intro x1 x2 x3 x4 x5 x6 x7 x8 σ H locs ls hl g h
  obtain ⟨x8_1, ex8_1⟩ : ∃ y : Int32, y = x8 + 1 := ⟨_, rfl⟩
  have h := h x8_1 ex8_1
  refine lv_iinc (v := x8_1) (lv' := [(8, .int x8_1), (0, .ref (ga E 11)), (1, .int x1), (2, .int x2), (3, .int x3), (4, .int x4), (5, .int x5), (6, .int x6), (7, .int x7)]) C.1 C.2.1 dX12_culprit_111 hl (k := 8) rfl (by rw [ex8_1]; rfl) (by decide) rfl (fun ls hl => ?_)
  refine lv_goto (tgt := 54) C.1 C.2.1 dX12_culprit_114 (by decide) ?_
  exact hK54 x1 x2 x3 x4 x5 x6 x7 x8_1 _ _ _ _ (lv_sub hl [1, 2, 3, 4, 5, 6, 7, 8, 0] rfl) g h
set_option maxHeartbeats 4000000 in
set_option maxRecDepth 100000 in
theorem tX12_culprit_54 {p : Program} {l : Launch} {e : Env} {s : State} {m : MethodId} {args : Array Value} {below : List Frame} {meth : Method} {c : Code} {E : EE} {base : Nat} (C : Cx p E base s m args meth c cX12_culprit 10 RX12) (hr : meth.sig.returnType = (some .int)) {Q : Int32 → St → Prop} : ∀ (n : Nat) (x1 : Int32) (x2 : Int32) (x3 : Int32) (x4 : Int32) (x5 : Int32) (x6 : Int32) (x7 : Int32) (x8 : Int32) (σ : St) (H : Heap) (locs : List Loc) (ls : Array Slot), lv_has ls 10 [(0, .ref (ga E 11)), (1, .int x1), (2, .int x2), (3, .int x3), (4, .int x4), (5, .int x5), (6, .int x6), (7, .int x7), (8, .int x8)] → GW E base s σ H locs → wX12_culprit_54 Q n x1 x2 x3 x4 x5 x6 x7 x8 σ → W p l e rmX12_culprit s m args below meth c H locs 0 0 (MQ below (QI E base Q) args s 0 0 (fun q => base ≤ q)) (F0 m 54 ls []) := by
  intro n
  induction n with
  | zero => intro _ _ _ _ _ _ _ _; intros; exact False.elim (by assumption)
  | succ n ih =>
    intro x1 x2 x3 x4 x5 x6 x7 x8 σ H locs ls hl g h
    refine lv_iload C.1 C.2.1 dX12_culprit_54 (lv_at hl 8 rfl) ?_
    refine lv_aload_n C.1 C.2.1 dX12_culprit_56 rfl (lv_at hl 0 rfl) ?_
    refine gx_getI C g fl_X12_322 dX12_culprit_57 sh_11 rfl ?_
    refine lv_icmp_ge (tgt := 117) C.1 C.2.1 dX12_culprit_60 (by decide) (fun c1 => ?_) (fun c1 => ?_)
    · have h := h.1 c1
      refine lv_iload C.1 C.2.1 dX12_culprit_117 (lv_at hl 6 rfl) ?_
      exact gx_iret C hr g dX12_culprit_119 h
    · have h := h.2 c1
      refine lv_aload_n C.1 C.2.1 dX12_culprit_63 rfl (lv_at hl 0 rfl) ?_
      refine gx_getR C g fl_X12_122 dX12_culprit_64 sh_11 rfl (by decide) ?_
      refine lv_iload C.1 C.2.1 dX12_culprit_67 (lv_at hl 8 rfl) ?_
      obtain ⟨i2, h⟩ := h
      refine gx_iald C g dX12_culprit_69 sh_82 i2 ?_
      refine lv_iload_n C.1 C.2.1 dX12_culprit_70 rfl (lv_at hl 1 rfl) ?_
      refine lv_icmp_ne (tgt := 77) C.1 C.2.1 dX12_culprit_71 (by decide) (fun c3 => ?_) (fun c3 => ?_)
      · have h := h.2 c3
        refine lv_aload_n C.1 C.2.1 dX12_culprit_77 rfl (lv_at hl 0 rfl) ?_
        refine lv_iload_n C.1 C.2.1 dX12_culprit_78 rfl (lv_at hl 1 rfl) ?_
        refine lv_iload_n C.1 C.2.1 dX12_culprit_79 rfl (lv_at hl 2 rfl) ?_
        refine lv_iload_n C.1 C.2.1 dX12_culprit_80 rfl (lv_at hl 3 rfl) ?_
        refine lv_iload C.1 C.2.1 dX12_culprit_81 (lv_at hl 4 rfl) ?_
        refine lv_iload C.1 C.2.1 dX12_culprit_83 (lv_at hl 8 rfl) ?_
        refine gx_calli0 g (gx_runV (k := 11) (rest := []) C g mb_X12_workOf ml_X12_371 rfl sh_11 (mX12_workOf x1 x2 x3 x4 x8 _ _ h) ⟨Nat.le_of_ble_eq_true rfl, Nat.le_of_ble_eq_true rfl⟩ ⟨Nat.le_refl _, Nat.le_refl _⟩ rfl hl.1 rfl (Nat.le_of_ble_eq_true rfl) dX12_culprit_85) rfl rfl (fun r4 σ5 H locs h g => ?_)
        refine lv_iload C.1 C.2.1 dX12_culprit_88 (lv_at hl 5 rfl) ?_
        refine lv_isub C.1 C.2.1 dX12_culprit_90 ?_
        refine lv_topi (fun x9_6 ex9_6 => ?_)
        have h := h x9_6 ex9_6
        refine lv_istore (lv' := [(9, .int x9_6), (0, .ref (ga E 11)), (1, .int x1), (2, .int x2), (3, .int x3), (4, .int x4), (5, .int x5), (6, .int x6), (7, .int x7), (8, .int x8)]) C.1 C.2.1 dX12_culprit_91 hl (by decide) rfl (fun ls hl => ?_)
        refine lv_iload C.1 C.2.1 dX12_culprit_93 (lv_at hl 0 rfl) ?_
        refine lv_iload C.1 C.2.1 dX12_culprit_95 (lv_at hl 8 rfl) ?_
        refine lv_icmp_gt (tgt := 103) C.1 C.2.1 dX12_culprit_97 (by decide) (fun c7 => ?_) (fun c7 => ?_)
        · have h := h.1 c7
          refine lv_iload C.1 C.2.1 dX12_culprit_103 (lv_at hl 0 rfl) ?_
          refine lv_istore (lv' := [(7, .int x9_6), (9, .int x9_6), (0, .ref (ga E 11)), (1, .int x1), (2, .int x2), (3, .int x3), (4, .int x4), (5, .int x5), (6, .int x6), (8, .int x8)]) C.1 C.2.1 dX12_culprit_105 hl (by decide) rfl (fun ls hl => ?_)
          refine lv_iload C.1 C.2.1 dX12_culprit_107 (lv_at hl 9 rfl) ?_
          refine lv_istore (lv' := [(6, .int x8), (7, .int x9_6), (9, .int x9_6), (0, .ref (ga E 11)), (1, .int x1), (2, .int x2), (3, .int x3), (4, .int x4), (5, .int x5), (8, .int x8)]) C.1 C.2.1 dX12_culprit_109 hl (by decide) rfl (fun ls hl => ?_)
          exact tX12_culprit_111 C hr ih x1 x2 x3 x4 x5 x8 x9_6 x8 _ _ _ _ (lv_sub hl [3, 4, 5, 6, 7, 8, 0, 1, 9] rfl) g h
        · have h := h.2 c7
          refine lv_goto (tgt := 111) C.1 C.2.1 dX12_culprit_100 (by decide) ?_
          exact tX12_culprit_111 C hr ih x1 x2 x3 x4 x5 x6 x7 x8 _ _ _ _ (lv_sub hl [1, 2, 3, 4, 5, 6, 7, 8, 9] rfl) g h
      · have h := h.1 c3
        refine lv_goto (tgt := 111) C.1 C.2.1 dX12_culprit_74 (by decide) ?_
        exact tX12_culprit_111 C hr ih x1 x2 x3 x4 x5 x6 x7 x8 _ _ _ _ (lv_sub hl [0, 1, 2, 3, 4, 5, 6, 7, 8] rfl) g h
set_option maxHeartbeats 4000000 in
set_option maxRecDepth 100000 in
theorem tX12_culprit_e {p : Program} {l : Launch} {e : Env} {s : State} {m : MethodId} {args : Array Value} {below : List Frame} {meth : Method} {c : Code} {E : EE} {base : Nat} (C : Cx p E base s m args meth c cX12_culprit 10 RX12) (hr : meth.sig.returnType = (some .int)) {Q : Int32 → St → Prop} : ∀ (x1 : Int32) (x2 : Int32) (x3 : Int32) (x4 : Int32) (σ : St) (H : Heap) (locs : List Loc) (ls : Array Slot), lv_has ls 10 [(0, .ref (ga E 11)), (1, .int x1), (2, .int x2), (3, .int x3), (4, .int x4)] → GW E base s σ H locs → wX12_culprit x1 x2 x3 x4 σ Q → W p l e rmX12_culprit s m args below meth c H locs 0 0 (MQ below (QI E base Q) args s 0 0 (fun q => base ≤ q)) (F0 m 0 ls []) := by
  intro x1 x2 x3 x4 σ H locs ls hl g h
  refine lv_aload_n C.1 C.2.1 dX12_culprit_0 rfl (lv_at hl 0 rfl) ?_
  refine lv_iload_n C.1 C.2.1 dX12_culprit_1 rfl (lv_at hl 1 rfl) ?_
  refine gx_calli0 g (gx_runV (k := 11) (rest := []) C g mb_X12_isMill ml_X12_319 rfl sh_11 (mX12_isMill x1 _ _ h) ⟨Nat.le_of_ble_eq_true rfl, Nat.le_of_ble_eq_true rfl⟩ ⟨Nat.le_refl _, Nat.le_refl _⟩ rfl hl.1 rfl (Nat.le_of_ble_eq_true rfl) dX12_culprit_2) rfl rfl (fun r1 σ2 H locs h g => ?_)
  refine lv_if_eq (tgt := 31) C.1 C.2.1 dX12_culprit_5 (by decide) (fun c3 => ?_) (fun c3 => ?_)
  · have h := h.1 c3
    refine lv_iconst (v := -1) C.1 C.2.1 dX12_culprit_31 (by decide) ?_
    exact gx_iret C hr g dX12_culprit_32 h
  · have h := h.2 c3
    refine lv_iload_n C.1 C.2.1 dX12_culprit_8 rfl (lv_at hl 2 rfl) ?_
    refine gx_calli0 g (gx_runS (rest := []) C g ms_X12_isEnd ml_X12_364 (mX12_isEnd x2 _ _ h) ⟨Nat.le_of_ble_eq_true rfl, Nat.le_of_ble_eq_true rfl⟩ ⟨Nat.le_refl _, Nat.le_refl _⟩ rfl hl.1 rfl (Nat.le_of_ble_eq_true rfl) dX12_culprit_9) rfl rfl (fun r4 σ5 H locs h g => ?_)
    refine lv_if_eq (tgt := 31) C.1 C.2.1 dX12_culprit_12 (by decide) (fun c6 => ?_) (fun c6 => ?_)
    · have h := h.1 c6
      refine lv_iconst (v := -1) C.1 C.2.1 dX12_culprit_31 (by decide) ?_
      exact gx_iret C hr g dX12_culprit_32 h
    · have h := h.2 c6
      refine lv_iload_n C.1 C.2.1 dX12_culprit_15 rfl (lv_at hl 3 rfl) ?_
      refine gx_calli0 g (gx_runS (rest := []) C g ms_X12_isEnd ml_X12_364 (mX12_isEnd x3 _ _ h) ⟨Nat.le_of_ble_eq_true rfl, Nat.le_of_ble_eq_true rfl⟩ ⟨Nat.le_refl _, Nat.le_refl _⟩ rfl hl.1 rfl (Nat.le_of_ble_eq_true rfl) dX12_culprit_16) rfl rfl (fun r7 σ8 H locs h g => ?_)
      refine lv_if_eq (tgt := 31) C.1 C.2.1 dX12_culprit_19 (by decide) (fun c9 => ?_) (fun c9 => ?_)
      · have h := h.1 c9
        refine lv_iconst (v := -1) C.1 C.2.1 dX12_culprit_31 (by decide) ?_
        exact gx_iret C hr g dX12_culprit_32 h
      · have h := h.2 c9
        refine lv_aload_n C.1 C.2.1 dX12_culprit_22 rfl (lv_at hl 0 rfl) ?_
        refine lv_iload C.1 C.2.1 dX12_culprit_23 (lv_at hl 4 rfl) ?_
        refine gx_calli0 g (gx_runV (k := 11) (rest := []) C g mb_X12_isKnown ml_X12_357 rfl sh_11 (mX12_isKnown x4 _ _ h) ⟨Nat.le_of_ble_eq_true rfl, Nat.le_of_ble_eq_true rfl⟩ ⟨Nat.le_refl _, Nat.le_refl _⟩ rfl hl.1 rfl (Nat.le_of_ble_eq_true rfl) dX12_culprit_25) rfl rfl (fun r10 σ11 H locs h g => ?_)
        refine lv_if_ne (tgt := 33) C.1 C.2.1 dX12_culprit_28 (by decide) (fun c12 => ?_) (fun c12 => ?_)
        · have h := h.2 c12
          refine lv_aload_n C.1 C.2.1 dX12_culprit_33 rfl (lv_at hl 0 rfl) ?_
          refine lv_iload_n C.1 C.2.1 dX12_culprit_34 rfl (lv_at hl 1 rfl) ?_
          refine lv_iload_n C.1 C.2.1 dX12_culprit_35 rfl (lv_at hl 2 rfl) ?_
          refine lv_iload_n C.1 C.2.1 dX12_culprit_36 rfl (lv_at hl 3 rfl) ?_
          refine lv_iload C.1 C.2.1 dX12_culprit_37 (lv_at hl 4 rfl) ?_
          refine lv_iconst (v := -1) C.1 C.2.1 dX12_culprit_39 (by decide) ?_
          refine gx_calli0 g (gx_runV (k := 11) (rest := []) C g mb_X12_workOf ml_X12_371 rfl sh_11 (mX12_workOf x1 x2 x3 x4 (-1 : Int32) _ _ h) ⟨Nat.le_of_ble_eq_true rfl, Nat.le_of_ble_eq_true rfl⟩ ⟨Nat.le_refl _, Nat.le_refl _⟩ rfl hl.1 rfl (Nat.le_of_ble_eq_true rfl) dX12_culprit_40) rfl rfl (fun r13 σ14 H locs h g => ?_)
          refine lv_istore (lv' := [(5, .int r13), (0, .ref (ga E 11)), (1, .int x1), (2, .int x2), (3, .int x3), (4, .int x4)]) C.1 C.2.1 dX12_culprit_43 hl (by decide) rfl (fun ls hl => ?_)
          refine lv_iconst (v := -1) C.1 C.2.1 dX12_culprit_45 (by decide) ?_
          refine lv_istore (lv' := [(6, .int (-1 : Int32)), (5, .int r13), (0, .ref (ga E 11)), (1, .int x1), (2, .int x2), (3, .int x3), (4, .int x4)]) C.1 C.2.1 dX12_culprit_46 hl (by decide) rfl (fun ls hl => ?_)
          refine lv_iconst (v := 0) C.1 C.2.1 dX12_culprit_48 (by decide) ?_
          refine lv_istore (lv' := [(7, .int (0 : Int32)), (6, .int (-1 : Int32)), (5, .int r13), (0, .ref (ga E 11)), (1, .int x1), (2, .int x2), (3, .int x3), (4, .int x4)]) C.1 C.2.1 dX12_culprit_49 hl (by decide) rfl (fun ls hl => ?_)
          refine lv_iconst (v := 0) C.1 C.2.1 dX12_culprit_51 (by decide) ?_
          refine lv_istore (lv' := [(8, .int (0 : Int32)), (7, .int (0 : Int32)), (6, .int (-1 : Int32)), (5, .int r13), (0, .ref (ga E 11)), (1, .int x1), (2, .int x2), (3, .int x3), (4, .int x4)]) C.1 C.2.1 dX12_culprit_52 hl (by decide) rfl (fun ls hl => ?_)
          obtain ⟨j, h⟩ := h
          exact tX12_culprit_54 C hr j x1 x2 x3 x4 r13 (-1 : Int32) (0 : Int32) (0 : Int32) _ _ _ _ (lv_sub hl [4, 5, 6, 7, 8, 3, 2, 1, 0] rfl) g h
        · have h := h.1 c12
          refine lv_iconst (v := -1) C.1 C.2.1 dX12_culprit_31 (by decide) ?_
          exact gx_iret C hr g dX12_culprit_32 h
theorem mX12_culprit {l : Launch} {E : EE} {base : Nat} (x1 : Int32) (x2 : Int32) (x3 : Int32) (x4 : Int32) (σ : St) (Q : Int32 → St → Prop) (h : wX12_culprit x1 x2 x3 x4 σ Q) : Met l yX12_culprit (wy yX12_culprit cX12_culprit 10 (some .int)) rmX12_culprit (va_Pc [.ref (ga E 11), .int x1, .int x2, .int x3, .int x4] (fun U => SW E base σ U)) (QI E base Q) (rmX12_culprit).cells (rmX12_culprit).slots (fun q => base ≤ q) :=
  met_of (by decide) (Nat.le_of_ble_eq_true rfl) (fun p e s m args below meth c C hr g ls hl => tX12_culprit_e C hr x1 x2 x3 x4 _ _ _ _ hl g h)
abbrev rmX12_isGood : Room := { frames := 5, cells := 0, slots := 0, locals := 131 }
def wX12_isGood_12 (Q : Int32 → St → Prop) (K2 : Int32 → Int32 → St → Prop) : Nat → Int32 → Int32 → Int32 → St → Prop
  | 0, _, _, _, _ => False
  | n + 1, x1, x2, x3, σ => (((gv σ 11 23) ≤ x3 → ∀ x2_2 : Int32, x2_2 = x2 + 1 → K2 x1 x2_2 σ) ∧ (¬ ((gv σ 11 23) ≤ x3) → wX12_breaks x3 x2 x1 σ (fun (r3 : Int32) (σ4 : St) => ((r3 = 0 → ∀ x3_6 : Int32, x3_6 = x3 + 1 → wX12_isGood_12 Q K2 n x1 x2 x3_6 σ4) ∧ (¬ (r3 = 0) → Q (0 : Int32) σ4)))))
def wX12_isGood_2 (Q : Int32 → St → Prop) : Nat → Int32 → Int32 → St → Prop
  | 0, _, _, _ => False
  | n + 1, x1, x2, σ => (((gv σ 11 43) ≤ x2 → Q (1 : Int32) σ) ∧ (¬ ((gv σ 11 43) ≤ x2) → ∃ j : Nat, wX12_isGood_12 Q (fun x1' x2' σ' => wX12_isGood_2 Q n x1' x2' σ') j x1 x2 (0 : Int32) σ))
def wX12_isGood (x1 : Int32) (σ : St) (Q : Int32 → St → Prop) : Prop := ∃ j : Nat, wX12_isGood_2 Q j x1 (0 : Int32) σ
set_option maxHeartbeats 4000000 in
set_option maxRecDepth 100000 in
theorem tX12_isGood_12 {p : Program} {l : Launch} {e : Env} {s : State} {m : MethodId} {args : Array Value} {below : List Frame} {meth : Method} {c : Code} {E : EE} {base : Nat} (C : Cx p E base s m args meth c cX12_isGood 4 RX12) (hr : meth.sig.returnType = (some .boolean)) {Q : Int32 → St → Prop} {K2 : Int32 → Int32 → St → Prop} (hK2 : ∀ (x1 : Int32) (x2 : Int32) (σ : St) (H : Heap) (locs : List Loc) (ls : Array Slot), lv_has ls 4 [(0, .ref (ga E 11)), (1, .int x1), (2, .int x2)] → GW E base s σ H locs → K2 x1 x2 σ → W p l e rmX12_isGood s m args below meth c H locs 0 0 (MQ below (QI E base Q) args s 0 0 (fun q => base ≤ q)) (F0 m 2 ls [])) : ∀ (n : Nat) (x1 : Int32) (x2 : Int32) (x3 : Int32) (σ : St) (H : Heap) (locs : List Loc) (ls : Array Slot), lv_has ls 4 [(0, .ref (ga E 11)), (1, .int x1), (2, .int x2), (3, .int x3)] → GW E base s σ H locs → wX12_isGood_12 Q K2 n x1 x2 x3 σ → W p l e rmX12_isGood s m args below meth c H locs 0 0 (MQ below (QI E base Q) args s 0 0 (fun q => base ≤ q)) (F0 m 12 ls []) := by
  intro n
  induction n with
  | zero => intro _ _ _; intros; exact False.elim (by assumption)
  | succ n ih =>
    intro x1 x2 x3 σ H locs ls hl g h
    refine lv_iload_n C.1 C.2.1 dX12_isGood_12 rfl (lv_at hl 3 rfl) ?_
    refine lv_aload_n C.1 C.2.1 dX12_isGood_13 rfl (lv_at hl 0 rfl) ?_
    refine gx_getI C g fl_X12_263 dX12_isGood_14 sh_11 rfl ?_
    refine lv_icmp_ge (tgt := 38) C.1 C.2.1 dX12_isGood_17 (by decide) (fun c1 => ?_) (fun c1 => ?_)
    · have h := h.1 c1
      obtain ⟨x2_2, ex2_2⟩ : ∃ y : Int32, y = x2 + 1 := ⟨_, rfl⟩
      have h := h x2_2 ex2_2
      refine lv_iinc (v := x2_2) (lv' := [(2, .int x2_2), (0, .ref (ga E 11)), (1, .int x1), (3, .int x3)]) C.1 C.2.1 dX12_isGood_38 hl (k := 2) rfl (by rw [ex2_2]; rfl) (by decide) rfl (fun ls hl => ?_)
      refine lv_goto (tgt := 2) C.1 C.2.1 dX12_isGood_41 (by decide) ?_
      exact hK2 x1 x2_2 _ _ _ _ (lv_sub hl [1, 2, 0] rfl) g h
    · have h := h.2 c1
      refine lv_aload_n C.1 C.2.1 dX12_isGood_20 rfl (lv_at hl 0 rfl) ?_
      refine lv_iload_n C.1 C.2.1 dX12_isGood_21 rfl (lv_at hl 3 rfl) ?_
      refine lv_iload_n C.1 C.2.1 dX12_isGood_22 rfl (lv_at hl 2 rfl) ?_
      refine lv_iload_n C.1 C.2.1 dX12_isGood_23 rfl (lv_at hl 1 rfl) ?_
      refine gx_calli0 g (gx_runV (k := 11) (rest := []) C g mb_X12_breaks ml_X12_367 rfl sh_11 (mX12_breaks x3 x2 x1 _ _ h) ⟨Nat.le_of_ble_eq_true rfl, Nat.le_of_ble_eq_true rfl⟩ ⟨Nat.le_refl _, Nat.le_refl _⟩ rfl hl.1 rfl (Nat.le_of_ble_eq_true rfl) dX12_isGood_24) rfl rfl (fun r3 σ4 H locs h g => ?_)
      refine lv_if_eq (tgt := 32) C.1 C.2.1 dX12_isGood_27 (by decide) (fun c5 => ?_) (fun c5 => ?_)
      · have h := h.1 c5
        obtain ⟨x3_6, ex3_6⟩ : ∃ y : Int32, y = x3 + 1 := ⟨_, rfl⟩
        have h := h x3_6 ex3_6
        refine lv_iinc (v := x3_6) (lv' := [(3, .int x3_6), (0, .ref (ga E 11)), (1, .int x1), (2, .int x2)]) C.1 C.2.1 dX12_isGood_32 hl (k := 3) rfl (by rw [ex3_6]; rfl) (by decide) rfl (fun ls hl => ?_)
        refine lv_goto (tgt := 12) C.1 C.2.1 dX12_isGood_35 (by decide) ?_
        exact ih x1 x2 x3_6 _ _ _ _ (lv_sub hl [1, 2, 3, 0] rfl) g h
      · have h := h.2 c5
        refine lv_iconst (v := 0) C.1 C.2.1 dX12_isGood_30 (by decide) ?_
        exact gx_zret C hr g dX12_isGood_31 (by decide) h
set_option maxHeartbeats 4000000 in
set_option maxRecDepth 100000 in
theorem tX12_isGood_2 {p : Program} {l : Launch} {e : Env} {s : State} {m : MethodId} {args : Array Value} {below : List Frame} {meth : Method} {c : Code} {E : EE} {base : Nat} (C : Cx p E base s m args meth c cX12_isGood 4 RX12) (hr : meth.sig.returnType = (some .boolean)) {Q : Int32 → St → Prop} : ∀ (n : Nat) (x1 : Int32) (x2 : Int32) (σ : St) (H : Heap) (locs : List Loc) (ls : Array Slot), lv_has ls 4 [(0, .ref (ga E 11)), (1, .int x1), (2, .int x2)] → GW E base s σ H locs → wX12_isGood_2 Q n x1 x2 σ → W p l e rmX12_isGood s m args below meth c H locs 0 0 (MQ below (QI E base Q) args s 0 0 (fun q => base ≤ q)) (F0 m 2 ls []) := by
  intro n
  induction n with
  | zero => intro _ _; intros; exact False.elim (by assumption)
  | succ n ih =>
    intro x1 x2 σ H locs ls hl g h
    refine lv_iload_n C.1 C.2.1 dX12_isGood_2 rfl (lv_at hl 2 rfl) ?_
    refine lv_aload_n C.1 C.2.1 dX12_isGood_3 rfl (lv_at hl 0 rfl) ?_
    refine gx_getI C g fl_X12_307 dX12_isGood_4 sh_11 rfl ?_
    refine lv_icmp_ge (tgt := 44) C.1 C.2.1 dX12_isGood_7 (by decide) (fun c1 => ?_) (fun c1 => ?_)
    · have h := h.1 c1
      refine lv_iconst (v := 1) C.1 C.2.1 dX12_isGood_44 (by decide) ?_
      exact gx_zret C hr g dX12_isGood_45 (by decide) h
    · have h := h.2 c1
      refine lv_iconst (v := 0) C.1 C.2.1 dX12_isGood_10 (by decide) ?_
      refine lv_istore_n (lv' := [(3, .int (0 : Int32)), (0, .ref (ga E 11)), (1, .int x1), (2, .int x2)]) C.1 C.2.1 dX12_isGood_11 rfl hl (by decide) rfl (fun ls hl => ?_)
      obtain ⟨j, h⟩ := h
      exact tX12_isGood_12 C hr ih j x1 x2 (0 : Int32) _ _ _ _ (lv_sub hl [1, 2, 3, 0] rfl) g h
set_option maxHeartbeats 4000000 in
set_option maxRecDepth 100000 in
theorem tX12_isGood_e {p : Program} {l : Launch} {e : Env} {s : State} {m : MethodId} {args : Array Value} {below : List Frame} {meth : Method} {c : Code} {E : EE} {base : Nat} (C : Cx p E base s m args meth c cX12_isGood 4 RX12) (hr : meth.sig.returnType = (some .boolean)) {Q : Int32 → St → Prop} : ∀ (x1 : Int32) (σ : St) (H : Heap) (locs : List Loc) (ls : Array Slot), lv_has ls 4 [(0, .ref (ga E 11)), (1, .int x1)] → GW E base s σ H locs → wX12_isGood x1 σ Q → W p l e rmX12_isGood s m args below meth c H locs 0 0 (MQ below (QI E base Q) args s 0 0 (fun q => base ≤ q)) (F0 m 0 ls []) := by
  intro x1 σ H locs ls hl g h
  refine lv_iconst (v := 0) C.1 C.2.1 dX12_isGood_0 (by decide) ?_
  refine lv_istore_n (lv' := [(2, .int (0 : Int32)), (0, .ref (ga E 11)), (1, .int x1)]) C.1 C.2.1 dX12_isGood_1 rfl hl (by decide) rfl (fun ls hl => ?_)
  obtain ⟨j, h⟩ := h
  exact tX12_isGood_2 C hr j x1 (0 : Int32) _ _ _ _ (lv_sub hl [1, 2, 0] rfl) g h
theorem mX12_isGood {l : Launch} {E : EE} {base : Nat} (x1 : Int32) (σ : St) (Q : Int32 → St → Prop) (h : wX12_isGood x1 σ Q) : Met l yX12_isGood (wy yX12_isGood cX12_isGood 4 (some .boolean)) rmX12_isGood (va_Pc [.ref (ga E 11), .int x1] (fun U => SW E base σ U)) (QI E base Q) (rmX12_isGood).cells (rmX12_isGood).slots (fun q => base ≤ q) :=
  met_of (by decide) (Nat.le_of_ble_eq_true rfl) (fun p e s m args below meth c C hr g ls hl => tX12_isGood_e C hr x1 _ _ _ _ hl g h)
