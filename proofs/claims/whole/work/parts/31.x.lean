abbrev rmX11_feed : Room := { frames := 1, cells := 0, slots := 0, locals := 22 }
def wX11_feed (x1 : Int32) (x2 : Int32) (x3 : Int32) (x4 : Int32) (x5 : Int32) (σ : St) (Q : Int32 → St → Prop) : Prop := ((((gv σ 6 0) + (20 : Int32)) ≤ (2000 : Int32) → wX8_append x1 σ (fun (σ3 : St) => wX8_append x2 σ3 (fun (σ5 : St) => wX8_append x3 σ5 (fun (σ7 : St) => wX8_append x4 σ7 (fun (σ9 : St) => wX8_append x5 σ9 (fun (σ11 : St) => Q (gv σ11 6 0) σ11)))))) ∧ (¬ (((gv σ 6 0) + (20 : Int32)) ≤ (2000 : Int32)) → Q (-1 : Int32) σ))
set_option maxHeartbeats 4000000 in
set_option maxRecDepth 100000 in
theorem tX11_feed_e {p : Program} {l : Launch} {e : Env} {s : State} {m : MethodId} {args : Array Value} {below : List Frame} {meth : Method} {c : Code} {E : EE} {base : Nat} (C : Cx p E base s m args meth c cX11_feed 7 RX11) (hr : meth.sig.returnType = (some .int)) {Q : Int32 → St → Prop} : ∀ (x1 : Int32) (x2 : Int32) (x3 : Int32) (x4 : Int32) (x5 : Int32) (σ : St) (H : Heap) (locs : List Loc) (ls : Array Slot), lv_has ls 7 [(0, .ref (ga E 0)), (1, .int x1), (2, .int x2), (3, .int x3), (4, .int x4), (5, .int x5)] → GW E base s σ H locs → wX11_feed x1 x2 x3 x4 x5 σ Q → W p l e rmX11_feed s m args below meth c H locs 0 0 (MQ below (QI E base Q) args s 0 0 (fun q => base ≤ q)) (F0 m 0 ls []) := by
  intro x1 x2 x3 x4 x5 σ H locs ls hl g h
  refine lv_aload_n C.1 C.2.1 dX11_feed_0 rfl (lv_at hl 0 rfl) ?_
  refine gx_getR C g fl_X11_10 dX11_feed_1 sh_0 rfl (by decide) ?_
  refine gx_getR C g fl_X11_44 dX11_feed_4 sh_1 rfl (by decide) ?_
  refine gx_getR C g fl_X11_48 dX11_feed_7 sh_5 rfl (by decide) ?_
  refine lv_astore (lv' := [(6, .ref (ga E 6)), (0, .ref (ga E 0)), (1, .int x1), (2, .int x2), (3, .int x3), (4, .int x4), (5, .int x5)]) C.1 C.2.1 dX11_feed_10 hl (by decide) rfl (fun ls hl => ?_)
  refine lv_aload C.1 C.2.1 dX11_feed_12 (lv_at hl 0 rfl) ?_
  refine gx_getI C g fl_X11_54 dX11_feed_14 sh_6 rfl ?_
  refine lv_bipush (v := 20) C.1 C.2.1 dX11_feed_17 (by decide) ?_
  refine lv_iadd C.1 C.2.1 dX11_feed_19 ?_
  refine lv_sipush (v := 2000) C.1 C.2.1 dX11_feed_20 (by decide) ?_
  refine lv_icmp_le (tgt := 28) C.1 C.2.1 dX11_feed_23 (by decide) (fun c1 => ?_) (fun c1 => ?_)
  · have h := h.1 c1
    refine lv_aload C.1 C.2.1 dX11_feed_28 (lv_at hl 0 rfl) ?_
    refine lv_iload_n C.1 C.2.1 dX11_feed_30 rfl (lv_at hl 2 rfl) ?_
    refine gx_callv0 g (gx_runV (k := 6) (rest := []) C g mb_X8_append ml_X11_59 rfl sh_6 (mX8_append x1 _ _ h) ⟨Nat.le_of_ble_eq_true rfl, Nat.le_of_ble_eq_true rfl⟩ ⟨Nat.le_refl _, Nat.le_refl _⟩ rfl hl.1 rfl (Nat.le_of_ble_eq_true rfl) dX11_feed_31) rfl rfl (fun σ3 H locs h g => ?_)
    refine lv_aload C.1 C.2.1 dX11_feed_34 (lv_at hl 0 rfl) ?_
    refine lv_iload_n C.1 C.2.1 dX11_feed_36 rfl (lv_at hl 3 rfl) ?_
    refine gx_callv0 g (gx_runV (k := 6) (rest := []) C g mb_X8_append ml_X11_59 rfl sh_6 (mX8_append x2 _ _ h) ⟨Nat.le_of_ble_eq_true rfl, Nat.le_of_ble_eq_true rfl⟩ ⟨Nat.le_refl _, Nat.le_refl _⟩ rfl hl.1 rfl (Nat.le_of_ble_eq_true rfl) dX11_feed_37) rfl rfl (fun σ5 H locs h g => ?_)
    refine lv_aload C.1 C.2.1 dX11_feed_40 (lv_at hl 0 rfl) ?_
    refine lv_iload_n C.1 C.2.1 dX11_feed_42 rfl (lv_at hl 4 rfl) ?_
    refine gx_callv0 g (gx_runV (k := 6) (rest := []) C g mb_X8_append ml_X11_59 rfl sh_6 (mX8_append x3 _ _ h) ⟨Nat.le_of_ble_eq_true rfl, Nat.le_of_ble_eq_true rfl⟩ ⟨Nat.le_refl _, Nat.le_refl _⟩ rfl hl.1 rfl (Nat.le_of_ble_eq_true rfl) dX11_feed_43) rfl rfl (fun σ7 H locs h g => ?_)
    refine lv_aload C.1 C.2.1 dX11_feed_46 (lv_at hl 0 rfl) ?_
    refine lv_iload C.1 C.2.1 dX11_feed_48 (lv_at hl 5 rfl) ?_
    refine gx_callv0 g (gx_runV (k := 6) (rest := []) C g mb_X8_append ml_X11_59 rfl sh_6 (mX8_append x4 _ _ h) ⟨Nat.le_of_ble_eq_true rfl, Nat.le_of_ble_eq_true rfl⟩ ⟨Nat.le_refl _, Nat.le_refl _⟩ rfl hl.1 rfl (Nat.le_of_ble_eq_true rfl) dX11_feed_50) rfl rfl (fun σ9 H locs h g => ?_)
    refine lv_aload C.1 C.2.1 dX11_feed_53 (lv_at hl 0 rfl) ?_
    refine lv_iload C.1 C.2.1 dX11_feed_55 (lv_at hl 6 rfl) ?_
    refine gx_callv0 g (gx_runV (k := 6) (rest := []) C g mb_X8_append ml_X11_59 rfl sh_6 (mX8_append x5 _ _ h) ⟨Nat.le_of_ble_eq_true rfl, Nat.le_of_ble_eq_true rfl⟩ ⟨Nat.le_refl _, Nat.le_refl _⟩ rfl hl.1 rfl (Nat.le_of_ble_eq_true rfl) dX11_feed_57) rfl rfl (fun σ11 H locs h g => ?_)
    refine lv_aload C.1 C.2.1 dX11_feed_60 (lv_at hl 0 rfl) ?_
    refine gx_getI C g fl_X11_54 dX11_feed_62 sh_6 rfl ?_
    exact gx_iret C hr g dX11_feed_65 h
  · have h := h.2 c1
    refine lv_iconst (v := -1) C.1 C.2.1 dX11_feed_26 (by decide) ?_
    exact gx_iret C hr g dX11_feed_27 h
theorem mX11_feed {l : Launch} {E : EE} {base : Nat} (x1 : Int32) (x2 : Int32) (x3 : Int32) (x4 : Int32) (x5 : Int32) (σ : St) (Q : Int32 → St → Prop) (h : wX11_feed x1 x2 x3 x4 x5 σ Q) : Met l yX11_feed (wy yX11_feed cX11_feed 7 (some .int)) rmX11_feed (va_Pc [.ref (ga E 0), .int x1, .int x2, .int x3, .int x4, .int x5] (fun U => SW E base σ U)) (QI E base Q) (rmX11_feed).cells (rmX11_feed).slots (fun q => base ≤ q) :=
  met_of (by decide) (Nat.le_of_ble_eq_true rfl) (fun p e s m args below meth c C hr g ls hl => tX11_feed_e C hr x1 x2 x3 x4 x5 _ _ _ _ hl g h)
abbrev rmX11_back : Room := { frames := 0, cells := 0, slots := 0, locals := 0 }
def wX11_back (x1 : Int32) (σ : St) (Q : Int32 → St → Prop) : Prop := ((x1 < 0 → Q (-1 : Int32) σ) ∧ (¬ (x1 < 0) → ((x1 ≤ (gv σ 6 0) → ∀ σ3 : St, σ3 = pv σ 6 0 ((gv σ 6 0) - x1) → Q (gv σ3 6 0) σ3) ∧ (¬ (x1 ≤ (gv σ 6 0)) → Q (-1 : Int32) σ))))
set_option maxHeartbeats 4000000 in
set_option maxRecDepth 100000 in
theorem tX11_back_e {p : Program} {l : Launch} {e : Env} {s : State} {m : MethodId} {args : Array Value} {below : List Frame} {meth : Method} {c : Code} {E : EE} {base : Nat} (C : Cx p E base s m args meth c cX11_back 3 RX11) (hr : meth.sig.returnType = (some .int)) {Q : Int32 → St → Prop} : ∀ (x1 : Int32) (σ : St) (H : Heap) (locs : List Loc) (ls : Array Slot), lv_has ls 3 [(0, .ref (ga E 0)), (1, .int x1)] → GW E base s σ H locs → wX11_back x1 σ Q → W p l e rmX11_back s m args below meth c H locs 0 0 (MQ below (QI E base Q) args s 0 0 (fun q => base ≤ q)) (F0 m 0 ls []) := by
  intro x1 σ H locs ls hl g h
  refine lv_aload_n C.1 C.2.1 dX11_back_0 rfl (lv_at hl 0 rfl) ?_
  refine gx_getR C g fl_X11_10 dX11_back_1 sh_0 rfl (by decide) ?_
  refine gx_getR C g fl_X11_44 dX11_back_4 sh_1 rfl (by decide) ?_
  refine gx_getR C g fl_X11_48 dX11_back_7 sh_5 rfl (by decide) ?_
  refine lv_astore_n (lv' := [(2, .ref (ga E 6)), (0, .ref (ga E 0)), (1, .int x1)]) C.1 C.2.1 dX11_back_10 rfl hl (by decide) rfl (fun ls hl => ?_)
  refine lv_iload_n C.1 C.2.1 dX11_back_11 rfl (lv_at hl 2 rfl) ?_
  refine lv_if_lt (tgt := 23) C.1 C.2.1 dX11_back_12 (by decide) (fun c1 => ?_) (fun c1 => ?_)
  · have h := h.1 c1
    refine lv_iconst (v := -1) C.1 C.2.1 dX11_back_23 (by decide) ?_
    exact gx_iret C hr g dX11_back_24 h
  · have h := h.2 c1
    refine lv_iload_n C.1 C.2.1 dX11_back_15 rfl (lv_at hl 2 rfl) ?_
    refine lv_aload_n C.1 C.2.1 dX11_back_16 rfl (lv_at hl 0 rfl) ?_
    refine gx_getI C g fl_X11_54 dX11_back_17 sh_6 rfl ?_
    refine lv_icmp_le (tgt := 25) C.1 C.2.1 dX11_back_20 (by decide) (fun c2 => ?_) (fun c2 => ?_)
    · have h := h.1 c2
      refine lv_aload_n C.1 C.2.1 dX11_back_25 rfl (lv_at hl 0 rfl) ?_
      refine lv_dup C.1 C.2.1 dX11_back_26 rfl ?_
      refine gx_getI C g fl_X11_54 dX11_back_27 sh_6 rfl ?_
      refine lv_iload_n C.1 C.2.1 dX11_back_30 rfl (lv_at hl 2 rfl) ?_
      refine lv_isub C.1 C.2.1 dX11_back_31 ?_
      refine gx_putI C g fi_X11_54 dX11_back_32 sh_6 rfl (fun H locs σ3 eσ3 g => ?_)
      have h := h σ3 eσ3
      refine lv_aload_n C.1 C.2.1 dX11_back_35 rfl (lv_at hl 0 rfl) ?_
      refine gx_getI C g fl_X11_54 dX11_back_36 sh_6 rfl ?_
      exact gx_iret C hr g dX11_back_39 h
    · have h := h.2 c2
      refine lv_iconst (v := -1) C.1 C.2.1 dX11_back_23 (by decide) ?_
      exact gx_iret C hr g dX11_back_24 h
theorem mX11_back {l : Launch} {E : EE} {base : Nat} (x1 : Int32) (σ : St) (Q : Int32 → St → Prop) (h : wX11_back x1 σ Q) : Met l yX11_back (wy yX11_back cX11_back 3 (some .int)) rmX11_back (va_Pc [.ref (ga E 0), .int x1] (fun U => SW E base σ U)) (QI E base Q) (rmX11_back).cells (rmX11_back).slots (fun q => base ≤ q) :=
  met_of (by decide) (Nat.le_of_ble_eq_true rfl) (fun p e s m args below meth c C hr g ls hl => tX11_back_e C hr x1 _ _ _ _ hl g h)
abbrev rmX11_read : Room := { frames := 305, cells := 1, slots := 7000, locals := 9112 }
def wX11_read (σ : St) (Q : Int32 → St → Prop) : Prop := wX0_open σ (fun (σ2 : St) => wX0_text σ2 (fun (r3 : Int32) (σ4 : St) => wX0_close r3 σ4 (fun (r5 : Int32) (σ6 : St) => Q r5 σ6)))
set_option maxHeartbeats 4000000 in
set_option maxRecDepth 100000 in
theorem tX11_read_e {p : Program} {l : Launch} {e : Env} {s : State} {m : MethodId} {args : Array Value} {below : List Frame} {meth : Method} {c : Code} {E : EE} {base : Nat} (C : Cx p E base s m args meth c cX11_read 3 RX11) (hr : meth.sig.returnType = (some .int)) {Q : Int32 → St → Prop} : ∀ (σ : St) (H : Heap) (locs : List Loc) (ls : Array Slot), lv_has ls 3 [(0, .ref (ga E 0))] → GW E base s σ H locs → wX11_read σ Q → W p l e rmX11_read s m args below meth c H locs 0 0 (MQ below (QI E base Q) args s 1 7000 (fun q => base ≤ q)) (F0 m 0 ls []) := by
  intro σ H locs ls hl g h
  refine lv_aload_n C.1 C.2.1 dX11_read_0 rfl (lv_at hl 0 rfl) ?_
  refine gx_getR C g fl_X11_10 dX11_read_1 sh_0 rfl (by decide) ?_
  refine gx_getR C g fl_X11_44 dX11_read_4 sh_1 rfl (by decide) ?_
  refine lv_astore_n (lv' := [(1, .ref (ga E 5)), (0, .ref (ga E 0))]) C.1 C.2.1 dX11_read_7 rfl hl (by decide) rfl (fun ls hl => ?_)
  refine lv_aload_n C.1 C.2.1 dX11_read_8 rfl (lv_at hl 0 rfl) ?_
  refine gx_callv g (gx_runV (k := 5) (rest := []) C g mb_X0_open ml_X11_63 rfl sh_5 (mX0_open _ _ h) ⟨Nat.le_of_ble_eq_true rfl, Nat.le_of_ble_eq_true rfl⟩ ⟨Nat.le_of_ble_eq_true rfl, Nat.le_of_ble_eq_true rfl⟩ rfl hl.1 rfl (Nat.le_of_ble_eq_true rfl) dX11_read_9) (fun σ2 H locs h g => ?_)
  refine lv_aload_n C.1 C.2.1 dX11_read_12 rfl (lv_at hl 0 rfl) ?_
  refine gx_calli0 g (gx_runV (k := 5) (rest := []) C g mb_X0_text ml_X11_66 rfl sh_5 (mX0_text _ _ h) ⟨Nat.le_of_ble_eq_true rfl, Nat.le_of_ble_eq_true rfl⟩ ⟨Nat.le_of_ble_eq_true rfl, Nat.le_of_ble_eq_true rfl⟩ rfl hl.1 rfl (Nat.le_of_ble_eq_true rfl) dX11_read_13) rfl rfl (fun r3 σ4 H locs h g => ?_)
  refine lv_istore_n (lv' := [(2, .int r3), (1, .ref (ga E 5)), (0, .ref (ga E 0))]) C.1 C.2.1 dX11_read_16 rfl hl (by decide) rfl (fun ls hl => ?_)
  refine lv_aload_n C.1 C.2.1 dX11_read_17 rfl (lv_at hl 1 rfl) ?_
  refine lv_iload_n C.1 C.2.1 dX11_read_18 rfl (lv_at hl 0 rfl) ?_
  refine gx_calli0 g (gx_runV (k := 5) (rest := []) C g mb_X0_close ml_X11_70 rfl sh_5 (mX0_close r3 _ _ h) ⟨Nat.le_of_ble_eq_true rfl, Nat.le_of_ble_eq_true rfl⟩ ⟨Nat.le_of_ble_eq_true rfl, Nat.le_of_ble_eq_true rfl⟩ rfl hl.1 rfl (Nat.le_of_ble_eq_true rfl) dX11_read_19) rfl rfl (fun r5 σ6 H locs h g => ?_)
  exact gx_iret C hr g dX11_read_22 h
theorem mX11_read {l : Launch} {E : EE} {base : Nat} (σ : St) (Q : Int32 → St → Prop) (h : wX11_read σ Q) : Met l yX11_read (wy yX11_read cX11_read 3 (some .int)) rmX11_read (va_Pc [.ref (ga E 0)] (fun U => SW E base σ U)) (QI E base Q) (rmX11_read).cells (rmX11_read).slots (fun q => base ≤ q) :=
  met_of (by decide) (Nat.le_of_ble_eq_true rfl) (fun p e s m args below meth c C hr g ls hl => tX11_read_e C hr  _ _ _ _ hl g h)
abbrev rmX11_place : Room := { frames := 0, cells := 0, slots := 0, locals := 0 }
def wX11_place (σ : St) (Q : Int32 → St → Prop) : Prop := Q (gv σ 5 2) σ
set_option maxHeartbeats 4000000 in
set_option maxRecDepth 100000 in
theorem tX11_place_e {p : Program} {l : Launch} {e : Env} {s : State} {m : MethodId} {args : Array Value} {below : List Frame} {meth : Method} {c : Code} {E : EE} {base : Nat} (C : Cx p E base s m args meth c cX11_place 1 RX11) (hr : meth.sig.returnType = (some .int)) {Q : Int32 → St → Prop} : ∀ (σ : St) (H : Heap) (locs : List Loc) (ls : Array Slot), lv_has ls 1 [(0, .ref (ga E 0))] → GW E base s σ H locs → wX11_place σ Q → W p l e rmX11_place s m args below meth c H locs 0 0 (MQ below (QI E base Q) args s 0 0 (fun q => base ≤ q)) (F0 m 0 ls []) := by
  intro σ H locs ls hl g h
  refine lv_aload_n C.1 C.2.1 dX11_place_0 rfl (lv_at hl 0 rfl) ?_
  refine gx_getR C g fl_X11_10 dX11_place_1 sh_0 rfl (by decide) ?_
  refine gx_getR C g fl_X11_44 dX11_place_4 sh_1 rfl (by decide) ?_
  refine gx_getI C g fl_X11_74 dX11_place_7 sh_5 rfl ?_
  exact gx_iret C hr g dX11_place_10 h
theorem mX11_place {l : Launch} {E : EE} {base : Nat} (σ : St) (Q : Int32 → St → Prop) (h : wX11_place σ Q) : Met l yX11_place (wy yX11_place cX11_place 1 (some .int)) rmX11_place (va_Pc [.ref (ga E 0)] (fun U => SW E base σ U)) (QI E base Q) (rmX11_place).cells (rmX11_place).slots (fun q => base ≤ q) :=
  met_of (by decide) (Nat.le_of_ble_eq_true rfl) (fun p e s m args below meth c C hr g ls hl => tX11_place_e C hr  _ _ _ _ hl g h)
abbrev rmX11_mill : Room := { frames := 1, cells := 0, slots := 0, locals := 26 }
def wX11_mill (x1 : Int32) (x2 : Int32) (x3 : Int32) (x4 : Int32) (σ : St) (Q : Int32 → St → Prop) : Prop := (((gv σ 0 5) = 0 → wX3_add x1 x2 x3 x4 σ (fun (r2 : Int32) (σ3 : St) => Q r2 σ3)) ∧ (¬ ((gv σ 0 5) = 0) → Q (-1 : Int32) σ))
set_option maxHeartbeats 4000000 in
set_option maxRecDepth 100000 in
theorem tX11_mill_e {p : Program} {l : Launch} {e : Env} {s : State} {m : MethodId} {args : Array Value} {below : List Frame} {meth : Method} {c : Code} {E : EE} {base : Nat} (C : Cx p E base s m args meth c cX11_mill 5 RX11) (hr : meth.sig.returnType = (some .int)) {Q : Int32 → St → Prop} : ∀ (x1 : Int32) (x2 : Int32) (x3 : Int32) (x4 : Int32) (σ : St) (H : Heap) (locs : List Loc) (ls : Array Slot), lv_has ls 5 [(0, .ref (ga E 0)), (1, .int x1), (2, .int x2), (3, .int x3), (4, .int x4)] → GW E base s σ H locs → wX11_mill x1 x2 x3 x4 σ Q → W p l e rmX11_mill s m args below meth c H locs 0 0 (MQ below (QI E base Q) args s 0 0 (fun q => base ≤ q)) (F0 m 0 ls []) := by
  intro x1 x2 x3 x4 σ H locs ls hl g h
  refine lv_aload_n C.1 C.2.1 dX11_mill_0 rfl (lv_at hl 0 rfl) ?_
  refine gx_getI C g fl_X11_40 dX11_mill_1 sh_0 rfl ?_
  refine lv_if_ne (tgt := 25) C.1 C.2.1 dX11_mill_4 (by decide) (fun c1 => ?_) (fun c1 => ?_)
  · have h := h.2 c1
    refine lv_iconst (v := -1) C.1 C.2.1 dX11_mill_25 (by decide) ?_
    exact gx_iret C hr g dX11_mill_26 h
  · have h := h.1 c1
    refine lv_aload_n C.1 C.2.1 dX11_mill_7 rfl (lv_at hl 0 rfl) ?_
    refine gx_getR C g fl_X11_10 dX11_mill_8 sh_0 rfl (by decide) ?_
    refine gx_getR C g fl_X11_77 dX11_mill_11 sh_1 rfl (by decide) ?_
    refine lv_iload_n C.1 C.2.1 dX11_mill_14 rfl (lv_at hl 1 rfl) ?_
    refine lv_iload_n C.1 C.2.1 dX11_mill_15 rfl (lv_at hl 2 rfl) ?_
    refine lv_iload_n C.1 C.2.1 dX11_mill_16 rfl (lv_at hl 3 rfl) ?_
    refine lv_iload C.1 C.2.1 dX11_mill_17 (lv_at hl 4 rfl) ?_
    refine gx_calli0 g (gx_runV (k := 2) (rest := []) C g mb_X3_add ml_X11_81 rfl sh_2 (mX3_add x1 x2 x3 x4 _ _ h) ⟨Nat.le_of_ble_eq_true rfl, Nat.le_of_ble_eq_true rfl⟩ ⟨Nat.le_refl _, Nat.le_refl _⟩ rfl hl.1 rfl (Nat.le_of_ble_eq_true rfl) dX11_mill_19) rfl rfl (fun r2 σ3 H locs h g => ?_)
    refine lv_goto (tgt := 26) C.1 C.2.1 dX11_mill_22 (by decide) ?_
    exact gx_iret C hr g dX11_mill_26 h
theorem mX11_mill {l : Launch} {E : EE} {base : Nat} (x1 : Int32) (x2 : Int32) (x3 : Int32) (x4 : Int32) (σ : St) (Q : Int32 → St → Prop) (h : wX11_mill x1 x2 x3 x4 σ Q) : Met l yX11_mill (wy yX11_mill cX11_mill 5 (some .int)) rmX11_mill (va_Pc [.ref (ga E 0), .int x1, .int x2, .int x3, .int x4] (fun U => SW E base σ U)) (QI E base Q) (rmX11_mill).cells (rmX11_mill).slots (fun q => base ≤ q) :=
  met_of (by decide) (Nat.le_of_ble_eq_true rfl) (fun p e s m args below meth c C hr g ls hl => tX11_mill_e C hr x1 x2 x3 x4 _ _ _ _ hl g h)
abbrev rmX11_spring : Room := { frames := 0, cells := 0, slots := 0, locals := 0 }
def wX11_spring (x1 : Int32) (σ : St) (Q : Int32 → St → Prop) : Prop := ((x1 < 0 → Q (0 : Int32) σ) ∧ (¬ (x1 < 0) → ((x1 ≤ (100 : Int32) → ∀ σ3 : St, σ3 = pv σ 2 5 x1 → Q (1 : Int32) σ3) ∧ (¬ (x1 ≤ (100 : Int32)) → Q (0 : Int32) σ))))
set_option maxHeartbeats 4000000 in
set_option maxRecDepth 100000 in
theorem tX11_spring_e {p : Program} {l : Launch} {e : Env} {s : State} {m : MethodId} {args : Array Value} {below : List Frame} {meth : Method} {c : Code} {E : EE} {base : Nat} (C : Cx p E base s m args meth c cX11_spring 2 RX11) (hr : meth.sig.returnType = (some .boolean)) {Q : Int32 → St → Prop} : ∀ (x1 : Int32) (σ : St) (H : Heap) (locs : List Loc) (ls : Array Slot), lv_has ls 2 [(0, .ref (ga E 0)), (1, .int x1)] → GW E base s σ H locs → wX11_spring x1 σ Q → W p l e rmX11_spring s m args below meth c H locs 0 0 (MQ below (QI E base Q) args s 0 0 (fun q => base ≤ q)) (F0 m 0 ls []) := by
  intro x1 σ H locs ls hl g h
  refine lv_iload_n C.1 C.2.1 dX11_spring_0 rfl (lv_at hl 1 rfl) ?_
  refine lv_if_lt (tgt := 10) C.1 C.2.1 dX11_spring_1 (by decide) (fun c1 => ?_) (fun c1 => ?_)
  · have h := h.1 c1
    refine lv_iconst (v := 0) C.1 C.2.1 dX11_spring_10 (by decide) ?_
    exact gx_zret C hr g dX11_spring_11 (by decide) h
  · have h := h.2 c1
    refine lv_iload_n C.1 C.2.1 dX11_spring_4 rfl (lv_at hl 1 rfl) ?_
    refine lv_bipush (v := 100) C.1 C.2.1 dX11_spring_5 (by decide) ?_
    refine lv_icmp_le (tgt := 12) C.1 C.2.1 dX11_spring_7 (by decide) (fun c2 => ?_) (fun c2 => ?_)
    · have h := h.1 c2
      refine lv_aload_n C.1 C.2.1 dX11_spring_12 rfl (lv_at hl 0 rfl) ?_
      refine gx_getR C g fl_X11_10 dX11_spring_13 sh_0 rfl (by decide) ?_
      refine gx_getR C g fl_X11_77 dX11_spring_16 sh_1 rfl (by decide) ?_
      refine lv_iload_n C.1 C.2.1 dX11_spring_19 rfl (lv_at hl 1 rfl) ?_
      refine gx_putI C g fi_X11_87 dX11_spring_20 sh_2 rfl (fun H locs σ3 eσ3 g => ?_)
      have h := h σ3 eσ3
      refine lv_iconst (v := 1) C.1 C.2.1 dX11_spring_23 (by decide) ?_
      exact gx_zret C hr g dX11_spring_24 (by decide) h
    · have h := h.2 c2
      refine lv_iconst (v := 0) C.1 C.2.1 dX11_spring_10 (by decide) ?_
      exact gx_zret C hr g dX11_spring_11 (by decide) h
theorem mX11_spring {l : Launch} {E : EE} {base : Nat} (x1 : Int32) (σ : St) (Q : Int32 → St → Prop) (h : wX11_spring x1 σ Q) : Met l yX11_spring (wy yX11_spring cX11_spring 2 (some .boolean)) rmX11_spring (va_Pc [.ref (ga E 0), .int x1] (fun U => SW E base σ U)) (QI E base Q) (rmX11_spring).cells (rmX11_spring).slots (fun q => base ≤ q) :=
  met_of (by decide) (Nat.le_of_ble_eq_true rfl) (fun p e s m args below meth c C hr g ls hl => tX11_spring_e C hr x1 _ _ _ _ hl g h)
abbrev rmX11_factors : Room := { frames := 2, cells := 0, slots := 0, locals := 44 }
def wX11_factors (x1 : Int32) (σ : St) (Q : Int32 → St → Prop) : Prop := wX3_makeFactors x1 σ (fun (r1 : Int32) (σ2 : St) => narrow .boolean (.int r1) = .int r1 ∧ Q r1 σ2)
set_option maxHeartbeats 4000000 in
set_option maxRecDepth 100000 in
theorem tX11_factors_e {p : Program} {l : Launch} {e : Env} {s : State} {m : MethodId} {args : Array Value} {below : List Frame} {meth : Method} {c : Code} {E : EE} {base : Nat} (C : Cx p E base s m args meth c cX11_factors 2 RX11) (hr : meth.sig.returnType = (some .boolean)) {Q : Int32 → St → Prop} : ∀ (x1 : Int32) (σ : St) (H : Heap) (locs : List Loc) (ls : Array Slot), lv_has ls 2 [(0, .ref (ga E 0)), (1, .int x1)] → GW E base s σ H locs → wX11_factors x1 σ Q → W p l e rmX11_factors s m args below meth c H locs 0 0 (MQ below (QI E base Q) args s 0 0 (fun q => base ≤ q)) (F0 m 0 ls []) := by
  intro x1 σ H locs ls hl g h
  refine lv_aload_n C.1 C.2.1 dX11_factors_0 rfl (lv_at hl 0 rfl) ?_
  refine gx_getR C g fl_X11_10 dX11_factors_1 sh_0 rfl (by decide) ?_
  refine gx_getR C g fl_X11_77 dX11_factors_4 sh_1 rfl (by decide) ?_
  refine lv_iload_n C.1 C.2.1 dX11_factors_7 rfl (lv_at hl 1 rfl) ?_
  refine gx_calli0 g (gx_runV (k := 2) (rest := []) C g mb_X3_makeFactors ml_X11_90 rfl sh_2 (mX3_makeFactors x1 _ _ h) ⟨Nat.le_of_ble_eq_true rfl, Nat.le_of_ble_eq_true rfl⟩ ⟨Nat.le_refl _, Nat.le_refl _⟩ rfl hl.1 rfl (Nat.le_of_ble_eq_true rfl) dX11_factors_8) rfl rfl (fun r1 σ2 H locs h g => ?_)
  exact gx_zret C hr g dX11_factors_11 h.1 h.2
theorem mX11_factors {l : Launch} {E : EE} {base : Nat} (x1 : Int32) (σ : St) (Q : Int32 → St → Prop) (h : wX11_factors x1 σ Q) : Met l yX11_factors (wy yX11_factors cX11_factors 2 (some .boolean)) rmX11_factors (va_Pc [.ref (ga E 0), .int x1] (fun U => SW E base σ U)) (QI E base Q) (rmX11_factors).cells (rmX11_factors).slots (fun q => base ≤ q) :=
  met_of (by decide) (Nat.le_of_ble_eq_true rfl) (fun p e s m args below meth c C hr g ls hl => tX11_factors_e C hr x1 _ _ _ _ hl g h)
abbrev rmX11_factor : Room := { frames := 1, cells := 0, slots := 0, locals := 22 }
def wX11_factor (x1 : Int32) (x2 : Int32) (σ : St) (Q : Int32 → St → Prop) : Prop := wX3_setFactor x1 x2 σ (fun (r1 : Int32) (σ2 : St) => narrow .boolean (.int r1) = .int r1 ∧ Q r1 σ2)
set_option maxHeartbeats 4000000 in
set_option maxRecDepth 100000 in
theorem tX11_factor_e {p : Program} {l : Launch} {e : Env} {s : State} {m : MethodId} {args : Array Value} {below : List Frame} {meth : Method} {c : Code} {E : EE} {base : Nat} (C : Cx p E base s m args meth c cX11_factor 3 RX11) (hr : meth.sig.returnType = (some .boolean)) {Q : Int32 → St → Prop} : ∀ (x1 : Int32) (x2 : Int32) (σ : St) (H : Heap) (locs : List Loc) (ls : Array Slot), lv_has ls 3 [(0, .ref (ga E 0)), (1, .int x1), (2, .int x2)] → GW E base s σ H locs → wX11_factor x1 x2 σ Q → W p l e rmX11_factor s m args below meth c H locs 0 0 (MQ below (QI E base Q) args s 0 0 (fun q => base ≤ q)) (F0 m 0 ls []) := by
  intro x1 x2 σ H locs ls hl g h
  refine lv_aload_n C.1 C.2.1 dX11_factor_0 rfl (lv_at hl 0 rfl) ?_
  refine gx_getR C g fl_X11_10 dX11_factor_1 sh_0 rfl (by decide) ?_
  refine gx_getR C g fl_X11_77 dX11_factor_4 sh_1 rfl (by decide) ?_
  refine lv_iload_n C.1 C.2.1 dX11_factor_7 rfl (lv_at hl 1 rfl) ?_
  refine lv_iload_n C.1 C.2.1 dX11_factor_8 rfl (lv_at hl 2 rfl) ?_
  refine gx_calli0 g (gx_runV (k := 2) (rest := []) C g mb_X3_setFactor ml_X11_94 rfl sh_2 (mX3_setFactor x1 x2 _ _ h) ⟨Nat.le_of_ble_eq_true rfl, Nat.le_of_ble_eq_true rfl⟩ ⟨Nat.le_refl _, Nat.le_refl _⟩ rfl hl.1 rfl (Nat.le_of_ble_eq_true rfl) dX11_factor_9) rfl rfl (fun r1 σ2 H locs h g => ?_)
  exact gx_zret C hr g dX11_factor_12 h.1 h.2
theorem mX11_factor {l : Launch} {E : EE} {base : Nat} (x1 : Int32) (x2 : Int32) (σ : St) (Q : Int32 → St → Prop) (h : wX11_factor x1 x2 σ Q) : Met l yX11_factor (wy yX11_factor cX11_factor 3 (some .boolean)) rmX11_factor (va_Pc [.ref (ga E 0), .int x1, .int x2] (fun U => SW E base σ U)) (QI E base Q) (rmX11_factor).cells (rmX11_factor).slots (fun q => base ≤ q) :=
  met_of (by decide) (Nat.le_of_ble_eq_true rfl) (fun p e s m args below meth c C hr g ls hl => tX11_factor_e C hr x1 x2 _ _ _ _ hl g h)
abbrev rmX11_clock : Room := { frames := 0, cells := 0, slots := 0, locals := 0 }
def wX11_clock (x1 : Int32) (σ : St) (Q : Int32 → St → Prop) : Prop := ((x1 < (gv σ 0 5) → Q (0 : Int32) σ) ∧ (¬ (x1 < (gv σ 0 5)) → ((x1 < (240 : Int32) → ∀ σ3 : St, σ3 = pv σ 0 5 x1 → Q (1 : Int32) σ3) ∧ (¬ (x1 < (240 : Int32)) → Q (0 : Int32) σ))))
set_option maxHeartbeats 4000000 in
set_option maxRecDepth 100000 in
theorem tX11_clock_e {p : Program} {l : Launch} {e : Env} {s : State} {m : MethodId} {args : Array Value} {below : List Frame} {meth : Method} {c : Code} {E : EE} {base : Nat} (C : Cx p E base s m args meth c cX11_clock 2 RX11) (hr : meth.sig.returnType = (some .boolean)) {Q : Int32 → St → Prop} : ∀ (x1 : Int32) (σ : St) (H : Heap) (locs : List Loc) (ls : Array Slot), lv_has ls 2 [(0, .ref (ga E 0)), (1, .int x1)] → GW E base s σ H locs → wX11_clock x1 σ Q → W p l e rmX11_clock s m args below meth c H locs 0 0 (MQ below (QI E base Q) args s 0 0 (fun q => base ≤ q)) (F0 m 0 ls []) := by
  intro x1 σ H locs ls hl g h
  refine lv_iload_n C.1 C.2.1 dX11_clock_0 rfl (lv_at hl 1 rfl) ?_
  refine lv_aload_n C.1 C.2.1 dX11_clock_1 rfl (lv_at hl 0 rfl) ?_
  refine gx_getI C g fl_X11_40 dX11_clock_2 sh_0 rfl ?_
  refine lv_icmp_lt (tgt := 15) C.1 C.2.1 dX11_clock_5 (by decide) (fun c1 => ?_) (fun c1 => ?_)
  · have h := h.1 c1
    refine lv_iconst (v := 0) C.1 C.2.1 dX11_clock_15 (by decide) ?_
    exact gx_zret C hr g dX11_clock_16 (by decide) h
  · have h := h.2 c1
    refine lv_iload_n C.1 C.2.1 dX11_clock_8 rfl (lv_at hl 1 rfl) ?_
    refine lv_sipush (v := 240) C.1 C.2.1 dX11_clock_9 (by decide) ?_
    refine lv_icmp_lt (tgt := 17) C.1 C.2.1 dX11_clock_12 (by decide) (fun c2 => ?_) (fun c2 => ?_)
    · have h := h.1 c2
      refine lv_aload_n C.1 C.2.1 dX11_clock_17 rfl (lv_at hl 0 rfl) ?_
      refine lv_iload_n C.1 C.2.1 dX11_clock_18 rfl (lv_at hl 1 rfl) ?_
      refine gx_putI C g fi_X11_40 dX11_clock_19 sh_0 rfl (fun H locs σ3 eσ3 g => ?_)
      have h := h σ3 eσ3
      refine lv_iconst (v := 1) C.1 C.2.1 dX11_clock_22 (by decide) ?_
      exact gx_zret C hr g dX11_clock_23 (by decide) h
    · have h := h.2 c2
      refine lv_iconst (v := 0) C.1 C.2.1 dX11_clock_15 (by decide) ?_
      exact gx_zret C hr g dX11_clock_16 (by decide) h
theorem mX11_clock {l : Launch} {E : EE} {base : Nat} (x1 : Int32) (σ : St) (Q : Int32 → St → Prop) (h : wX11_clock x1 σ Q) : Met l yX11_clock (wy yX11_clock cX11_clock 2 (some .boolean)) rmX11_clock (va_Pc [.ref (ga E 0), .int x1] (fun U => SW E base σ U)) (QI E base Q) (rmX11_clock).cells (rmX11_clock).slots (fun q => base ≤ q) :=
  met_of (by decide) (Nat.le_of_ble_eq_true rfl) (fun p e s m args below meth c C hr g ls hl => tX11_clock_e C hr x1 _ _ _ _ hl g h)
abbrev rmX11_isHour : Room := { frames := 0, cells := 0, slots := 0, locals := 0 }
def wX11_isHour (x1 : Int32) (σ : St) (Q : Int32 → St → Prop) : Prop := ((x1 < 0 → Q (0 : Int32) σ) ∧ (¬ (x1 < 0) → (((240 : Int32) ≤ x1 → Q (0 : Int32) σ) ∧ (¬ ((240 : Int32) ≤ x1) → Q (1 : Int32) σ))))
set_option maxHeartbeats 4000000 in
set_option maxRecDepth 100000 in
theorem tX11_isHour_e {p : Program} {l : Launch} {e : Env} {s : State} {m : MethodId} {args : Array Value} {below : List Frame} {meth : Method} {c : Code} {E : EE} {base : Nat} (C : Cx p E base s m args meth c cX11_isHour 2 RX11) (hr : meth.sig.returnType = (some .boolean)) {Q : Int32 → St → Prop} : ∀ (x1 : Int32) (σ : St) (H : Heap) (locs : List Loc) (ls : Array Slot), lv_has ls 2 [(0, .ref (ga E 0)), (1, .int x1)] → GW E base s σ H locs → wX11_isHour x1 σ Q → W p l e rmX11_isHour s m args below meth c H locs 0 0 (MQ below (QI E base Q) args s 0 0 (fun q => base ≤ q)) (F0 m 0 ls []) := by
  intro x1 σ H locs ls hl g h
  refine lv_iload_n C.1 C.2.1 dX11_isHour_0 rfl (lv_at hl 1 rfl) ?_
  refine lv_if_lt (tgt := 15) C.1 C.2.1 dX11_isHour_1 (by decide) (fun c1 => ?_) (fun c1 => ?_)
  · have h := h.1 c1
    refine lv_iconst (v := 0) C.1 C.2.1 dX11_isHour_15 (by decide) ?_
    exact gx_zret C hr g dX11_isHour_16 (by decide) h
  · have h := h.2 c1
    refine lv_iload_n C.1 C.2.1 dX11_isHour_4 rfl (lv_at hl 1 rfl) ?_
    refine lv_sipush (v := 240) C.1 C.2.1 dX11_isHour_5 (by decide) ?_
    refine lv_icmp_ge (tgt := 15) C.1 C.2.1 dX11_isHour_8 (by decide) (fun c2 => ?_) (fun c2 => ?_)
    · have h := h.1 c2
      refine lv_iconst (v := 0) C.1 C.2.1 dX11_isHour_15 (by decide) ?_
      exact gx_zret C hr g dX11_isHour_16 (by decide) h
    · have h := h.2 c2
      refine lv_iconst (v := 1) C.1 C.2.1 dX11_isHour_11 (by decide) ?_
      refine lv_goto (tgt := 16) C.1 C.2.1 dX11_isHour_12 (by decide) ?_
      exact gx_zret C hr g dX11_isHour_16 (by decide) h
theorem mX11_isHour {l : Launch} {E : EE} {base : Nat} (x1 : Int32) (σ : St) (Q : Int32 → St → Prop) (h : wX11_isHour x1 σ Q) : Met l yX11_isHour (wy yX11_isHour cX11_isHour 2 (some .boolean)) rmX11_isHour (va_Pc [.ref (ga E 0), .int x1] (fun U => SW E base σ U)) (QI E base Q) (rmX11_isHour).cells (rmX11_isHour).slots (fun q => base ≤ q) :=
  met_of (by decide) (Nat.le_of_ble_eq_true rfl) (fun p e s m args below meth c C hr g ls hl => tX11_isHour_e C hr x1 _ _ _ _ hl g h)
abbrev rmX11_isMill : Room := { frames := 0, cells := 0, slots := 0, locals := 0 }
def wX11_isMill (x1 : Int32) (σ : St) (Q : Int32 → St → Prop) : Prop := ((x1 < 0 → Q (0 : Int32) σ) ∧ (¬ (x1 < 0) → (((gv σ 2 4) ≤ x1 → Q (0 : Int32) σ) ∧ (¬ ((gv σ 2 4) ≤ x1) → Q (1 : Int32) σ))))
set_option maxHeartbeats 4000000 in
set_option maxRecDepth 100000 in
theorem tX11_isMill_e {p : Program} {l : Launch} {e : Env} {s : State} {m : MethodId} {args : Array Value} {below : List Frame} {meth : Method} {c : Code} {E : EE} {base : Nat} (C : Cx p E base s m args meth c cX11_isMill 2 RX11) (hr : meth.sig.returnType = (some .boolean)) {Q : Int32 → St → Prop} : ∀ (x1 : Int32) (σ : St) (H : Heap) (locs : List Loc) (ls : Array Slot), lv_has ls 2 [(0, .ref (ga E 0)), (1, .int x1)] → GW E base s σ H locs → wX11_isMill x1 σ Q → W p l e rmX11_isMill s m args below meth c H locs 0 0 (MQ below (QI E base Q) args s 0 0 (fun q => base ≤ q)) (F0 m 0 ls []) := by
  intro x1 σ H locs ls hl g h
  refine lv_iload_n C.1 C.2.1 dX11_isMill_0 rfl (lv_at hl 1 rfl) ?_
  refine lv_if_lt (tgt := 22) C.1 C.2.1 dX11_isMill_1 (by decide) (fun c1 => ?_) (fun c1 => ?_)
  · have h := h.1 c1
    refine lv_iconst (v := 0) C.1 C.2.1 dX11_isMill_22 (by decide) ?_
    exact gx_zret C hr g dX11_isMill_23 (by decide) h
  · have h := h.2 c1
    refine lv_iload_n C.1 C.2.1 dX11_isMill_4 rfl (lv_at hl 1 rfl) ?_
    refine lv_aload_n C.1 C.2.1 dX11_isMill_5 rfl (lv_at hl 0 rfl) ?_
    refine gx_getR C g fl_X11_10 dX11_isMill_6 sh_0 rfl (by decide) ?_
    refine gx_getR C g fl_X11_77 dX11_isMill_9 sh_1 rfl (by decide) ?_
    refine gx_getI C g fl_X11_146 dX11_isMill_12 sh_2 rfl ?_
    refine lv_icmp_ge (tgt := 22) C.1 C.2.1 dX11_isMill_15 (by decide) (fun c2 => ?_) (fun c2 => ?_)
    · have h := h.1 c2
      refine lv_iconst (v := 0) C.1 C.2.1 dX11_isMill_22 (by decide) ?_
      exact gx_zret C hr g dX11_isMill_23 (by decide) h
    · have h := h.2 c2
      refine lv_iconst (v := 1) C.1 C.2.1 dX11_isMill_18 (by decide) ?_
      refine lv_goto (tgt := 23) C.1 C.2.1 dX11_isMill_19 (by decide) ?_
      exact gx_zret C hr g dX11_isMill_23 (by decide) h
theorem mX11_isMill {l : Launch} {E : EE} {base : Nat} (x1 : Int32) (σ : St) (Q : Int32 → St → Prop) (h : wX11_isMill x1 σ Q) : Met l yX11_isMill (wy yX11_isMill cX11_isMill 2 (some .boolean)) rmX11_isMill (va_Pc [.ref (ga E 0), .int x1] (fun U => SW E base σ U)) (QI E base Q) (rmX11_isMill).cells (rmX11_isMill).slots (fun q => base ≤ q) :=
  met_of (by decide) (Nat.le_of_ble_eq_true rfl) (fun p e s m args below meth c C hr g ls hl => tX11_isMill_e C hr x1 _ _ _ _ hl g h)
abbrev rmX11_rain : Room := { frames := 1, cells := 0, slots := 0, locals := 23 }
def wX11_rain (x1 : Int32) (x2 : Int32) (x3 : Int32) (σ : St) (Q : Int32 → St → Prop) : Prop := wX11_isHour x1 σ (fun (r1 : Int32) (σ2 : St) => ((r1 = 0 → Q (-1 : Int32) σ2) ∧ (¬ (r1 = 0) → wX11_isMill x2 σ2 (fun (r4 : Int32) (σ5 : St) => ((r4 = 0 → Q (-1 : Int32) σ5) ∧ (¬ (r4 = 0) → ((x3 < 0 → Q (-1 : Int32) σ5) ∧ (¬ (x3 < 0) → ((x3 ≤ (1000 : Int32) → wX6_add x1 x2 x3 σ5 (fun (r9 : Int32) (σ10 : St) => Q r9 σ10)) ∧ (¬ (x3 ≤ (1000 : Int32)) → Q (-1 : Int32) σ5))))))))))
set_option maxHeartbeats 4000000 in
set_option maxRecDepth 100000 in
theorem tX11_rain_e {p : Program} {l : Launch} {e : Env} {s : State} {m : MethodId} {args : Array Value} {below : List Frame} {meth : Method} {c : Code} {E : EE} {base : Nat} (C : Cx p E base s m args meth c cX11_rain 4 RX11) (hr : meth.sig.returnType = (some .int)) {Q : Int32 → St → Prop} : ∀ (x1 : Int32) (x2 : Int32) (x3 : Int32) (σ : St) (H : Heap) (locs : List Loc) (ls : Array Slot), lv_has ls 4 [(0, .ref (ga E 0)), (1, .int x1), (2, .int x2), (3, .int x3)] → GW E base s σ H locs → wX11_rain x1 x2 x3 σ Q → W p l e rmX11_rain s m args below meth c H locs 0 0 (MQ below (QI E base Q) args s 0 0 (fun q => base ≤ q)) (F0 m 0 ls []) := by
  intro x1 x2 x3 σ H locs ls hl g h
  refine lv_aload_n C.1 C.2.1 dX11_rain_0 rfl (lv_at hl 0 rfl) ?_
  refine lv_iload_n C.1 C.2.1 dX11_rain_1 rfl (lv_at hl 1 rfl) ?_
  refine gx_calli0 g (gx_runV (k := 0) (rest := []) C g mb_X11_isHour ml_X11_98 rfl sh_0 (mX11_isHour x1 _ _ h) ⟨Nat.le_of_ble_eq_true rfl, Nat.le_of_ble_eq_true rfl⟩ ⟨Nat.le_refl _, Nat.le_refl _⟩ rfl hl.1 rfl (Nat.le_of_ble_eq_true rfl) dX11_rain_2) rfl rfl (fun r1 σ2 H locs h g => ?_)
  refine lv_if_eq (tgt := 27) C.1 C.2.1 dX11_rain_5 (by decide) (fun c3 => ?_) (fun c3 => ?_)
  · have h := h.1 c3
    refine lv_iconst (v := -1) C.1 C.2.1 dX11_rain_27 (by decide) ?_
    exact gx_iret C hr g dX11_rain_28 h
  · have h := h.2 c3
    refine lv_aload_n C.1 C.2.1 dX11_rain_8 rfl (lv_at hl 0 rfl) ?_
    refine lv_iload_n C.1 C.2.1 dX11_rain_9 rfl (lv_at hl 2 rfl) ?_
    refine gx_calli0 g (gx_runV (k := 0) (rest := []) C g mb_X11_isMill ml_X11_101 rfl sh_0 (mX11_isMill x2 _ _ h) ⟨Nat.le_of_ble_eq_true rfl, Nat.le_of_ble_eq_true rfl⟩ ⟨Nat.le_refl _, Nat.le_refl _⟩ rfl hl.1 rfl (Nat.le_of_ble_eq_true rfl) dX11_rain_10) rfl rfl (fun r4 σ5 H locs h g => ?_)
    refine lv_if_eq (tgt := 27) C.1 C.2.1 dX11_rain_13 (by decide) (fun c6 => ?_) (fun c6 => ?_)
    · have h := h.1 c6
      refine lv_iconst (v := -1) C.1 C.2.1 dX11_rain_27 (by decide) ?_
      exact gx_iret C hr g dX11_rain_28 h
    · have h := h.2 c6
      refine lv_iload_n C.1 C.2.1 dX11_rain_16 rfl (lv_at hl 3 rfl) ?_
      refine lv_if_lt (tgt := 27) C.1 C.2.1 dX11_rain_17 (by decide) (fun c7 => ?_) (fun c7 => ?_)
      · have h := h.1 c7
        refine lv_iconst (v := -1) C.1 C.2.1 dX11_rain_27 (by decide) ?_
        exact gx_iret C hr g dX11_rain_28 h
      · have h := h.2 c7
        refine lv_iload_n C.1 C.2.1 dX11_rain_20 rfl (lv_at hl 3 rfl) ?_
        refine lv_sipush (v := 1000) C.1 C.2.1 dX11_rain_21 (by decide) ?_
        refine lv_icmp_le (tgt := 29) C.1 C.2.1 dX11_rain_24 (by decide) (fun c8 => ?_) (fun c8 => ?_)
        · have h := h.1 c8
          refine lv_aload_n C.1 C.2.1 dX11_rain_29 rfl (lv_at hl 0 rfl) ?_
          refine gx_getR C g fl_X11_10 dX11_rain_30 sh_0 rfl (by decide) ?_
          refine gx_getR C g fl_X11_104 dX11_rain_33 sh_1 rfl (by decide) ?_
          refine lv_iload_n C.1 C.2.1 dX11_rain_36 rfl (lv_at hl 1 rfl) ?_
          refine lv_iload_n C.1 C.2.1 dX11_rain_37 rfl (lv_at hl 2 rfl) ?_
          refine lv_iload_n C.1 C.2.1 dX11_rain_38 rfl (lv_at hl 3 rfl) ?_
          refine gx_calli0 g (gx_runV (k := 3) (rest := []) C g mb_X6_add ml_X11_108 rfl sh_3 (mX6_add x1 x2 x3 _ _ h) ⟨Nat.le_of_ble_eq_true rfl, Nat.le_of_ble_eq_true rfl⟩ ⟨Nat.le_refl _, Nat.le_refl _⟩ rfl hl.1 rfl (Nat.le_of_ble_eq_true rfl) dX11_rain_39) rfl rfl (fun r9 σ10 H locs h g => ?_)
          exact gx_iret C hr g dX11_rain_42 h
        · have h := h.2 c8
          refine lv_iconst (v := -1) C.1 C.2.1 dX11_rain_27 (by decide) ?_
          exact gx_iret C hr g dX11_rain_28 h
theorem mX11_rain {l : Launch} {E : EE} {base : Nat} (x1 : Int32) (x2 : Int32) (x3 : Int32) (σ : St) (Q : Int32 → St → Prop) (h : wX11_rain x1 x2 x3 σ Q) : Met l yX11_rain (wy yX11_rain cX11_rain 4 (some .int)) rmX11_rain (va_Pc [.ref (ga E 0), .int x1, .int x2, .int x3] (fun U => SW E base σ U)) (QI E base Q) (rmX11_rain).cells (rmX11_rain).slots (fun q => base ≤ q) :=
  met_of (by decide) (Nat.le_of_ble_eq_true rfl) (fun p e s m args below meth c C hr g ls hl => tX11_rain_e C hr x1 x2 x3 _ _ _ _ hl g h)
abbrev rmX11_order : Room := { frames := 1, cells := 0, slots := 0, locals := 24 }
def wX11_order (x1 : Int32) (x2 : Int32) (x3 : Int32) (σ : St) (Q : Int32 → St → Prop) : Prop := wX11_isMill x1 σ (fun (r1 : Int32) (σ2 : St) => ((r1 = 0 → Q (-1 : Int32) σ2) ∧ (¬ (r1 = 0) → ((x3 < 0 → Q (-1 : Int32) σ2) ∧ (¬ (x3 < 0) → wX3_mostSetting x1 x2 σ2 (fun (r5 : Int32) (σ6 : St) => ((x3 ≤ r5 → wX4_add (gv σ6 0 5) x1 x2 x3 σ6 (fun (r8 : Int32) (σ9 : St) => Q r8 σ9)) ∧ (¬ (x3 ≤ r5) → Q (-1 : Int32) σ6))))))))
set_option maxHeartbeats 4000000 in
set_option maxRecDepth 100000 in
theorem tX11_order_e {p : Program} {l : Launch} {e : Env} {s : State} {m : MethodId} {args : Array Value} {below : List Frame} {meth : Method} {c : Code} {E : EE} {base : Nat} (C : Cx p E base s m args meth c cX11_order 4 RX11) (hr : meth.sig.returnType = (some .int)) {Q : Int32 → St → Prop} : ∀ (x1 : Int32) (x2 : Int32) (x3 : Int32) (σ : St) (H : Heap) (locs : List Loc) (ls : Array Slot), lv_has ls 4 [(0, .ref (ga E 0)), (1, .int x1), (2, .int x2), (3, .int x3)] → GW E base s σ H locs → wX11_order x1 x2 x3 σ Q → W p l e rmX11_order s m args below meth c H locs 0 0 (MQ below (QI E base Q) args s 0 0 (fun q => base ≤ q)) (F0 m 0 ls []) := by
  intro x1 x2 x3 σ H locs ls hl g h
  refine lv_aload_n C.1 C.2.1 dX11_order_0 rfl (lv_at hl 0 rfl) ?_
  refine lv_iload_n C.1 C.2.1 dX11_order_1 rfl (lv_at hl 1 rfl) ?_
  refine gx_calli0 g (gx_runV (k := 0) (rest := []) C g mb_X11_isMill ml_X11_101 rfl sh_0 (mX11_isMill x1 _ _ h) ⟨Nat.le_of_ble_eq_true rfl, Nat.le_of_ble_eq_true rfl⟩ ⟨Nat.le_refl _, Nat.le_refl _⟩ rfl hl.1 rfl (Nat.le_of_ble_eq_true rfl) dX11_order_2) rfl rfl (fun r1 σ2 H locs h g => ?_)
  refine lv_if_eq (tgt := 28) C.1 C.2.1 dX11_order_5 (by decide) (fun c3 => ?_) (fun c3 => ?_)
  · have h := h.1 c3
    refine lv_iconst (v := -1) C.1 C.2.1 dX11_order_28 (by decide) ?_
    exact gx_iret C hr g dX11_order_29 h
  · have h := h.2 c3
    refine lv_iload_n C.1 C.2.1 dX11_order_8 rfl (lv_at hl 3 rfl) ?_
    refine lv_if_lt (tgt := 28) C.1 C.2.1 dX11_order_9 (by decide) (fun c4 => ?_) (fun c4 => ?_)
    · have h := h.1 c4
      refine lv_iconst (v := -1) C.1 C.2.1 dX11_order_28 (by decide) ?_
      exact gx_iret C hr g dX11_order_29 h
    · have h := h.2 c4
      refine lv_iload_n C.1 C.2.1 dX11_order_12 rfl (lv_at hl 3 rfl) ?_
      refine lv_aload_n C.1 C.2.1 dX11_order_13 rfl (lv_at hl 0 rfl) ?_
      refine gx_getR C g fl_X11_10 dX11_order_14 sh_0 rfl (by decide) ?_
      refine gx_getR C g fl_X11_77 dX11_order_17 sh_1 rfl (by decide) ?_
      refine lv_iload_n C.1 C.2.1 dX11_order_20 rfl (lv_at hl 1 rfl) ?_
      refine lv_iload_n C.1 C.2.1 dX11_order_21 rfl (lv_at hl 2 rfl) ?_
      refine gx_calli0 g (gx_runV (k := 2) (rest := [.int x3]) C g mb_X3_mostSetting ml_X11_113 rfl sh_2 (mX3_mostSetting x1 x2 _ _ h) ⟨Nat.le_of_ble_eq_true rfl, Nat.le_of_ble_eq_true rfl⟩ ⟨Nat.le_refl _, Nat.le_refl _⟩ rfl hl.1 rfl (Nat.le_of_ble_eq_true rfl) dX11_order_22) rfl rfl (fun r5 σ6 H locs h g => ?_)
      refine lv_icmp_le (tgt := 30) C.1 C.2.1 dX11_order_25 (by decide) (fun c7 => ?_) (fun c7 => ?_)
      · have h := h.1 c7
        refine lv_aload_n C.1 C.2.1 dX11_order_30 rfl (lv_at hl 0 rfl) ?_
        refine gx_getR C g fl_X11_10 dX11_order_31 sh_0 rfl (by decide) ?_
        refine gx_getR C g fl_X11_117 dX11_order_34 sh_1 rfl (by decide) ?_
        refine lv_aload_n C.1 C.2.1 dX11_order_37 rfl (lv_at hl 0 rfl) ?_
        refine gx_getI C g fl_X11_40 dX11_order_38 sh_0 rfl ?_
        refine lv_iload_n C.1 C.2.1 dX11_order_41 rfl (lv_at hl 1 rfl) ?_
        refine lv_iload_n C.1 C.2.1 dX11_order_42 rfl (lv_at hl 2 rfl) ?_
        refine lv_iload_n C.1 C.2.1 dX11_order_43 rfl (lv_at hl 3 rfl) ?_
        refine gx_calli0 g (gx_runV (k := 4) (rest := []) C g mb_X4_add ml_X11_121 rfl sh_4 (mX4_add (gv σ6 0 5) x1 x2 x3 _ _ h) ⟨Nat.le_of_ble_eq_true rfl, Nat.le_of_ble_eq_true rfl⟩ ⟨Nat.le_refl _, Nat.le_refl _⟩ rfl hl.1 rfl (Nat.le_of_ble_eq_true rfl) dX11_order_44) rfl rfl (fun r8 σ9 H locs h g => ?_)
        exact gx_iret C hr g dX11_order_47 h
      · have h := h.2 c7
        refine lv_iconst (v := -1) C.1 C.2.1 dX11_order_28 (by decide) ?_
        exact gx_iret C hr g dX11_order_29 h
theorem mX11_order {l : Launch} {E : EE} {base : Nat} (x1 : Int32) (x2 : Int32) (x3 : Int32) (σ : St) (Q : Int32 → St → Prop) (h : wX11_order x1 x2 x3 σ Q) : Met l yX11_order (wy yX11_order cX11_order 4 (some .int)) rmX11_order (va_Pc [.ref (ga E 0), .int x1, .int x2, .int x3] (fun U => SW E base σ U)) (QI E base Q) (rmX11_order).cells (rmX11_order).slots (fun q => base ≤ q) :=
  met_of (by decide) (Nat.le_of_ble_eq_true rfl) (fun p e s m args below meth c C hr g ls hl => tX11_order_e C hr x1 x2 x3 _ _ _ _ hl g h)
abbrev rmX11_grist : Room := { frames := 1, cells := 0, slots := 0, locals := 23 }
def wX11_grist (x1 : Int32) (x2 : Int32) (σ : St) (Q : Int32 → St → Prop) : Prop := wX11_isMill x1 σ (fun (r1 : Int32) (σ2 : St) => ((r1 = 0 → Q (-1 : Int32) σ2) ∧ (¬ (r1 = 0) → ((x2 < (1 : Int32) → Q (-1 : Int32) σ2) ∧ (¬ (x2 < (1 : Int32)) → ((x2 ≤ (10000 : Int32) → wX1_add (gv σ2 0 5) x1 x2 σ2 (fun (r6 : Int32) (σ7 : St) => Q r6 σ7)) ∧ (¬ (x2 ≤ (10000 : Int32)) → Q (-1 : Int32) σ2)))))))
set_option maxHeartbeats 4000000 in
set_option maxRecDepth 100000 in
theorem tX11_grist_e {p : Program} {l : Launch} {e : Env} {s : State} {m : MethodId} {args : Array Value} {below : List Frame} {meth : Method} {c : Code} {E : EE} {base : Nat} (C : Cx p E base s m args meth c cX11_grist 3 RX11) (hr : meth.sig.returnType = (some .int)) {Q : Int32 → St → Prop} : ∀ (x1 : Int32) (x2 : Int32) (σ : St) (H : Heap) (locs : List Loc) (ls : Array Slot), lv_has ls 3 [(0, .ref (ga E 0)), (1, .int x1), (2, .int x2)] → GW E base s σ H locs → wX11_grist x1 x2 σ Q → W p l e rmX11_grist s m args below meth c H locs 0 0 (MQ below (QI E base Q) args s 0 0 (fun q => base ≤ q)) (F0 m 0 ls []) := by
  intro x1 x2 σ H locs ls hl g h
  refine lv_aload_n C.1 C.2.1 dX11_grist_0 rfl (lv_at hl 0 rfl) ?_
  refine lv_iload_n C.1 C.2.1 dX11_grist_1 rfl (lv_at hl 1 rfl) ?_
  refine gx_calli0 g (gx_runV (k := 0) (rest := []) C g mb_X11_isMill ml_X11_101 rfl sh_0 (mX11_isMill x1 _ _ h) ⟨Nat.le_of_ble_eq_true rfl, Nat.le_of_ble_eq_true rfl⟩ ⟨Nat.le_refl _, Nat.le_refl _⟩ rfl hl.1 rfl (Nat.le_of_ble_eq_true rfl) dX11_grist_2) rfl rfl (fun r1 σ2 H locs h g => ?_)
  refine lv_if_eq (tgt := 20) C.1 C.2.1 dX11_grist_5 (by decide) (fun c3 => ?_) (fun c3 => ?_)
  · have h := h.1 c3
    refine lv_iconst (v := -1) C.1 C.2.1 dX11_grist_20 (by decide) ?_
    exact gx_iret C hr g dX11_grist_21 h
  · have h := h.2 c3
    refine lv_iload_n C.1 C.2.1 dX11_grist_8 rfl (lv_at hl 2 rfl) ?_
    refine lv_iconst (v := 1) C.1 C.2.1 dX11_grist_9 (by decide) ?_
    refine lv_icmp_lt (tgt := 20) C.1 C.2.1 dX11_grist_10 (by decide) (fun c4 => ?_) (fun c4 => ?_)
    · have h := h.1 c4
      refine lv_iconst (v := -1) C.1 C.2.1 dX11_grist_20 (by decide) ?_
      exact gx_iret C hr g dX11_grist_21 h
    · have h := h.2 c4
      refine lv_iload_n C.1 C.2.1 dX11_grist_13 rfl (lv_at hl 2 rfl) ?_
      refine lv_sipush (v := 10000) C.1 C.2.1 dX11_grist_14 (by decide) ?_
      refine lv_icmp_le (tgt := 22) C.1 C.2.1 dX11_grist_17 (by decide) (fun c5 => ?_) (fun c5 => ?_)
      · have h := h.1 c5
        refine lv_aload_n C.1 C.2.1 dX11_grist_22 rfl (lv_at hl 0 rfl) ?_
        refine gx_getR C g fl_X11_19 dX11_grist_23 sh_0 rfl (by decide) ?_
        refine lv_aload_n C.1 C.2.1 dX11_grist_26 rfl (lv_at hl 0 rfl) ?_
        refine gx_getI C g fl_X11_40 dX11_grist_27 sh_0 rfl ?_
        refine lv_iload_n C.1 C.2.1 dX11_grist_30 rfl (lv_at hl 1 rfl) ?_
        refine lv_iload_n C.1 C.2.1 dX11_grist_31 rfl (lv_at hl 2 rfl) ?_
        refine gx_calli0 g (gx_runV (k := 9) (rest := []) C g mb_X1_add ml_X11_126 rfl sh_9 (mX1_add (gv σ2 0 5) x1 x2 _ _ h) ⟨Nat.le_of_ble_eq_true rfl, Nat.le_of_ble_eq_true rfl⟩ ⟨Nat.le_refl _, Nat.le_refl _⟩ rfl hl.1 rfl (Nat.le_of_ble_eq_true rfl) dX11_grist_32) rfl rfl (fun r6 σ7 H locs h g => ?_)
        exact gx_iret C hr g dX11_grist_35 h
      · have h := h.2 c5
        refine lv_iconst (v := -1) C.1 C.2.1 dX11_grist_20 (by decide) ?_
        exact gx_iret C hr g dX11_grist_21 h
theorem mX11_grist {l : Launch} {E : EE} {base : Nat} (x1 : Int32) (x2 : Int32) (σ : St) (Q : Int32 → St → Prop) (h : wX11_grist x1 x2 σ Q) : Met l yX11_grist (wy yX11_grist cX11_grist 3 (some .int)) rmX11_grist (va_Pc [.ref (ga E 0), .int x1, .int x2] (fun U => SW E base σ U)) (QI E base Q) (rmX11_grist).cells (rmX11_grist).slots (fun q => base ≤ q) :=
  met_of (by decide) (Nat.le_of_ble_eq_true rfl) (fun p e s m args below meth c C hr g ls hl => tX11_grist_e C hr x1 x2 _ _ _ _ hl g h)
abbrev rmX11_isKnown : Room := { frames := 0, cells := 0, slots := 0, locals := 0 }
def wX11_isKnown (x1 : Int32) (σ : St) (Q : Int32 → St → Prop) : Prop := ((x1 < 0 → Q (0 : Int32) σ) ∧ (¬ (x1 < 0) → (((gv σ 3 0) < x1 → Q (0 : Int32) σ) ∧ (¬ ((gv σ 3 0) < x1) → Q (1 : Int32) σ))))
set_option maxHeartbeats 4000000 in
set_option maxRecDepth 100000 in
theorem tX11_isKnown_e {p : Program} {l : Launch} {e : Env} {s : State} {m : MethodId} {args : Array Value} {below : List Frame} {meth : Method} {c : Code} {E : EE} {base : Nat} (C : Cx p E base s m args meth c cX11_isKnown 2 RX11) (hr : meth.sig.returnType = (some .boolean)) {Q : Int32 → St → Prop} : ∀ (x1 : Int32) (σ : St) (H : Heap) (locs : List Loc) (ls : Array Slot), lv_has ls 2 [(0, .ref (ga E 0)), (1, .int x1)] → GW E base s σ H locs → wX11_isKnown x1 σ Q → W p l e rmX11_isKnown s m args below meth c H locs 0 0 (MQ below (QI E base Q) args s 0 0 (fun q => base ≤ q)) (F0 m 0 ls []) := by
  intro x1 σ H locs ls hl g h
  refine lv_iload_n C.1 C.2.1 dX11_isKnown_0 rfl (lv_at hl 1 rfl) ?_
  refine lv_if_lt (tgt := 22) C.1 C.2.1 dX11_isKnown_1 (by decide) (fun c1 => ?_) (fun c1 => ?_)
  · have h := h.1 c1
    refine lv_iconst (v := 0) C.1 C.2.1 dX11_isKnown_22 (by decide) ?_
    exact gx_zret C hr g dX11_isKnown_23 (by decide) h
  · have h := h.2 c1
    refine lv_iload_n C.1 C.2.1 dX11_isKnown_4 rfl (lv_at hl 1 rfl) ?_
    refine lv_aload_n C.1 C.2.1 dX11_isKnown_5 rfl (lv_at hl 0 rfl) ?_
    refine gx_getR C g fl_X11_10 dX11_isKnown_6 sh_0 rfl (by decide) ?_
    refine gx_getR C g fl_X11_104 dX11_isKnown_9 sh_1 rfl (by decide) ?_
    refine gx_getI C g fl_X11_180 dX11_isKnown_12 sh_3 rfl ?_
    refine lv_icmp_gt (tgt := 22) C.1 C.2.1 dX11_isKnown_15 (by decide) (fun c2 => ?_) (fun c2 => ?_)
    · have h := h.1 c2
      refine lv_iconst (v := 0) C.1 C.2.1 dX11_isKnown_22 (by decide) ?_
      exact gx_zret C hr g dX11_isKnown_23 (by decide) h
    · have h := h.2 c2
      refine lv_iconst (v := 1) C.1 C.2.1 dX11_isKnown_18 (by decide) ?_
      refine lv_goto (tgt := 23) C.1 C.2.1 dX11_isKnown_19 (by decide) ?_
      exact gx_zret C hr g dX11_isKnown_23 (by decide) h
theorem mX11_isKnown {l : Launch} {E : EE} {base : Nat} (x1 : Int32) (σ : St) (Q : Int32 → St → Prop) (h : wX11_isKnown x1 σ Q) : Met l yX11_isKnown (wy yX11_isKnown cX11_isKnown 2 (some .boolean)) rmX11_isKnown (va_Pc [.ref (ga E 0), .int x1] (fun U => SW E base σ U)) (QI E base Q) (rmX11_isKnown).cells (rmX11_isKnown).slots (fun q => base ≤ q) :=
  met_of (by decide) (Nat.le_of_ble_eq_true rfl) (fun p e s m args below meth c C hr g ls hl => tX11_isKnown_e C hr x1 _ _ _ _ hl g h)
abbrev rmX11_at : Room := { frames := 7, cells := 0, slots := 0, locals := 168 }
def wX11_at (x1 : Int32) (x2 : Int32) (x3 : Int32) (x4 : Int32) (σ : St) (Q : Int32 → St → Prop) : Prop := wX11_isHour x1 σ (fun (r1 : Int32) (σ2 : St) => ((r1 = 0 → Q (-1000000 : Int32) σ2) ∧ (¬ (r1 = 0) → wX11_isMill x2 σ2 (fun (r4 : Int32) (σ5 : St) => ((r4 = 0 → Q (-1000000 : Int32) σ5) ∧ (¬ (r4 = 0) → wX11_isKnown x3 σ5 (fun (r7 : Int32) (σ8 : St) => ((r7 = 0 → Q (-1000000 : Int32) σ8) ∧ (¬ (r7 = 0) → ((x4 < 0 → Q (-1000000 : Int32) σ8) ∧ (¬ (x4 < 0) → ((x4 < (10 : Int32) → wX10_begin 100 x3 (-1 : Int32) σ8 (fun (σ13 : St) => wX10_run 100 x1 σ13 (fun (σ15 : St) => vp_in x4 10 ∧ vp_in x2 7 ∧ Q (gv σ15 (100 + (3 + x4.toNatClampNeg)) x2.toNatClampNeg) σ15))) ∧ (¬ (x4 < (10 : Int32)) → Q (-1000000 : Int32) σ8)))))))))))))
set_option maxHeartbeats 4000000 in
set_option maxRecDepth 100000 in
theorem tX11_at_e {p : Program} {l : Launch} {e : Env} {s : State} {m : MethodId} {args : Array Value} {below : List Frame} {meth : Method} {c : Code} {E : EE} {base : Nat} (C : Cx p E base s m args meth c cX11_at 5 RX11) (hr : meth.sig.returnType = (some .int)) {Q : Int32 → St → Prop} : ∀ (x1 : Int32) (x2 : Int32) (x3 : Int32) (x4 : Int32) (σ : St) (H : Heap) (locs : List Loc) (ls : Array Slot), lv_has ls 5 [(0, .ref (ga E 0)), (1, .int x1), (2, .int x2), (3, .int x3), (4, .int x4)] → GW E base s σ H locs → wX11_at x1 x2 x3 x4 σ Q → W p l e rmX11_at s m args below meth c H locs 0 0 (MQ below (QI E base Q) args s 0 0 (fun q => base ≤ q)) (F0 m 0 ls []) := by
  intro x1 x2 x3 x4 σ H locs ls hl g h
  refine lv_aload_n C.1 C.2.1 dX11_at_0 rfl (lv_at hl 0 rfl) ?_
  refine lv_iload_n C.1 C.2.1 dX11_at_1 rfl (lv_at hl 1 rfl) ?_
  refine gx_calli0 g (gx_runV (k := 0) (rest := []) C g mb_X11_isHour ml_X11_98 rfl sh_0 (mX11_isHour x1 _ _ h) ⟨Nat.le_of_ble_eq_true rfl, Nat.le_of_ble_eq_true rfl⟩ ⟨Nat.le_refl _, Nat.le_refl _⟩ rfl hl.1 rfl (Nat.le_of_ble_eq_true rfl) dX11_at_2) rfl rfl (fun r1 σ2 H locs h g => ?_)
  refine lv_if_eq (tgt := 36) C.1 C.2.1 dX11_at_5 (by decide) (fun c3 => ?_) (fun c3 => ?_)
  · have h := h.1 c3
    refine gx_ldc C ck_X11_130 dX11_at_36 ?_
    exact gx_iret C hr g dX11_at_38 h
  · have h := h.2 c3
    refine lv_aload_n C.1 C.2.1 dX11_at_8 rfl (lv_at hl 0 rfl) ?_
    refine lv_iload_n C.1 C.2.1 dX11_at_9 rfl (lv_at hl 2 rfl) ?_
    refine gx_calli0 g (gx_runV (k := 0) (rest := []) C g mb_X11_isMill ml_X11_101 rfl sh_0 (mX11_isMill x2 _ _ h) ⟨Nat.le_of_ble_eq_true rfl, Nat.le_of_ble_eq_true rfl⟩ ⟨Nat.le_refl _, Nat.le_refl _⟩ rfl hl.1 rfl (Nat.le_of_ble_eq_true rfl) dX11_at_10) rfl rfl (fun r4 σ5 H locs h g => ?_)
    refine lv_if_eq (tgt := 36) C.1 C.2.1 dX11_at_13 (by decide) (fun c6 => ?_) (fun c6 => ?_)
    · have h := h.1 c6
      refine gx_ldc C ck_X11_130 dX11_at_36 ?_
      exact gx_iret C hr g dX11_at_38 h
    · have h := h.2 c6
      refine lv_aload_n C.1 C.2.1 dX11_at_16 rfl (lv_at hl 0 rfl) ?_
      refine lv_iload_n C.1 C.2.1 dX11_at_17 rfl (lv_at hl 3 rfl) ?_
      refine gx_calli0 g (gx_runV (k := 0) (rest := []) C g mb_X11_isKnown ml_X11_127 rfl sh_0 (mX11_isKnown x3 _ _ h) ⟨Nat.le_of_ble_eq_true rfl, Nat.le_of_ble_eq_true rfl⟩ ⟨Nat.le_refl _, Nat.le_refl _⟩ rfl hl.1 rfl (Nat.le_of_ble_eq_true rfl) dX11_at_18) rfl rfl (fun r7 σ8 H locs h g => ?_)
      refine lv_if_eq (tgt := 36) C.1 C.2.1 dX11_at_21 (by decide) (fun c9 => ?_) (fun c9 => ?_)
      · have h := h.1 c9
        refine gx_ldc C ck_X11_130 dX11_at_36 ?_
        exact gx_iret C hr g dX11_at_38 h
      · have h := h.2 c9
        refine lv_iload C.1 C.2.1 dX11_at_24 (lv_at hl 4 rfl) ?_
        refine lv_if_lt (tgt := 36) C.1 C.2.1 dX11_at_26 (by decide) (fun c10 => ?_) (fun c10 => ?_)
        · have h := h.1 c10
          refine gx_ldc C ck_X11_130 dX11_at_36 ?_
          exact gx_iret C hr g dX11_at_38 h
        · have h := h.2 c10
          refine lv_iload C.1 C.2.1 dX11_at_29 (lv_at hl 4 rfl) ?_
          refine lv_bipush (v := 10) C.1 C.2.1 dX11_at_31 (by decide) ?_
          refine lv_icmp_lt (tgt := 39) C.1 C.2.1 dX11_at_33 (by decide) (fun c11 => ?_) (fun c11 => ?_)
          · have h := h.1 c11
            refine lv_aload_n C.1 C.2.1 dX11_at_39 rfl (lv_at hl 0 rfl) ?_
            refine gx_getR C g fl_X11_10 dX11_at_40 sh_0 rfl (by decide) ?_
            refine lv_aload_n C.1 C.2.1 dX11_at_43 rfl (lv_at hl 0 rfl) ?_
            refine gx_getR C g fl_X11_33 dX11_at_44 sh_0 rfl (by decide) ?_
            refine lv_iload_n C.1 C.2.1 dX11_at_47 rfl (lv_at hl 3 rfl) ?_
            refine lv_iconst (v := -1) C.1 C.2.1 dX11_at_48 (by decide) ?_
            refine gx_callv0 g (gx_runV (k := 1) (rest := []) C g mb_X10_begin ml_X11_131 rfl sh_1 (mX10_begin 100 x3 (-1 : Int32) stg_100 _ _ h) ⟨Nat.le_of_ble_eq_true rfl, Nat.le_of_ble_eq_true rfl⟩ ⟨Nat.le_refl _, Nat.le_refl _⟩ rfl hl.1 rfl (Nat.le_of_ble_eq_true rfl) dX11_at_49) rfl rfl (fun σ13 H locs h g => ?_)
            refine lv_aload_n C.1 C.2.1 dX11_at_52 rfl (lv_at hl 0 rfl) ?_
            refine gx_getR C g fl_X11_10 dX11_at_53 sh_0 rfl (by decide) ?_
            refine lv_aload_n C.1 C.2.1 dX11_at_56 rfl (lv_at hl 0 rfl) ?_
            refine gx_getR C g fl_X11_33 dX11_at_57 sh_0 rfl (by decide) ?_
            refine lv_iload_n C.1 C.2.1 dX11_at_60 rfl (lv_at hl 1 rfl) ?_
            refine gx_callv0 g (gx_runV (k := 1) (rest := []) C g mb_X10_run ml_X11_135 rfl sh_1 (mX10_run 100 x1 stg_100 _ _ h) ⟨Nat.le_of_ble_eq_true rfl, Nat.le_of_ble_eq_true rfl⟩ ⟨Nat.le_refl _, Nat.le_refl _⟩ rfl hl.1 rfl (Nat.le_of_ble_eq_true rfl) dX11_at_61) rfl rfl (fun σ15 H locs h g => ?_)
            refine lv_aload_n C.1 C.2.1 dX11_at_64 rfl (lv_at hl 0 rfl) ?_
            refine gx_getR C g fl_X11_33 dX11_at_65 sh_0 rfl (by decide) ?_
            refine gx_getR C g fl_X11_139 dX11_at_68 sh_100 rfl (by decide) ?_
            refine lv_iload C.1 C.2.1 dX11_at_71 (lv_at hl 4 rfl) ?_
            obtain ⟨i16, h⟩ := h
            refine gx_aald (r := (100 + (3 + x4.toNatClampNeg))) C g dX11_at_73 (stg_row stg_100) (Or.inr rfl) i16 (stg_rowx 100 i16) (stg_nex stg_100) ?_
            refine lv_iload_n C.1 C.2.1 dX11_at_74 rfl (lv_at hl 2 rfl) ?_
            obtain ⟨i17, h⟩ := h
            refine gx_iald C g dX11_at_75 (stg_arrx stg_100 i16) i17 ?_
            exact gx_iret C hr g dX11_at_76 h
          · have h := h.2 c11
            refine gx_ldc C ck_X11_130 dX11_at_36 ?_
            exact gx_iret C hr g dX11_at_38 h
theorem mX11_at {l : Launch} {E : EE} {base : Nat} (x1 : Int32) (x2 : Int32) (x3 : Int32) (x4 : Int32) (σ : St) (Q : Int32 → St → Prop) (h : wX11_at x1 x2 x3 x4 σ Q) : Met l yX11_at (wy yX11_at cX11_at 5 (some .int)) rmX11_at (va_Pc [.ref (ga E 0), .int x1, .int x2, .int x3, .int x4] (fun U => SW E base σ U)) (QI E base Q) (rmX11_at).cells (rmX11_at).slots (fun q => base ≤ q) :=
  met_of (by decide) (Nat.le_of_ble_eq_true rfl) (fun p e s m args below meth c C hr g ls hl => tX11_at_e C hr x1 x2 x3 x4 _ _ _ _ hl g h)
abbrev rmX11_isEnd : Room := { frames := 0, cells := 0, slots := 0, locals := 0 }
def wX11_isEnd (x1 : Int32) (σ : St) (Q : Int32 → St → Prop) : Prop := ((x1 < 0 → Q (0 : Int32) σ) ∧ (¬ (x1 < 0) → (((240 : Int32) < x1 → Q (0 : Int32) σ) ∧ (¬ ((240 : Int32) < x1) → Q (1 : Int32) σ))))
set_option maxHeartbeats 4000000 in
set_option maxRecDepth 100000 in
theorem tX11_isEnd_e {p : Program} {l : Launch} {e : Env} {s : State} {m : MethodId} {args : Array Value} {below : List Frame} {meth : Method} {c : Code} {E : EE} {base : Nat} (C : Cx p E base s m args meth c cX11_isEnd 2 RX11) (hr : meth.sig.returnType = (some .boolean)) {Q : Int32 → St → Prop} : ∀ (x1 : Int32) (σ : St) (H : Heap) (locs : List Loc) (ls : Array Slot), lv_has ls 2 [(0, .ref (ga E 0)), (1, .int x1)] → GW E base s σ H locs → wX11_isEnd x1 σ Q → W p l e rmX11_isEnd s m args below meth c H locs 0 0 (MQ below (QI E base Q) args s 0 0 (fun q => base ≤ q)) (F0 m 0 ls []) := by
  intro x1 σ H locs ls hl g h
  refine lv_iload_n C.1 C.2.1 dX11_isEnd_0 rfl (lv_at hl 1 rfl) ?_
  refine lv_if_lt (tgt := 15) C.1 C.2.1 dX11_isEnd_1 (by decide) (fun c1 => ?_) (fun c1 => ?_)
  · have h := h.1 c1
    refine lv_iconst (v := 0) C.1 C.2.1 dX11_isEnd_15 (by decide) ?_
    exact gx_zret C hr g dX11_isEnd_16 (by decide) h
  · have h := h.2 c1
    refine lv_iload_n C.1 C.2.1 dX11_isEnd_4 rfl (lv_at hl 1 rfl) ?_
    refine lv_sipush (v := 240) C.1 C.2.1 dX11_isEnd_5 (by decide) ?_
    refine lv_icmp_gt (tgt := 15) C.1 C.2.1 dX11_isEnd_8 (by decide) (fun c2 => ?_) (fun c2 => ?_)
    · have h := h.1 c2
      refine lv_iconst (v := 0) C.1 C.2.1 dX11_isEnd_15 (by decide) ?_
      exact gx_zret C hr g dX11_isEnd_16 (by decide) h
    · have h := h.2 c2
      refine lv_iconst (v := 1) C.1 C.2.1 dX11_isEnd_11 (by decide) ?_
      refine lv_goto (tgt := 16) C.1 C.2.1 dX11_isEnd_12 (by decide) ?_
      exact gx_zret C hr g dX11_isEnd_16 (by decide) h
theorem mX11_isEnd {l : Launch} {E : EE} {base : Nat} (x1 : Int32) (σ : St) (Q : Int32 → St → Prop) (h : wX11_isEnd x1 σ Q) : Met l yX11_isEnd (wy yX11_isEnd cX11_isEnd 2 (some .boolean)) rmX11_isEnd (va_Pc [.ref (ga E 0), .int x1] (fun U => SW E base σ U)) (QI E base Q) (rmX11_isEnd).cells (rmX11_isEnd).slots (fun q => base ≤ q) :=
  met_of (by decide) (Nat.le_of_ble_eq_true rfl) (fun p e s m args below meth c C hr g ls hl => tX11_isEnd_e C hr x1 _ _ _ _ hl g h)
abbrev rmX11_sea : Room := { frames := 6, cells := 0, slots := 0, locals := 145 }
def wX11_sea_50 (Q : Int32 → St → Prop) : Nat → Int32 → Int32 → Int32 → Int32 → St → Prop
  | 0, _, _, _, _, _ => False
  | n + 1, x1, x3, x4, x5, σ => ((x1 ≤ x5 → Q x4 σ) ∧ (¬ (x1 ≤ x5) → ((x3 < 0 → Q x4 σ) ∧ (¬ (x3 < 0) → wX10_step 100 σ (fun (σ4 : St) => vp_in x3 7 ∧ ∀ x4_6 : Int32, x4_6 = x4 + (gv σ4 112 x3.toNatClampNeg) → ∀ x5_7 : Int32, x5_7 = x5 + 1 → wX11_sea_50 Q n x1 x3 x4_6 x5_7 σ4)))))
def wX11_sea (x1 : Int32) (x2 : Int32) (σ : St) (Q : Int32 → St → Prop) : Prop := wX11_isEnd x1 σ (fun (r1 : Int32) (σ2 : St) => ((r1 = 0 → Q (-1 : Int32) σ2) ∧ (¬ (r1 = 0) → wX11_isKnown x2 σ2 (fun (r4 : Int32) (σ5 : St) => ((r4 = 0 → Q (-1 : Int32) σ5) ∧ (¬ (r4 = 0) → ∀ x3_7 : Int32, x3_7 = (gv σ5 2 4) - (1 : Int32) → wX10_begin 100 x2 (-1 : Int32) σ5 (fun (σ9 : St) => ∃ j : Nat, wX11_sea_50 Q j x1 x3_7 (0 : Int32) (0 : Int32) σ9)))))))
set_option maxHeartbeats 4000000 in
set_option maxRecDepth 100000 in
theorem tX11_sea_50 {p : Program} {l : Launch} {e : Env} {s : State} {m : MethodId} {args : Array Value} {below : List Frame} {meth : Method} {c : Code} {E : EE} {base : Nat} (C : Cx p E base s m args meth c cX11_sea 6 RX11) (hr : meth.sig.returnType = (some .int)) {Q : Int32 → St → Prop} : ∀ (n : Nat) (x1 : Int32) (x3 : Int32) (x4 : Int32) (x5 : Int32) (σ : St) (H : Heap) (locs : List Loc) (ls : Array Slot), lv_has ls 6 [(0, .ref (ga E 0)), (1, .int x1), (3, .int x3), (4, .int x4), (5, .int x5)] → GW E base s σ H locs → wX11_sea_50 Q n x1 x3 x4 x5 σ → W p l e rmX11_sea s m args below meth c H locs 0 0 (MQ below (QI E base Q) args s 0 0 (fun q => base ≤ q)) (F0 m 50 ls []) := by
  intro n
  induction n with
  | zero => intro _ _ _ _; intros; exact False.elim (by assumption)
  | succ n ih =>
    intro x1 x3 x4 x5 σ H locs ls hl g h
    refine lv_iload C.1 C.2.1 dX11_sea_50 (lv_at hl 4 rfl) ?_
    refine lv_iload_n C.1 C.2.1 dX11_sea_52 rfl (lv_at hl 1 rfl) ?_
    refine lv_icmp_ge (tgt := 94) C.1 C.2.1 dX11_sea_53 (by decide) (fun c1 => ?_) (fun c1 => ?_)
    · have h := h.1 c1
      refine lv_iload C.1 C.2.1 dX11_sea_94 (lv_at hl 3 rfl) ?_
      exact gx_iret C hr g dX11_sea_96 h
    · have h := h.2 c1
      refine lv_iload_n C.1 C.2.1 dX11_sea_56 rfl (lv_at hl 2 rfl) ?_
      refine lv_if_lt (tgt := 94) C.1 C.2.1 dX11_sea_57 (by decide) (fun c2 => ?_) (fun c2 => ?_)
      · have h := h.1 c2
        refine lv_iload C.1 C.2.1 dX11_sea_94 (lv_at hl 3 rfl) ?_
        exact gx_iret C hr g dX11_sea_96 h
      · have h := h.2 c2
        refine lv_aload_n C.1 C.2.1 dX11_sea_60 rfl (lv_at hl 0 rfl) ?_
        refine gx_getR C g fl_X11_10 dX11_sea_61 sh_0 rfl (by decide) ?_
        refine lv_aload_n C.1 C.2.1 dX11_sea_64 rfl (lv_at hl 0 rfl) ?_
        refine gx_getR C g fl_X11_33 dX11_sea_65 sh_0 rfl (by decide) ?_
        refine gx_callv0 g (gx_runV (k := 1) (rest := []) C g mb_X10_step ml_X11_147 rfl sh_1 (mX10_step 100 stg_100 _ _ h) ⟨Nat.le_of_ble_eq_true rfl, Nat.le_of_ble_eq_true rfl⟩ ⟨Nat.le_refl _, Nat.le_refl _⟩ rfl hl.1 rfl (Nat.le_of_ble_eq_true rfl) dX11_sea_68) rfl rfl (fun σ4 H locs h g => ?_)
        refine lv_iload C.1 C.2.1 dX11_sea_71 (lv_at hl 3 rfl) ?_
        refine lv_aload_n C.1 C.2.1 dX11_sea_73 rfl (lv_at hl 0 rfl) ?_
        refine gx_getR C g fl_X11_33 dX11_sea_74 sh_0 rfl (by decide) ?_
        refine gx_getR C g fl_X11_139 dX11_sea_77 sh_100 rfl (by decide) ?_
        refine lv_bipush (v := 9) C.1 C.2.1 dX11_sea_80 (by decide) ?_
        refine gx_aald (r := 112) C g dX11_sea_82 sh_101 (Or.inr rfl) vi_9 rfl (by decide) ?_
        refine lv_iload_n C.1 C.2.1 dX11_sea_83 rfl (lv_at hl 2 rfl) ?_
        obtain ⟨i5, h⟩ := h
        refine gx_iald C g dX11_sea_84 sh_112 i5 ?_
        refine lv_iadd C.1 C.2.1 dX11_sea_85 ?_
        refine lv_topi (fun x4_6 ex4_6 => ?_)
        have h := h x4_6 ex4_6
        refine lv_istore (lv' := [(4, .int x4_6), (0, .ref (ga E 0)), (1, .int x1), (3, .int x3), (5, .int x5)]) C.1 C.2.1 dX11_sea_86 hl (by decide) rfl (fun ls hl => ?_)
        obtain ⟨x5_7, ex5_7⟩ : ∃ y : Int32, y = x5 + 1 := ⟨_, rfl⟩
        have h := h x5_7 ex5_7
        refine lv_iinc (v := x5_7) (lv' := [(5, .int x5_7), (4, .int x4_6), (0, .ref (ga E 0)), (1, .int x1), (3, .int x3)]) C.1 C.2.1 dX11_sea_88 hl (k := 4) rfl (by rw [ex5_7]; rfl) (by decide) rfl (fun ls hl => ?_)
        refine lv_goto (tgt := 50) C.1 C.2.1 dX11_sea_91 (by decide) ?_
        exact ih x1 x3 x4_6 x5_7 _ _ _ _ (lv_sub hl [2, 3, 4, 1, 0] rfl) g h
set_option maxHeartbeats 4000000 in
set_option maxRecDepth 100000 in
theorem tX11_sea_e {p : Program} {l : Launch} {e : Env} {s : State} {m : MethodId} {args : Array Value} {below : List Frame} {meth : Method} {c : Code} {E : EE} {base : Nat} (C : Cx p E base s m args meth c cX11_sea 6 RX11) (hr : meth.sig.returnType = (some .int)) {Q : Int32 → St → Prop} : ∀ (x1 : Int32) (x2 : Int32) (σ : St) (H : Heap) (locs : List Loc) (ls : Array Slot), lv_has ls 6 [(0, .ref (ga E 0)), (1, .int x1), (2, .int x2)] → GW E base s σ H locs → wX11_sea x1 x2 σ Q → W p l e rmX11_sea s m args below meth c H locs 0 0 (MQ below (QI E base Q) args s 0 0 (fun q => base ≤ q)) (F0 m 0 ls []) := by
  intro x1 x2 σ H locs ls hl g h
  refine lv_aload_n C.1 C.2.1 dX11_sea_0 rfl (lv_at hl 0 rfl) ?_
  refine lv_iload_n C.1 C.2.1 dX11_sea_1 rfl (lv_at hl 1 rfl) ?_
  refine gx_calli0 g (gx_runV (k := 0) (rest := []) C g mb_X11_isEnd ml_X11_143 rfl sh_0 (mX11_isEnd x1 _ _ h) ⟨Nat.le_of_ble_eq_true rfl, Nat.le_of_ble_eq_true rfl⟩ ⟨Nat.le_refl _, Nat.le_refl _⟩ rfl hl.1 rfl (Nat.le_of_ble_eq_true rfl) dX11_sea_2) rfl rfl (fun r1 σ2 H locs h g => ?_)
  refine lv_if_eq (tgt := 16) C.1 C.2.1 dX11_sea_5 (by decide) (fun c3 => ?_) (fun c3 => ?_)
  · have h := h.1 c3
    refine lv_iconst (v := -1) C.1 C.2.1 dX11_sea_16 (by decide) ?_
    exact gx_iret C hr g dX11_sea_17 h
  · have h := h.2 c3
    refine lv_aload_n C.1 C.2.1 dX11_sea_8 rfl (lv_at hl 0 rfl) ?_
    refine lv_iload_n C.1 C.2.1 dX11_sea_9 rfl (lv_at hl 2 rfl) ?_
    refine gx_calli0 g (gx_runV (k := 0) (rest := []) C g mb_X11_isKnown ml_X11_127 rfl sh_0 (mX11_isKnown x2 _ _ h) ⟨Nat.le_of_ble_eq_true rfl, Nat.le_of_ble_eq_true rfl⟩ ⟨Nat.le_refl _, Nat.le_refl _⟩ rfl hl.1 rfl (Nat.le_of_ble_eq_true rfl) dX11_sea_10) rfl rfl (fun r4 σ5 H locs h g => ?_)
    refine lv_if_ne (tgt := 18) C.1 C.2.1 dX11_sea_13 (by decide) (fun c6 => ?_) (fun c6 => ?_)
    · have h := h.2 c6
      refine lv_aload_n C.1 C.2.1 dX11_sea_18 rfl (lv_at hl 0 rfl) ?_
      refine gx_getR C g fl_X11_10 dX11_sea_19 sh_0 rfl (by decide) ?_
      refine gx_getR C g fl_X11_77 dX11_sea_22 sh_1 rfl (by decide) ?_
      refine gx_getI C g fl_X11_146 dX11_sea_25 sh_2 rfl ?_
      refine lv_iconst (v := 1) C.1 C.2.1 dX11_sea_28 (by decide) ?_
      refine lv_isub C.1 C.2.1 dX11_sea_29 ?_
      refine lv_topi (fun x3_7 ex3_7 => ?_)
      have h := h x3_7 ex3_7
      refine lv_istore_n (lv' := [(3, .int x3_7), (0, .ref (ga E 0)), (1, .int x1), (2, .int x2)]) C.1 C.2.1 dX11_sea_30 rfl hl (by decide) rfl (fun ls hl => ?_)
      refine lv_iconst (v := 0) C.1 C.2.1 dX11_sea_31 (by decide) ?_
      refine lv_istore (lv' := [(4, .int (0 : Int32)), (3, .int x3_7), (0, .ref (ga E 0)), (1, .int x1), (2, .int x2)]) C.1 C.2.1 dX11_sea_32 hl (by decide) rfl (fun ls hl => ?_)
      refine lv_aload_n C.1 C.2.1 dX11_sea_34 rfl (lv_at hl 2 rfl) ?_
      refine gx_getR C g fl_X11_10 dX11_sea_35 sh_0 rfl (by decide) ?_
      refine lv_aload_n C.1 C.2.1 dX11_sea_38 rfl (lv_at hl 2 rfl) ?_
      refine gx_getR C g fl_X11_33 dX11_sea_39 sh_0 rfl (by decide) ?_
      refine lv_iload_n C.1 C.2.1 dX11_sea_42 rfl (lv_at hl 4 rfl) ?_
      refine lv_iconst (v := -1) C.1 C.2.1 dX11_sea_43 (by decide) ?_
      refine gx_callv0 g (gx_runV (k := 1) (rest := []) C g mb_X10_begin ml_X11_131 rfl sh_1 (mX10_begin 100 x2 (-1 : Int32) stg_100 _ _ h) ⟨Nat.le_of_ble_eq_true rfl, Nat.le_of_ble_eq_true rfl⟩ ⟨Nat.le_refl _, Nat.le_refl _⟩ rfl hl.1 rfl (Nat.le_of_ble_eq_true rfl) dX11_sea_44) rfl rfl (fun σ9 H locs h g => ?_)
      refine lv_iconst (v := 0) C.1 C.2.1 dX11_sea_47 (by decide) ?_
      refine lv_istore (lv' := [(5, .int (0 : Int32)), (4, .int (0 : Int32)), (3, .int x3_7), (0, .ref (ga E 0)), (1, .int x1), (2, .int x2)]) C.1 C.2.1 dX11_sea_48 hl (by decide) rfl (fun ls hl => ?_)
      obtain ⟨j, h⟩ := h
      exact tX11_sea_50 C hr j x1 x3_7 (0 : Int32) (0 : Int32) _ _ _ _ (lv_sub hl [3, 4, 2, 1, 0] rfl) g h
    · have h := h.1 c6
      refine lv_iconst (v := -1) C.1 C.2.1 dX11_sea_16 (by decide) ?_
      exact gx_iret C hr g dX11_sea_17 h
theorem mX11_sea {l : Launch} {E : EE} {base : Nat} (x1 : Int32) (x2 : Int32) (σ : St) (Q : Int32 → St → Prop) (h : wX11_sea x1 x2 σ Q) : Met l yX11_sea (wy yX11_sea cX11_sea 6 (some .int)) rmX11_sea (va_Pc [.ref (ga E 0), .int x1, .int x2] (fun U => SW E base σ U)) (QI E base Q) (rmX11_sea).cells (rmX11_sea).slots (fun q => base ≤ q) :=
  met_of (by decide) (Nat.le_of_ble_eq_true rfl) (fun p e s m args below meth c C hr g ls hl => tX11_sea_e C hr x1 x2 _ _ _ _ hl g h)
abbrev rmX11_broken : Room := { frames := 7, cells := 0, slots := 0, locals := 168 }
def wX11_broken (x1 : Int32) (x2 : Int32) (x3 : Int32) (σ : St) (Q : Int32 → St → Prop) : Prop := wX11_isHour x1 σ (fun (r1 : Int32) (σ2 : St) => ((r1 = 0 → Q (-1 : Int32) σ2) ∧ (¬ (r1 = 0) → wX11_isKnown x2 σ2 (fun (r4 : Int32) (σ5 : St) => ((r4 = 0 → Q (-1 : Int32) σ5) ∧ (¬ (r4 = 0) → ((0 ≤ x3 → wX10_begin 100 x2 (-1 : Int32) σ5 (fun (σ9 : St) => wX10_run 100 x1 σ9 (fun (σ11 : St) => wX10_breach 100 x3 σ11 (fun (r12 : Int32) (σ13 : St) => Q r12 σ13)))) ∧ (¬ (0 ≤ x3) → Q (-1 : Int32) σ5))))))))
set_option maxHeartbeats 4000000 in
set_option maxRecDepth 100000 in
theorem tX11_broken_e {p : Program} {l : Launch} {e : Env} {s : State} {m : MethodId} {args : Array Value} {below : List Frame} {meth : Method} {c : Code} {E : EE} {base : Nat} (C : Cx p E base s m args meth c cX11_broken 4 RX11) (hr : meth.sig.returnType = (some .int)) {Q : Int32 → St → Prop} : ∀ (x1 : Int32) (x2 : Int32) (x3 : Int32) (σ : St) (H : Heap) (locs : List Loc) (ls : Array Slot), lv_has ls 4 [(0, .ref (ga E 0)), (1, .int x1), (2, .int x2), (3, .int x3)] → GW E base s σ H locs → wX11_broken x1 x2 x3 σ Q → W p l e rmX11_broken s m args below meth c H locs 0 0 (MQ below (QI E base Q) args s 0 0 (fun q => base ≤ q)) (F0 m 0 ls []) := by
  intro x1 x2 x3 σ H locs ls hl g h
  refine lv_aload_n C.1 C.2.1 dX11_broken_0 rfl (lv_at hl 0 rfl) ?_
  refine lv_iload_n C.1 C.2.1 dX11_broken_1 rfl (lv_at hl 1 rfl) ?_
  refine gx_calli0 g (gx_runV (k := 0) (rest := []) C g mb_X11_isHour ml_X11_98 rfl sh_0 (mX11_isHour x1 _ _ h) ⟨Nat.le_of_ble_eq_true rfl, Nat.le_of_ble_eq_true rfl⟩ ⟨Nat.le_refl _, Nat.le_refl _⟩ rfl hl.1 rfl (Nat.le_of_ble_eq_true rfl) dX11_broken_2) rfl rfl (fun r1 σ2 H locs h g => ?_)
  refine lv_if_eq (tgt := 20) C.1 C.2.1 dX11_broken_5 (by decide) (fun c3 => ?_) (fun c3 => ?_)
  · have h := h.1 c3
    refine lv_iconst (v := -1) C.1 C.2.1 dX11_broken_20 (by decide) ?_
    exact gx_iret C hr g dX11_broken_21 h
  · have h := h.2 c3
    refine lv_aload_n C.1 C.2.1 dX11_broken_8 rfl (lv_at hl 0 rfl) ?_
    refine lv_iload_n C.1 C.2.1 dX11_broken_9 rfl (lv_at hl 2 rfl) ?_
    refine gx_calli0 g (gx_runV (k := 0) (rest := []) C g mb_X11_isKnown ml_X11_127 rfl sh_0 (mX11_isKnown x2 _ _ h) ⟨Nat.le_of_ble_eq_true rfl, Nat.le_of_ble_eq_true rfl⟩ ⟨Nat.le_refl _, Nat.le_refl _⟩ rfl hl.1 rfl (Nat.le_of_ble_eq_true rfl) dX11_broken_10) rfl rfl (fun r4 σ5 H locs h g => ?_)
    refine lv_if_eq (tgt := 20) C.1 C.2.1 dX11_broken_13 (by decide) (fun c6 => ?_) (fun c6 => ?_)
    · have h := h.1 c6
      refine lv_iconst (v := -1) C.1 C.2.1 dX11_broken_20 (by decide) ?_
      exact gx_iret C hr g dX11_broken_21 h
    · have h := h.2 c6
      refine lv_iload_n C.1 C.2.1 dX11_broken_16 rfl (lv_at hl 3 rfl) ?_
      refine lv_if_ge (tgt := 22) C.1 C.2.1 dX11_broken_17 (by decide) (fun c7 => ?_) (fun c7 => ?_)
      · have h := h.1 c7
        refine lv_aload_n C.1 C.2.1 dX11_broken_22 rfl (lv_at hl 0 rfl) ?_
        refine gx_getR C g fl_X11_10 dX11_broken_23 sh_0 rfl (by decide) ?_
        refine lv_aload_n C.1 C.2.1 dX11_broken_26 rfl (lv_at hl 0 rfl) ?_
        refine gx_getR C g fl_X11_33 dX11_broken_27 sh_0 rfl (by decide) ?_
        refine lv_iload_n C.1 C.2.1 dX11_broken_30 rfl (lv_at hl 2 rfl) ?_
        refine lv_iconst (v := -1) C.1 C.2.1 dX11_broken_31 (by decide) ?_
        refine gx_callv0 g (gx_runV (k := 1) (rest := []) C g mb_X10_begin ml_X11_131 rfl sh_1 (mX10_begin 100 x2 (-1 : Int32) stg_100 _ _ h) ⟨Nat.le_of_ble_eq_true rfl, Nat.le_of_ble_eq_true rfl⟩ ⟨Nat.le_refl _, Nat.le_refl _⟩ rfl hl.1 rfl (Nat.le_of_ble_eq_true rfl) dX11_broken_32) rfl rfl (fun σ9 H locs h g => ?_)
        refine lv_aload_n C.1 C.2.1 dX11_broken_35 rfl (lv_at hl 0 rfl) ?_
        refine gx_getR C g fl_X11_10 dX11_broken_36 sh_0 rfl (by decide) ?_
        refine lv_aload_n C.1 C.2.1 dX11_broken_39 rfl (lv_at hl 0 rfl) ?_
        refine gx_getR C g fl_X11_33 dX11_broken_40 sh_0 rfl (by decide) ?_
        refine lv_iload_n C.1 C.2.1 dX11_broken_43 rfl (lv_at hl 1 rfl) ?_
        refine gx_callv0 g (gx_runV (k := 1) (rest := []) C g mb_X10_run ml_X11_135 rfl sh_1 (mX10_run 100 x1 stg_100 _ _ h) ⟨Nat.le_of_ble_eq_true rfl, Nat.le_of_ble_eq_true rfl⟩ ⟨Nat.le_refl _, Nat.le_refl _⟩ rfl hl.1 rfl (Nat.le_of_ble_eq_true rfl) dX11_broken_44) rfl rfl (fun σ11 H locs h g => ?_)
        refine lv_aload_n C.1 C.2.1 dX11_broken_47 rfl (lv_at hl 0 rfl) ?_
        refine gx_getR C g fl_X11_10 dX11_broken_48 sh_0 rfl (by decide) ?_
        refine lv_aload_n C.1 C.2.1 dX11_broken_51 rfl (lv_at hl 0 rfl) ?_
        refine gx_getR C g fl_X11_33 dX11_broken_52 sh_0 rfl (by decide) ?_
        refine lv_iload_n C.1 C.2.1 dX11_broken_55 rfl (lv_at hl 3 rfl) ?_
        refine gx_calli0 g (gx_runV (k := 1) (rest := []) C g mb_X10_breach ml_X11_151 rfl sh_1 (mX10_breach 100 x3 stg_100 _ _ h) ⟨Nat.le_of_ble_eq_true rfl, Nat.le_of_ble_eq_true rfl⟩ ⟨Nat.le_refl _, Nat.le_refl _⟩ rfl hl.1 rfl (Nat.le_of_ble_eq_true rfl) dX11_broken_56) rfl rfl (fun r12 σ13 H locs h g => ?_)
        exact gx_iret C hr g dX11_broken_59 h
      · have h := h.2 c7
        refine lv_iconst (v := -1) C.1 C.2.1 dX11_broken_20 (by decide) ?_
        exact gx_iret C hr g dX11_broken_21 h
theorem mX11_broken {l : Launch} {E : EE} {base : Nat} (x1 : Int32) (x2 : Int32) (x3 : Int32) (σ : St) (Q : Int32 → St → Prop) (h : wX11_broken x1 x2 x3 σ Q) : Met l yX11_broken (wy yX11_broken cX11_broken 4 (some .int)) rmX11_broken (va_Pc [.ref (ga E 0), .int x1, .int x2, .int x3] (fun U => SW E base σ U)) (QI E base Q) (rmX11_broken).cells (rmX11_broken).slots (fun q => base ≤ q) :=
  met_of (by decide) (Nat.le_of_ble_eq_true rfl) (fun p e s m args below meth c C hr g ls hl => tX11_broken_e C hr x1 x2 x3 _ _ _ _ hl g h)
abbrev rmX11_first : Room := { frames := 6, cells := 0, slots := 0, locals := 145 }
def wX11_first_84 (Q : Int32 → St → Prop) (K42 : Int32 → Int32 → Int32 → St → Prop) (x1 : Int32) (x2 : Int32) (x4 : Int32) (σ : St) : Prop := ∀ x4_1 : Int32, x4_1 = x4 + 1 → K42 x1 x2 x4_1 σ
def wX11_first_42 (Q : Int32 → St → Prop) : Nat → Int32 → Int32 → Int32 → St → Prop
  | 0, _, _, _, _ => False
  | n + 1, x1, x2, x4, σ => ((x2 ≤ x4 → Q (-1 : Int32) σ) ∧ (¬ (x2 ≤ x4) → wX10_step 100 σ (fun (σ3 : St) => ((x4 < x1 → wX11_first_84 Q (fun x1' x2' x4' σ' => wX11_first_42 Q n x1' x2' x4' σ') x1 x2 x4 σ3) ∧ (¬ (x4 < x1) → wX10_breach 100 (0 : Int32) σ3 (fun (r5 : Int32) (σ6 : St) => ((r5 = (-1 : Int32) → wX11_first_84 Q (fun x1' x2' x4' σ' => wX11_first_42 Q n x1' x2' x4' σ') x1 x2 x4 σ6) ∧ (¬ (r5 = (-1 : Int32)) → Q x4 σ6))))))))
def wX11_first (x1 : Int32) (x2 : Int32) (x3 : Int32) (σ : St) (Q : Int32 → St → Prop) : Prop := wX11_isEnd x1 σ (fun (r1 : Int32) (σ2 : St) => ((r1 = 0 → Q (-1 : Int32) σ2) ∧ (¬ (r1 = 0) → wX11_isEnd x2 σ2 (fun (r4 : Int32) (σ5 : St) => ((r4 = 0 → Q (-1 : Int32) σ5) ∧ (¬ (r4 = 0) → wX11_isKnown x3 σ5 (fun (r7 : Int32) (σ8 : St) => ((r7 = 0 → Q (-1 : Int32) σ8) ∧ (¬ (r7 = 0) → wX10_begin 100 x3 (-1 : Int32) σ8 (fun (σ11 : St) => ∃ j : Nat, wX11_first_42 Q j x1 x2 (0 : Int32) σ11))))))))))
set_option maxHeartbeats 4000000 in
set_option maxRecDepth 100000 in
theorem tX11_first_84 {p : Program} {l : Launch} {e : Env} {s : State} {m : MethodId} {args : Array Value} {below : List Frame} {meth : Method} {c : Code} {E : EE} {base : Nat} (C : Cx p E base s m args meth c cX11_first 5 RX11) (hr : meth.sig.returnType = (some .int)) {Q : Int32 → St → Prop} {K42 : Int32 → Int32 → Int32 → St → Prop} (hK42 : ∀ (x1 : Int32) (x2 : Int32) (x4 : Int32) (σ : St) (H : Heap) (locs : List Loc) (ls : Array Slot), lv_has ls 5 [(0, .ref (ga E 0)), (1, .int x1), (2, .int x2), (4, .int x4)] → GW E base s σ H locs → K42 x1 x2 x4 σ → W p l e rmX11_first s m args below meth c H locs 0 0 (MQ below (QI E base Q) args s 0 0 (fun q => base ≤ q)) (F0 m 42 ls [])) : ∀ (x1 : Int32) (x2 : Int32) (x4 : Int32) (σ : St) (H : Heap) (locs : List Loc) (ls : Array Slot), lv_has ls 5 [(0, .ref (ga E 0)), (1, .int x1), (2, .int x2), (4, .int x4)] → GW E base s σ H locs → wX11_first_84 Q K42 x1 x2 x4 σ → W p l e rmX11_first s m args below meth c H locs 0 0 (MQ below (QI E base Q) args s 0 0 (fun q => base ≤ q)) (F0 m 84 ls []) := by
  intro x1 x2 x4 σ H locs ls hl g h
  obtain ⟨x4_1, ex4_1⟩ : ∃ y : Int32, y = x4 + 1 := ⟨_, rfl⟩
  have h := h x4_1 ex4_1
  refine lv_iinc (v := x4_1) (lv' := [(4, .int x4_1), (0, .ref (ga E 0)), (1, .int x1), (2, .int x2)]) C.1 C.2.1 dX11_first_84 hl (k := 3) rfl (by rw [ex4_1]; rfl) (by decide) rfl (fun ls hl => ?_)
  refine lv_goto (tgt := 42) C.1 C.2.1 dX11_first_87 (by decide) ?_
  exact hK42 x1 x2 x4_1 _ _ _ _ (lv_sub hl [1, 2, 3, 0] rfl) g h
set_option maxHeartbeats 4000000 in
set_option maxRecDepth 100000 in
theorem tX11_first_42 {p : Program} {l : Launch} {e : Env} {s : State} {m : MethodId} {args : Array Value} {below : List Frame} {meth : Method} {c : Code} {E : EE} {base : Nat} (C : Cx p E base s m args meth c cX11_first 5 RX11) (hr : meth.sig.returnType = (some .int)) {Q : Int32 → St → Prop} : ∀ (n : Nat) (x1 : Int32) (x2 : Int32) (x4 : Int32) (σ : St) (H : Heap) (locs : List Loc) (ls : Array Slot), lv_has ls 5 [(0, .ref (ga E 0)), (1, .int x1), (2, .int x2), (4, .int x4)] → GW E base s σ H locs → wX11_first_42 Q n x1 x2 x4 σ → W p l e rmX11_first s m args below meth c H locs 0 0 (MQ below (QI E base Q) args s 0 0 (fun q => base ≤ q)) (F0 m 42 ls []) := by
  intro n
  induction n with
  | zero => intro _ _ _; intros; exact False.elim (by assumption)
  | succ n ih =>
    intro x1 x2 x4 σ H locs ls hl g h
    refine lv_iload C.1 C.2.1 dX11_first_42 (lv_at hl 3 rfl) ?_
    refine lv_iload_n C.1 C.2.1 dX11_first_44 rfl (lv_at hl 2 rfl) ?_
    refine lv_icmp_ge (tgt := 90) C.1 C.2.1 dX11_first_45 (by decide) (fun c1 => ?_) (fun c1 => ?_)
    · have h := h.1 c1
      refine lv_iconst (v := -1) C.1 C.2.1 dX11_first_90 (by decide) ?_
      exact gx_iret C hr g dX11_first_91 h
    · have h := h.2 c1
      refine lv_aload_n C.1 C.2.1 dX11_first_48 rfl (lv_at hl 0 rfl) ?_
      refine gx_getR C g fl_X11_10 dX11_first_49 sh_0 rfl (by decide) ?_
      refine lv_aload_n C.1 C.2.1 dX11_first_52 rfl (lv_at hl 0 rfl) ?_
      refine gx_getR C g fl_X11_33 dX11_first_53 sh_0 rfl (by decide) ?_
      refine gx_callv0 g (gx_runV (k := 1) (rest := []) C g mb_X10_step ml_X11_147 rfl sh_1 (mX10_step 100 stg_100 _ _ h) ⟨Nat.le_of_ble_eq_true rfl, Nat.le_of_ble_eq_true rfl⟩ ⟨Nat.le_refl _, Nat.le_refl _⟩ rfl hl.1 rfl (Nat.le_of_ble_eq_true rfl) dX11_first_56) rfl rfl (fun σ3 H locs h g => ?_)
      refine lv_iload C.1 C.2.1 dX11_first_59 (lv_at hl 3 rfl) ?_
      refine lv_iload_n C.1 C.2.1 dX11_first_61 rfl (lv_at hl 1 rfl) ?_
      refine lv_icmp_lt (tgt := 84) C.1 C.2.1 dX11_first_62 (by decide) (fun c4 => ?_) (fun c4 => ?_)
      · have h := h.1 c4
        exact tX11_first_84 C hr ih x1 x2 x4 _ _ _ _ (lv_sub hl [0, 1, 2, 3] rfl) g h
      · have h := h.2 c4
        refine lv_aload_n C.1 C.2.1 dX11_first_65 rfl (lv_at hl 0 rfl) ?_
        refine gx_getR C g fl_X11_10 dX11_first_66 sh_0 rfl (by decide) ?_
        refine lv_aload_n C.1 C.2.1 dX11_first_69 rfl (lv_at hl 0 rfl) ?_
        refine gx_getR C g fl_X11_33 dX11_first_70 sh_0 rfl (by decide) ?_
        refine lv_iconst (v := 0) C.1 C.2.1 dX11_first_73 (by decide) ?_
        refine gx_calli0 g (gx_runV (k := 1) (rest := []) C g mb_X10_breach ml_X11_151 rfl sh_1 (mX10_breach 100 (0 : Int32) stg_100 _ _ h) ⟨Nat.le_of_ble_eq_true rfl, Nat.le_of_ble_eq_true rfl⟩ ⟨Nat.le_refl _, Nat.le_refl _⟩ rfl hl.1 rfl (Nat.le_of_ble_eq_true rfl) dX11_first_74) rfl rfl (fun r5 σ6 H locs h g => ?_)
        refine lv_iconst (v := -1) C.1 C.2.1 dX11_first_77 (by decide) ?_
        refine lv_icmp_eq (tgt := 84) C.1 C.2.1 dX11_first_78 (by decide) (fun c7 => ?_) (fun c7 => ?_)
        · have h := h.1 c7
          exact tX11_first_84 C hr ih x1 x2 x4 _ _ _ _ (lv_sub hl [0, 1, 2, 3] rfl) g h
        · have h := h.2 c7
          refine lv_iload C.1 C.2.1 dX11_first_81 (lv_at hl 3 rfl) ?_
          exact gx_iret C hr g dX11_first_83 h
set_option maxHeartbeats 4000000 in
set_option maxRecDepth 100000 in
theorem tX11_first_e {p : Program} {l : Launch} {e : Env} {s : State} {m : MethodId} {args : Array Value} {below : List Frame} {meth : Method} {c : Code} {E : EE} {base : Nat} (C : Cx p E base s m args meth c cX11_first 5 RX11) (hr : meth.sig.returnType = (some .int)) {Q : Int32 → St → Prop} : ∀ (x1 : Int32) (x2 : Int32) (x3 : Int32) (σ : St) (H : Heap) (locs : List Loc) (ls : Array Slot), lv_has ls 5 [(0, .ref (ga E 0)), (1, .int x1), (2, .int x2), (3, .int x3)] → GW E base s σ H locs → wX11_first x1 x2 x3 σ Q → W p l e rmX11_first s m args below meth c H locs 0 0 (MQ below (QI E base Q) args s 0 0 (fun q => base ≤ q)) (F0 m 0 ls []) := by
  intro x1 x2 x3 σ H locs ls hl g h
  refine lv_aload_n C.1 C.2.1 dX11_first_0 rfl (lv_at hl 0 rfl) ?_
  refine lv_iload_n C.1 C.2.1 dX11_first_1 rfl (lv_at hl 1 rfl) ?_
  refine gx_calli0 g (gx_runV (k := 0) (rest := []) C g mb_X11_isEnd ml_X11_143 rfl sh_0 (mX11_isEnd x1 _ _ h) ⟨Nat.le_of_ble_eq_true rfl, Nat.le_of_ble_eq_true rfl⟩ ⟨Nat.le_refl _, Nat.le_refl _⟩ rfl hl.1 rfl (Nat.le_of_ble_eq_true rfl) dX11_first_2) rfl rfl (fun r1 σ2 H locs h g => ?_)
  refine lv_if_eq (tgt := 24) C.1 C.2.1 dX11_first_5 (by decide) (fun c3 => ?_) (fun c3 => ?_)
  · have h := h.1 c3
    refine lv_iconst (v := -1) C.1 C.2.1 dX11_first_24 (by decide) ?_
    exact gx_iret C hr g dX11_first_25 h
  · have h := h.2 c3
    refine lv_aload_n C.1 C.2.1 dX11_first_8 rfl (lv_at hl 0 rfl) ?_
    refine lv_iload_n C.1 C.2.1 dX11_first_9 rfl (lv_at hl 2 rfl) ?_
    refine gx_calli0 g (gx_runV (k := 0) (rest := []) C g mb_X11_isEnd ml_X11_143 rfl sh_0 (mX11_isEnd x2 _ _ h) ⟨Nat.le_of_ble_eq_true rfl, Nat.le_of_ble_eq_true rfl⟩ ⟨Nat.le_refl _, Nat.le_refl _⟩ rfl hl.1 rfl (Nat.le_of_ble_eq_true rfl) dX11_first_10) rfl rfl (fun r4 σ5 H locs h g => ?_)
    refine lv_if_eq (tgt := 24) C.1 C.2.1 dX11_first_13 (by decide) (fun c6 => ?_) (fun c6 => ?_)
    · have h := h.1 c6
      refine lv_iconst (v := -1) C.1 C.2.1 dX11_first_24 (by decide) ?_
      exact gx_iret C hr g dX11_first_25 h
    · have h := h.2 c6
      refine lv_aload_n C.1 C.2.1 dX11_first_16 rfl (lv_at hl 0 rfl) ?_
      refine lv_iload_n C.1 C.2.1 dX11_first_17 rfl (lv_at hl 3 rfl) ?_
      refine gx_calli0 g (gx_runV (k := 0) (rest := []) C g mb_X11_isKnown ml_X11_127 rfl sh_0 (mX11_isKnown x3 _ _ h) ⟨Nat.le_of_ble_eq_true rfl, Nat.le_of_ble_eq_true rfl⟩ ⟨Nat.le_refl _, Nat.le_refl _⟩ rfl hl.1 rfl (Nat.le_of_ble_eq_true rfl) dX11_first_18) rfl rfl (fun r7 σ8 H locs h g => ?_)
      refine lv_if_ne (tgt := 26) C.1 C.2.1 dX11_first_21 (by decide) (fun c9 => ?_) (fun c9 => ?_)
      · have h := h.2 c9
        refine lv_aload_n C.1 C.2.1 dX11_first_26 rfl (lv_at hl 0 rfl) ?_
        refine gx_getR C g fl_X11_10 dX11_first_27 sh_0 rfl (by decide) ?_
        refine lv_aload_n C.1 C.2.1 dX11_first_30 rfl (lv_at hl 0 rfl) ?_
        refine gx_getR C g fl_X11_33 dX11_first_31 sh_0 rfl (by decide) ?_
        refine lv_iload_n C.1 C.2.1 dX11_first_34 rfl (lv_at hl 3 rfl) ?_
        refine lv_iconst (v := -1) C.1 C.2.1 dX11_first_35 (by decide) ?_
        refine gx_callv0 g (gx_runV (k := 1) (rest := []) C g mb_X10_begin ml_X11_131 rfl sh_1 (mX10_begin 100 x3 (-1 : Int32) stg_100 _ _ h) ⟨Nat.le_of_ble_eq_true rfl, Nat.le_of_ble_eq_true rfl⟩ ⟨Nat.le_refl _, Nat.le_refl _⟩ rfl hl.1 rfl (Nat.le_of_ble_eq_true rfl) dX11_first_36) rfl rfl (fun σ11 H locs h g => ?_)
        refine lv_iconst (v := 0) C.1 C.2.1 dX11_first_39 (by decide) ?_
        refine lv_istore (lv' := [(4, .int (0 : Int32)), (0, .ref (ga E 0)), (1, .int x1), (2, .int x2), (3, .int x3)]) C.1 C.2.1 dX11_first_40 hl (by decide) rfl (fun ls hl => ?_)
        obtain ⟨j, h⟩ := h
        exact tX11_first_42 C hr j x1 x2 (0 : Int32) _ _ _ _ (lv_sub hl [1, 2, 3, 0] rfl) g h
      · have h := h.1 c9
        refine lv_iconst (v := -1) C.1 C.2.1 dX11_first_24 (by decide) ?_
        exact gx_iret C hr g dX11_first_25 h
theorem mX11_first {l : Launch} {E : EE} {base : Nat} (x1 : Int32) (x2 : Int32) (x3 : Int32) (σ : St) (Q : Int32 → St → Prop) (h : wX11_first x1 x2 x3 σ Q) : Met l yX11_first (wy yX11_first cX11_first 5 (some .int)) rmX11_first (va_Pc [.ref (ga E 0), .int x1, .int x2, .int x3] (fun U => SW E base σ U)) (QI E base Q) (rmX11_first).cells (rmX11_first).slots (fun q => base ≤ q) :=
  met_of (by decide) (Nat.le_of_ble_eq_true rfl) (fun p e s m args below meth c C hr g ls hl => tX11_first_e C hr x1 x2 x3 _ _ _ _ hl g h)
abbrev rmX11_loss : Room := { frames := 7, cells := 0, slots := 0, locals := 171 }
def wX11_loss (x1 : Int32) (x2 : Int32) (x3 : Int32) (x4 : Int32) (x5 : Int32) (σ : St) (Q : Int32 → St → Prop) : Prop := ((x1 < 0 → Q (-1000000 : Int32) σ) ∧ (¬ (x1 < 0) → (((gv σ 4 4) ≤ x1 → Q (-1000000 : Int32) σ) ∧ (¬ ((gv σ 4 4) ≤ x1) → wX11_isMill x2 σ (fun (r3 : Int32) (σ4 : St) => ((r3 = 0 → Q (-1000000 : Int32) σ4) ∧ (¬ (r3 = 0) → wX11_isEnd x3 σ4 (fun (r6 : Int32) (σ7 : St) => ((r6 = 0 → Q (-1000000 : Int32) σ7) ∧ (¬ (r6 = 0) → wX11_isEnd x4 σ7 (fun (r9 : Int32) (σ10 : St) => ((r9 = 0 → Q (-1000000 : Int32) σ10) ∧ (¬ (r9 = 0) → wX11_isKnown x5 σ10 (fun (r12 : Int32) (σ13 : St) => ((r12 = 0 → Q (-1000000 : Int32) σ13) ∧ (¬ (r12 = 0) → wX10_begin 100 x5 (-1 : Int32) σ13 (fun (σ16 : St) => wX10_begin 113 x5 x1 σ16 (fun (σ18 : St) => wX10_worked 113 x2 x3 x4 σ18 (fun (r19 : Int32) (σ20 : St) => wX10_worked 100 x2 x3 x4 σ20 (fun (r21 : Int32) (σ22 : St) => Q (r19 - r21) σ22))))))))))))))))))))
set_option maxHeartbeats 4000000 in
set_option maxRecDepth 100000 in
theorem tX11_loss_e {p : Program} {l : Launch} {e : Env} {s : State} {m : MethodId} {args : Array Value} {below : List Frame} {meth : Method} {c : Code} {E : EE} {base : Nat} (C : Cx p E base s m args meth c cX11_loss 6 RX11) (hr : meth.sig.returnType = (some .int)) {Q : Int32 → St → Prop} : ∀ (x1 : Int32) (x2 : Int32) (x3 : Int32) (x4 : Int32) (x5 : Int32) (σ : St) (H : Heap) (locs : List Loc) (ls : Array Slot), lv_has ls 6 [(0, .ref (ga E 0)), (1, .int x1), (2, .int x2), (3, .int x3), (4, .int x4), (5, .int x5)] → GW E base s σ H locs → wX11_loss x1 x2 x3 x4 x5 σ Q → W p l e rmX11_loss s m args below meth c H locs 0 0 (MQ below (QI E base Q) args s 0 0 (fun q => base ≤ q)) (F0 m 0 ls []) := by
  intro x1 x2 x3 x4 x5 σ H locs ls hl g h
  refine lv_iload_n C.1 C.2.1 dX11_loss_0 rfl (lv_at hl 1 rfl) ?_
  refine lv_if_lt (tgt := 52) C.1 C.2.1 dX11_loss_1 (by decide) (fun c1 => ?_) (fun c1 => ?_)
  · have h := h.1 c1
    refine gx_ldc C ck_X11_130 dX11_loss_52 ?_
    exact gx_iret C hr g dX11_loss_54 h
  · have h := h.2 c1
    refine lv_iload_n C.1 C.2.1 dX11_loss_4 rfl (lv_at hl 1 rfl) ?_
    refine lv_aload_n C.1 C.2.1 dX11_loss_5 rfl (lv_at hl 0 rfl) ?_
    refine gx_getR C g fl_X11_10 dX11_loss_6 sh_0 rfl (by decide) ?_
    refine gx_getR C g fl_X11_117 dX11_loss_9 sh_1 rfl (by decide) ?_
    refine gx_getI C g fl_X11_155 dX11_loss_12 sh_4 rfl ?_
    refine lv_icmp_ge (tgt := 52) C.1 C.2.1 dX11_loss_15 (by decide) (fun c2 => ?_) (fun c2 => ?_)
    · have h := h.1 c2
      refine gx_ldc C ck_X11_130 dX11_loss_52 ?_
      exact gx_iret C hr g dX11_loss_54 h
    · have h := h.2 c2
      refine lv_aload_n C.1 C.2.1 dX11_loss_18 rfl (lv_at hl 0 rfl) ?_
      refine lv_iload_n C.1 C.2.1 dX11_loss_19 rfl (lv_at hl 2 rfl) ?_
      refine gx_calli0 g (gx_runV (k := 0) (rest := []) C g mb_X11_isMill ml_X11_101 rfl sh_0 (mX11_isMill x2 _ _ h) ⟨Nat.le_of_ble_eq_true rfl, Nat.le_of_ble_eq_true rfl⟩ ⟨Nat.le_refl _, Nat.le_refl _⟩ rfl hl.1 rfl (Nat.le_of_ble_eq_true rfl) dX11_loss_20) rfl rfl (fun r3 σ4 H locs h g => ?_)
      refine lv_if_eq (tgt := 52) C.1 C.2.1 dX11_loss_23 (by decide) (fun c5 => ?_) (fun c5 => ?_)
      · have h := h.1 c5
        refine gx_ldc C ck_X11_130 dX11_loss_52 ?_
        exact gx_iret C hr g dX11_loss_54 h
      · have h := h.2 c5
        refine lv_aload_n C.1 C.2.1 dX11_loss_26 rfl (lv_at hl 0 rfl) ?_
        refine lv_iload_n C.1 C.2.1 dX11_loss_27 rfl (lv_at hl 3 rfl) ?_
        refine gx_calli0 g (gx_runV (k := 0) (rest := []) C g mb_X11_isEnd ml_X11_143 rfl sh_0 (mX11_isEnd x3 _ _ h) ⟨Nat.le_of_ble_eq_true rfl, Nat.le_of_ble_eq_true rfl⟩ ⟨Nat.le_refl _, Nat.le_refl _⟩ rfl hl.1 rfl (Nat.le_of_ble_eq_true rfl) dX11_loss_28) rfl rfl (fun r6 σ7 H locs h g => ?_)
        refine lv_if_eq (tgt := 52) C.1 C.2.1 dX11_loss_31 (by decide) (fun c8 => ?_) (fun c8 => ?_)
        · have h := h.1 c8
          refine gx_ldc C ck_X11_130 dX11_loss_52 ?_
          exact gx_iret C hr g dX11_loss_54 h
        · have h := h.2 c8
          refine lv_aload_n C.1 C.2.1 dX11_loss_34 rfl (lv_at hl 0 rfl) ?_
          refine lv_iload C.1 C.2.1 dX11_loss_35 (lv_at hl 4 rfl) ?_
          refine gx_calli0 g (gx_runV (k := 0) (rest := []) C g mb_X11_isEnd ml_X11_143 rfl sh_0 (mX11_isEnd x4 _ _ h) ⟨Nat.le_of_ble_eq_true rfl, Nat.le_of_ble_eq_true rfl⟩ ⟨Nat.le_refl _, Nat.le_refl _⟩ rfl hl.1 rfl (Nat.le_of_ble_eq_true rfl) dX11_loss_37) rfl rfl (fun r9 σ10 H locs h g => ?_)
          refine lv_if_eq (tgt := 52) C.1 C.2.1 dX11_loss_40 (by decide) (fun c11 => ?_) (fun c11 => ?_)
          · have h := h.1 c11
            refine gx_ldc C ck_X11_130 dX11_loss_52 ?_
            exact gx_iret C hr g dX11_loss_54 h
          · have h := h.2 c11
            refine lv_aload_n C.1 C.2.1 dX11_loss_43 rfl (lv_at hl 0 rfl) ?_
            refine lv_iload C.1 C.2.1 dX11_loss_44 (lv_at hl 5 rfl) ?_
            refine gx_calli0 g (gx_runV (k := 0) (rest := []) C g mb_X11_isKnown ml_X11_127 rfl sh_0 (mX11_isKnown x5 _ _ h) ⟨Nat.le_of_ble_eq_true rfl, Nat.le_of_ble_eq_true rfl⟩ ⟨Nat.le_refl _, Nat.le_refl _⟩ rfl hl.1 rfl (Nat.le_of_ble_eq_true rfl) dX11_loss_46) rfl rfl (fun r12 σ13 H locs h g => ?_)
            refine lv_if_ne (tgt := 55) C.1 C.2.1 dX11_loss_49 (by decide) (fun c14 => ?_) (fun c14 => ?_)
            · have h := h.2 c14
              refine lv_aload_n C.1 C.2.1 dX11_loss_55 rfl (lv_at hl 0 rfl) ?_
              refine gx_getR C g fl_X11_10 dX11_loss_56 sh_0 rfl (by decide) ?_
              refine lv_aload_n C.1 C.2.1 dX11_loss_59 rfl (lv_at hl 0 rfl) ?_
              refine gx_getR C g fl_X11_33 dX11_loss_60 sh_0 rfl (by decide) ?_
              refine lv_iload C.1 C.2.1 dX11_loss_63 (lv_at hl 5 rfl) ?_
              refine lv_iconst (v := -1) C.1 C.2.1 dX11_loss_65 (by decide) ?_
              refine gx_callv0 g (gx_runV (k := 1) (rest := []) C g mb_X10_begin ml_X11_131 rfl sh_1 (mX10_begin 100 x5 (-1 : Int32) stg_100 _ _ h) ⟨Nat.le_of_ble_eq_true rfl, Nat.le_of_ble_eq_true rfl⟩ ⟨Nat.le_refl _, Nat.le_refl _⟩ rfl hl.1 rfl (Nat.le_of_ble_eq_true rfl) dX11_loss_66) rfl rfl (fun σ16 H locs h g => ?_)
              refine lv_aload_n C.1 C.2.1 dX11_loss_69 rfl (lv_at hl 0 rfl) ?_
              refine gx_getR C g fl_X11_10 dX11_loss_70 sh_0 rfl (by decide) ?_
              refine lv_aload_n C.1 C.2.1 dX11_loss_73 rfl (lv_at hl 0 rfl) ?_
              refine gx_getR C g fl_X11_37 dX11_loss_74 sh_0 rfl (by decide) ?_
              refine lv_iload C.1 C.2.1 dX11_loss_77 (lv_at hl 5 rfl) ?_
              refine lv_iload_n C.1 C.2.1 dX11_loss_79 rfl (lv_at hl 1 rfl) ?_
              refine gx_callv0 g (gx_runV (k := 1) (rest := []) C g mb_X10_begin ml_X11_131 rfl sh_1 (mX10_begin 113 x5 x1 stg_113 _ _ h) ⟨Nat.le_of_ble_eq_true rfl, Nat.le_of_ble_eq_true rfl⟩ ⟨Nat.le_refl _, Nat.le_refl _⟩ rfl hl.1 rfl (Nat.le_of_ble_eq_true rfl) dX11_loss_80) rfl rfl (fun σ18 H locs h g => ?_)
              refine lv_aload_n C.1 C.2.1 dX11_loss_83 rfl (lv_at hl 0 rfl) ?_
              refine gx_getR C g fl_X11_10 dX11_loss_84 sh_0 rfl (by decide) ?_
              refine lv_aload_n C.1 C.2.1 dX11_loss_87 rfl (lv_at hl 0 rfl) ?_
              refine gx_getR C g fl_X11_37 dX11_loss_88 sh_0 rfl (by decide) ?_
              refine lv_iload_n C.1 C.2.1 dX11_loss_91 rfl (lv_at hl 2 rfl) ?_
              refine lv_iload_n C.1 C.2.1 dX11_loss_92 rfl (lv_at hl 3 rfl) ?_
              refine lv_iload C.1 C.2.1 dX11_loss_93 (lv_at hl 4 rfl) ?_
              refine gx_calli0 g (gx_runV (k := 1) (rest := []) C g mb_X10_worked ml_X11_156 rfl sh_1 (mX10_worked 113 x2 x3 x4 stg_113 _ _ h) ⟨Nat.le_of_ble_eq_true rfl, Nat.le_of_ble_eq_true rfl⟩ ⟨Nat.le_refl _, Nat.le_refl _⟩ rfl hl.1 rfl (Nat.le_of_ble_eq_true rfl) dX11_loss_95) rfl rfl (fun r19 σ20 H locs h g => ?_)
              refine lv_aload_n C.1 C.2.1 dX11_loss_98 rfl (lv_at hl 0 rfl) ?_
              refine gx_getR C g fl_X11_10 dX11_loss_99 sh_0 rfl (by decide) ?_
              refine lv_aload_n C.1 C.2.1 dX11_loss_102 rfl (lv_at hl 0 rfl) ?_
              refine gx_getR C g fl_X11_33 dX11_loss_103 sh_0 rfl (by decide) ?_
              refine lv_iload_n C.1 C.2.1 dX11_loss_106 rfl (lv_at hl 2 rfl) ?_
              refine lv_iload_n C.1 C.2.1 dX11_loss_107 rfl (lv_at hl 3 rfl) ?_
              refine lv_iload C.1 C.2.1 dX11_loss_108 (lv_at hl 4 rfl) ?_
              refine gx_calli0 g (gx_runV (k := 1) (rest := [.int r19]) C g mb_X10_worked ml_X11_156 rfl sh_1 (mX10_worked 100 x2 x3 x4 stg_100 _ _ h) ⟨Nat.le_of_ble_eq_true rfl, Nat.le_of_ble_eq_true rfl⟩ ⟨Nat.le_refl _, Nat.le_refl _⟩ rfl hl.1 rfl (Nat.le_of_ble_eq_true rfl) dX11_loss_110) rfl rfl (fun r21 σ22 H locs h g => ?_)
              refine lv_isub C.1 C.2.1 dX11_loss_113 ?_
              exact gx_iret C hr g dX11_loss_114 h
            · have h := h.1 c14
              refine gx_ldc C ck_X11_130 dX11_loss_52 ?_
              exact gx_iret C hr g dX11_loss_54 h
theorem mX11_loss {l : Launch} {E : EE} {base : Nat} (x1 : Int32) (x2 : Int32) (x3 : Int32) (x4 : Int32) (x5 : Int32) (σ : St) (Q : Int32 → St → Prop) (h : wX11_loss x1 x2 x3 x4 x5 σ Q) : Met l yX11_loss (wy yX11_loss cX11_loss 6 (some .int)) rmX11_loss (va_Pc [.ref (ga E 0), .int x1, .int x2, .int x3, .int x4, .int x5] (fun U => SW E base σ U)) (QI E base Q) (rmX11_loss).cells (rmX11_loss).slots (fun q => base ≤ q) :=
  met_of (by decide) (Nat.le_of_ble_eq_true rfl) (fun p e s m args below meth c C hr g ls hl => tX11_loss_e C hr x1 x2 x3 x4 x5 _ _ _ _ hl g h)
abbrev rmX11_culprit : Room := { frames := 7, cells := 0, slots := 0, locals := 171 }
def wX11_culprit_221 (Q : Int32 → St → Prop) (K97 : Int32 → Int32 → Int32 → Int32 → Int32 → Int32 → Int32 → St → Prop) (x1 : Int32) (x2 : Int32) (x3 : Int32) (x6 : Int32) (x7 : Int32) (x8 : Int32) (x9 : Int32) (σ : St) : Prop := ∀ x9_1 : Int32, x9_1 = x9 + 1 → K97 x1 x2 x3 x6 x7 x8 x9_1 σ
def wX11_culprit_97 (Q : Int32 → St → Prop) : Nat → Int32 → Int32 → Int32 → Int32 → Int32 → Int32 → Int32 → St → Prop
  | 0, _, _, _, _, _, _, _, _ => False
  | n + 1, x1, x2, x3, x6, x7, x8, x9, σ => (((gv σ 4 4) ≤ x9 → Q x7 σ) ∧ (¬ ((gv σ 4 4) ≤ x9) → vp_in x9 200 ∧ ((x3 ≤ (gv σ 20 x9.toNatClampNeg) → Q x7 σ) ∧ (¬ (x3 ≤ (gv σ 20 x9.toNatClampNeg)) → vp_in x9 200 ∧ (((gv σ 21 x9.toNatClampNeg) = x1 → wX11_culprit_221 Q (fun x1' x2' x3' x6' x7' x8' x9' σ' => wX11_culprit_97 Q n x1' x2' x3' x6' x7' x8' x9' σ') x1 x2 x3 x6 x7 x8 x9 σ) ∧ (¬ ((gv σ 21 x9.toNatClampNeg) = x1) → wX4_matters x9 σ (fun (r6 : Int32) (σ7 : St) => ((r6 = 0 → wX11_culprit_221 Q (fun x1' x2' x3' x6' x7' x8' x9' σ' => wX11_culprit_97 Q n x1' x2' x3' x6' x7' x8' x9' σ') x1 x2 x3 x6 x7 x8 x9 σ7) ∧ (¬ (r6 = 0) → vp_in x9 200 ∧ wX10_worked 100 x1 x2 (gv σ7 20 x9.toNatClampNeg) σ7 (fun (r10 : Int32) (σ11 : St) => ∀ x8_12 : Int32, x8_12 = x8 + r10 → wX7_copy 113 100 σ11 (fun (σ14 : St) => ∀ σ15 : St, σ15 = pv σ14 113 4 x9 → wX10_worked 113 x1 x2 x3 σ15 (fun (r16 : Int32) (σ17 : St) => ∀ x10_18 : Int32, x10_18 = x8_12 + r16 → ((x10_18 ≤ x6 → wX11_culprit_221 Q (fun x1' x2' x3' x6' x7' x8' x9' σ' => wX11_culprit_97 Q n x1' x2' x3' x6' x7' x8' x9' σ') x1 x2 x3 x6 x7 x8_12 x9 σ17) ∧ (¬ (x10_18 ≤ x6) → wX11_culprit_221 Q (fun x1' x2' x3' x6' x7' x8' x9' σ' => wX11_culprit_97 Q n x1' x2' x3' x6' x7' x8' x9' σ') x1 x2 x3 x10_18 x9 x8_12 x9 σ17))))))))))))))
def wX11_culprit (x1 : Int32) (x2 : Int32) (x3 : Int32) (x4 : Int32) (σ : St) (Q : Int32 → St → Prop) : Prop := wX11_isMill x1 σ (fun (r1 : Int32) (σ2 : St) => ((r1 = 0 → Q (-1 : Int32) σ2) ∧ (¬ (r1 = 0) → wX11_isEnd x2 σ2 (fun (r4 : Int32) (σ5 : St) => ((r4 = 0 → Q (-1 : Int32) σ5) ∧ (¬ (r4 = 0) → wX11_isEnd x3 σ5 (fun (r7 : Int32) (σ8 : St) => ((r7 = 0 → Q (-1 : Int32) σ8) ∧ (¬ (r7 = 0) → wX11_isKnown x4 σ8 (fun (r10 : Int32) (σ11 : St) => ((r10 = 0 → Q (-1 : Int32) σ11) ∧ (¬ (r10 = 0) → wX10_begin 100 x4 (-1 : Int32) σ11 (fun (σ14 : St) => wX10_worked 100 x1 x2 x3 σ14 (fun (r15 : Int32) (σ16 : St) => wX10_begin 100 x4 (-1 : Int32) σ16 (fun (σ18 : St) => ∃ j : Nat, wX11_culprit_97 Q j x1 x2 x3 r15 (-1 : Int32) (0 : Int32) (0 : Int32) σ18)))))))))))))))
set_option maxHeartbeats 4000000 in
set_option maxRecDepth 100000 in
theorem tX11_culprit_221 {p : Program} {l : Launch} {e : Env} {s : State} {m : MethodId} {args : Array Value} {below : List Frame} {meth : Method} {c : Code} {E : EE} {base : Nat} (C : Cx p E base s m args meth c cX11_culprit 11 RX11) (hr : meth.sig.returnType = (some .int)) {Q : Int32 → St → Prop} {K97 : Int32 → Int32 → Int32 → Int32 → Int32 → Int32 → Int32 → St → Prop} (hK97 : ∀ (x1 : Int32) (x2 : Int32) (x3 : Int32) (x6 : Int32) (x7 : Int32) (x8 : Int32) (x9 : Int32) (σ : St) (H : Heap) (locs : List Loc) (ls : Array Slot), lv_has ls 11 [(0, .ref (ga E 0)), (1, .int x1), (2, .int x2), (3, .int x3), (5, .ref (ga E 4)), (6, .int x6), (7, .int x7), (8, .int x8), (9, .int x9)] → GW E base s σ H locs → K97 x1 x2 x3 x6 x7 x8 x9 σ → W p l e rmX11_culprit s m args below meth c H locs 0 0 (MQ below (QI E base Q) args s 0 0 (fun q => base ≤ q)) (F0 m 97 ls [])) : ∀ (x1 : Int32) (x2 : Int32) (x3 : Int32) (x6 : Int32) (x7 : Int32) (x8 : Int32) (x9 : Int32) (σ : St) (H : Heap) (locs : List Loc) (ls : Array Slot), lv_has ls 11 [(0, .ref (ga E 0)), (1, .int x1), (2, .int x2), (3, .int x3), (5, .ref (ga E 4)), (6, .int x6), (7, .int x7), (8, .int x8), (9, .int x9)] → GW E base s σ H locs → wX11_culprit_221 Q K97 x1 x2 x3 x6 x7 x8 x9 σ → W p l e rmX11_culprit s m args below meth c H locs 0 0 (MQ below (QI E base Q) args s 0 0 (fun q => base ≤ q)) (F0 m 221 ls []) := by
  intro x1 x2 x3 x6 x7 x8 x9 σ H locs ls hl g h
  obtain ⟨x9_1, ex9_1⟩ : ∃ y : Int32, y = x9 + 1 := ⟨_, rfl⟩
  have h := h x9_1 ex9_1
  refine lv_iinc (v := x9_1) (lv' := [(9, .int x9_1), (0, .ref (ga E 0)), (1, .int x1), (2, .int x2), (3, .int x3), (5, .ref (ga E 4)), (6, .int x6), (7, .int x7), (8, .int x8)]) C.1 C.2.1 dX11_culprit_221 hl (k := 8) rfl (by rw [ex9_1]; rfl) (by decide) rfl (fun ls hl => ?_)
  refine lv_goto (tgt := 97) C.1 C.2.1 dX11_culprit_224 (by decide) ?_
  exact hK97 x1 x2 x3 x6 x7 x8 x9_1 _ _ _ _ (lv_sub hl [1, 2, 3, 4, 5, 6, 7, 8, 0] rfl) g h
set_option maxHeartbeats 4000000 in
set_option maxRecDepth 100000 in
theorem tX11_culprit_97 {p : Program} {l : Launch} {e : Env} {s : State} {m : MethodId} {args : Array Value} {below : List Frame} {meth : Method} {c : Code} {E : EE} {base : Nat} (C : Cx p E base s m args meth c cX11_culprit 11 RX11) (hr : meth.sig.returnType = (some .int)) {Q : Int32 → St → Prop} : ∀ (n : Nat) (x1 : Int32) (x2 : Int32) (x3 : Int32) (x6 : Int32) (x7 : Int32) (x8 : Int32) (x9 : Int32) (σ : St) (H : Heap) (locs : List Loc) (ls : Array Slot), lv_has ls 11 [(0, .ref (ga E 0)), (1, .int x1), (2, .int x2), (3, .int x3), (5, .ref (ga E 4)), (6, .int x6), (7, .int x7), (8, .int x8), (9, .int x9)] → GW E base s σ H locs → wX11_culprit_97 Q n x1 x2 x3 x6 x7 x8 x9 σ → W p l e rmX11_culprit s m args below meth c H locs 0 0 (MQ below (QI E base Q) args s 0 0 (fun q => base ≤ q)) (F0 m 97 ls []) := by
  intro n
  induction n with
  | zero => intro _ _ _ _ _ _ _; intros; exact False.elim (by assumption)
  | succ n ih =>
    intro x1 x2 x3 x6 x7 x8 x9 σ H locs ls hl g h
    refine lv_iload C.1 C.2.1 dX11_culprit_97 (lv_at hl 8 rfl) ?_
    refine lv_aload C.1 C.2.1 dX11_culprit_99 (lv_at hl 4 rfl) ?_
    refine gx_getI C g fl_X11_155 dX11_culprit_101 sh_4 rfl ?_
    refine lv_icmp_ge (tgt := 227) C.1 C.2.1 dX11_culprit_104 (by decide) (fun c1 => ?_) (fun c1 => ?_)
    · have h := h.1 c1
      refine lv_iload C.1 C.2.1 dX11_culprit_227 (lv_at hl 6 rfl) ?_
      exact gx_iret C hr g dX11_culprit_229 h
    · have h := h.2 c1
      refine lv_aload C.1 C.2.1 dX11_culprit_107 (lv_at hl 4 rfl) ?_
      refine gx_getR C g fl_X11_160 dX11_culprit_109 sh_4 rfl (by decide) ?_
      refine lv_iload C.1 C.2.1 dX11_culprit_112 (lv_at hl 8 rfl) ?_
      obtain ⟨i2, h⟩ := h
      refine gx_iald C g dX11_culprit_114 sh_20 i2 ?_
      refine lv_iload_n C.1 C.2.1 dX11_culprit_115 rfl (lv_at hl 3 rfl) ?_
      refine lv_icmp_ge (tgt := 227) C.1 C.2.1 dX11_culprit_116 (by decide) (fun c3 => ?_) (fun c3 => ?_)
      · have h := h.1 c3
        refine lv_iload C.1 C.2.1 dX11_culprit_227 (lv_at hl 6 rfl) ?_
        exact gx_iret C hr g dX11_culprit_229 h
      · have h := h.2 c3
        refine lv_aload C.1 C.2.1 dX11_culprit_119 (lv_at hl 4 rfl) ?_
        refine gx_getR C g fl_X11_164 dX11_culprit_121 sh_4 rfl (by decide) ?_
        refine lv_iload C.1 C.2.1 dX11_culprit_124 (lv_at hl 8 rfl) ?_
        obtain ⟨i4, h⟩ := h
        refine gx_iald C g dX11_culprit_126 sh_21 i4 ?_
        refine lv_iload_n C.1 C.2.1 dX11_culprit_127 rfl (lv_at hl 1 rfl) ?_
        refine lv_icmp_eq (tgt := 221) C.1 C.2.1 dX11_culprit_128 (by decide) (fun c5 => ?_) (fun c5 => ?_)
        · have h := h.1 c5
          exact tX11_culprit_221 C hr ih x1 x2 x3 x6 x7 x8 x9 _ _ _ _ (lv_sub hl [0, 1, 2, 3, 4, 5, 6, 7, 8] rfl) g h
        · have h := h.2 c5
          refine lv_aload C.1 C.2.1 dX11_culprit_131 (lv_at hl 4 rfl) ?_
          refine lv_iload C.1 C.2.1 dX11_culprit_133 (lv_at hl 8 rfl) ?_
          refine gx_calli0 g (gx_runV (k := 4) (rest := []) C g mb_X4_matters ml_X11_167 rfl sh_4 (mX4_matters x9 _ _ h) ⟨Nat.le_of_ble_eq_true rfl, Nat.le_of_ble_eq_true rfl⟩ ⟨Nat.le_refl _, Nat.le_refl _⟩ rfl hl.1 rfl (Nat.le_of_ble_eq_true rfl) dX11_culprit_135) rfl rfl (fun r6 σ7 H locs h g => ?_)
          refine lv_if_eq (tgt := 221) C.1 C.2.1 dX11_culprit_138 (by decide) (fun c8 => ?_) (fun c8 => ?_)
          · have h := h.1 c8
            exact tX11_culprit_221 C hr ih x1 x2 x3 x6 x7 x8 x9 _ _ _ _ (lv_sub hl [0, 1, 2, 3, 4, 5, 6, 7, 8] rfl) g h
          · have h := h.2 c8
            refine lv_iload C.1 C.2.1 dX11_culprit_141 (lv_at hl 7 rfl) ?_
            refine lv_aload_n C.1 C.2.1 dX11_culprit_143 rfl (lv_at hl 0 rfl) ?_
            refine gx_getR C g fl_X11_10 dX11_culprit_144 sh_0 rfl (by decide) ?_
            refine lv_aload_n C.1 C.2.1 dX11_culprit_147 rfl (lv_at hl 0 rfl) ?_
            refine gx_getR C g fl_X11_33 dX11_culprit_148 sh_0 rfl (by decide) ?_
            refine lv_iload_n C.1 C.2.1 dX11_culprit_151 rfl (lv_at hl 1 rfl) ?_
            refine lv_iload_n C.1 C.2.1 dX11_culprit_152 rfl (lv_at hl 2 rfl) ?_
            refine lv_aload C.1 C.2.1 dX11_culprit_153 (lv_at hl 4 rfl) ?_
            refine gx_getR C g fl_X11_160 dX11_culprit_155 sh_4 rfl (by decide) ?_
            refine lv_iload C.1 C.2.1 dX11_culprit_158 (lv_at hl 8 rfl) ?_
            obtain ⟨i9, h⟩ := h
            refine gx_iald C g dX11_culprit_160 sh_20 i9 ?_
            refine gx_calli0 g (gx_runV (k := 1) (rest := [.int x8]) C g mb_X10_worked ml_X11_156 rfl sh_1 (mX10_worked 100 x1 x2 (gv σ7 20 x9.toNatClampNeg) stg_100 _ _ h) ⟨Nat.le_of_ble_eq_true rfl, Nat.le_of_ble_eq_true rfl⟩ ⟨Nat.le_refl _, Nat.le_refl _⟩ rfl hl.1 rfl (Nat.le_of_ble_eq_true rfl) dX11_culprit_161) rfl rfl (fun r10 σ11 H locs h g => ?_)
            refine lv_iadd C.1 C.2.1 dX11_culprit_164 ?_
            refine lv_topi (fun x8_12 ex8_12 => ?_)
            have h := h x8_12 ex8_12
            refine lv_istore (lv' := [(8, .int x8_12), (0, .ref (ga E 0)), (1, .int x1), (2, .int x2), (3, .int x3), (5, .ref (ga E 4)), (6, .int x6), (7, .int x7), (9, .int x9)]) C.1 C.2.1 dX11_culprit_165 hl (by decide) rfl (fun ls hl => ?_)
            refine lv_aload_n C.1 C.2.1 dX11_culprit_167 rfl (lv_at hl 1 rfl) ?_
            refine gx_getR C g fl_X11_37 dX11_culprit_168 sh_0 rfl (by decide) ?_
            refine lv_aload_n C.1 C.2.1 dX11_culprit_171 rfl (lv_at hl 1 rfl) ?_
            refine gx_getR C g fl_X11_33 dX11_culprit_172 sh_0 rfl (by decide) ?_
            refine gx_callv0 g (gx_runV (k := 113) (rest := []) C g mb_X7_copy ml_X11_170 rfl sh_113 (mX7_copy 113 100 stg_113 stg_100 _ _ h) ⟨Nat.le_of_ble_eq_true rfl, Nat.le_of_ble_eq_true rfl⟩ ⟨Nat.le_refl _, Nat.le_refl _⟩ rfl hl.1 rfl (Nat.le_of_ble_eq_true rfl) dX11_culprit_175) rfl rfl (fun σ14 H locs h g => ?_)
            refine lv_aload_n C.1 C.2.1 dX11_culprit_178 rfl (lv_at hl 1 rfl) ?_
            refine gx_getR C g fl_X11_37 dX11_culprit_179 sh_0 rfl (by decide) ?_
            refine lv_iload C.1 C.2.1 dX11_culprit_182 (lv_at hl 8 rfl) ?_
            refine gx_putI C g fi_X11_173 dX11_culprit_184 sh_113 rfl (fun H locs σ15 eσ15 g => ?_)
            have h := h σ15 eσ15
            refine lv_iload C.1 C.2.1 dX11_culprit_187 (lv_at hl 0 rfl) ?_
            refine lv_aload_n C.1 C.2.1 dX11_culprit_189 rfl (lv_at hl 1 rfl) ?_
            refine gx_getR C g fl_X11_10 dX11_culprit_190 sh_0 rfl (by decide) ?_
            refine lv_aload_n C.1 C.2.1 dX11_culprit_193 rfl (lv_at hl 1 rfl) ?_
            refine gx_getR C g fl_X11_37 dX11_culprit_194 sh_0 rfl (by decide) ?_
            refine lv_iload_n C.1 C.2.1 dX11_culprit_197 rfl (lv_at hl 2 rfl) ?_
            refine lv_iload_n C.1 C.2.1 dX11_culprit_198 rfl (lv_at hl 3 rfl) ?_
            refine lv_iload_n C.1 C.2.1 dX11_culprit_199 rfl (lv_at hl 4 rfl) ?_
            refine gx_calli0 g (gx_runV (k := 1) (rest := [.int x8_12]) C g mb_X10_worked ml_X11_156 rfl sh_1 (mX10_worked 113 x1 x2 x3 stg_113 _ _ h) ⟨Nat.le_of_ble_eq_true rfl, Nat.le_of_ble_eq_true rfl⟩ ⟨Nat.le_refl _, Nat.le_refl _⟩ rfl hl.1 rfl (Nat.le_of_ble_eq_true rfl) dX11_culprit_200) rfl rfl (fun r16 σ17 H locs h g => ?_)
            refine lv_iadd C.1 C.2.1 dX11_culprit_203 ?_
            refine lv_topi (fun x10_18 ex10_18 => ?_)
            have h := h x10_18 ex10_18
            refine lv_istore (lv' := [(10, .int x10_18), (8, .int x8_12), (0, .ref (ga E 0)), (1, .int x1), (2, .int x2), (3, .int x3), (5, .ref (ga E 4)), (6, .int x6), (7, .int x7), (9, .int x9)]) C.1 C.2.1 dX11_culprit_204 hl (by decide) rfl (fun ls hl => ?_)
            refine lv_iload C.1 C.2.1 dX11_culprit_206 (lv_at hl 0 rfl) ?_
            refine lv_iload C.1 C.2.1 dX11_culprit_208 (lv_at hl 7 rfl) ?_
            refine lv_icmp_le (tgt := 221) C.1 C.2.1 dX11_culprit_210 (by decide) (fun c19 => ?_) (fun c19 => ?_)
            · have h := h.1 c19
              exact tX11_culprit_221 C hr ih x1 x2 x3 x6 x7 x8_12 x9 _ _ _ _ (lv_sub hl [2, 3, 4, 5, 6, 7, 8, 1, 9] rfl) g h
            · have h := h.2 c19
              refine lv_iload C.1 C.2.1 dX11_culprit_213 (lv_at hl 0 rfl) ?_
              refine lv_istore (lv' := [(6, .int x10_18), (10, .int x10_18), (8, .int x8_12), (0, .ref (ga E 0)), (1, .int x1), (2, .int x2), (3, .int x3), (5, .ref (ga E 4)), (7, .int x7), (9, .int x9)]) C.1 C.2.1 dX11_culprit_215 hl (by decide) rfl (fun ls hl => ?_)
              refine lv_iload C.1 C.2.1 dX11_culprit_217 (lv_at hl 9 rfl) ?_
              refine lv_istore (lv' := [(7, .int x9), (6, .int x10_18), (10, .int x10_18), (8, .int x8_12), (0, .ref (ga E 0)), (1, .int x1), (2, .int x2), (3, .int x3), (5, .ref (ga E 4)), (9, .int x9)]) C.1 C.2.1 dX11_culprit_219 hl (by decide) rfl (fun ls hl => ?_)
              exact tX11_culprit_221 C hr ih x1 x2 x3 x10_18 x9 x8_12 x9 _ _ _ _ (lv_sub hl [4, 5, 6, 7, 8, 1, 0, 3, 9] rfl) g h
set_option maxHeartbeats 4000000 in
set_option maxRecDepth 100000 in
theorem tX11_culprit_e {p : Program} {l : Launch} {e : Env} {s : State} {m : MethodId} {args : Array Value} {below : List Frame} {meth : Method} {c : Code} {E : EE} {base : Nat} (C : Cx p E base s m args meth c cX11_culprit 11 RX11) (hr : meth.sig.returnType = (some .int)) {Q : Int32 → St → Prop} : ∀ (x1 : Int32) (x2 : Int32) (x3 : Int32) (x4 : Int32) (σ : St) (H : Heap) (locs : List Loc) (ls : Array Slot), lv_has ls 11 [(0, .ref (ga E 0)), (1, .int x1), (2, .int x2), (3, .int x3), (4, .int x4)] → GW E base s σ H locs → wX11_culprit x1 x2 x3 x4 σ Q → W p l e rmX11_culprit s m args below meth c H locs 0 0 (MQ below (QI E base Q) args s 0 0 (fun q => base ≤ q)) (F0 m 0 ls []) := by
  intro x1 x2 x3 x4 σ H locs ls hl g h
  refine lv_aload_n C.1 C.2.1 dX11_culprit_0 rfl (lv_at hl 0 rfl) ?_
  refine lv_iload_n C.1 C.2.1 dX11_culprit_1 rfl (lv_at hl 1 rfl) ?_
  refine gx_calli0 g (gx_runV (k := 0) (rest := []) C g mb_X11_isMill ml_X11_101 rfl sh_0 (mX11_isMill x1 _ _ h) ⟨Nat.le_of_ble_eq_true rfl, Nat.le_of_ble_eq_true rfl⟩ ⟨Nat.le_refl _, Nat.le_refl _⟩ rfl hl.1 rfl (Nat.le_of_ble_eq_true rfl) dX11_culprit_2) rfl rfl (fun r1 σ2 H locs h g => ?_)
  refine lv_if_eq (tgt := 33) C.1 C.2.1 dX11_culprit_5 (by decide) (fun c3 => ?_) (fun c3 => ?_)
  · have h := h.1 c3
    refine lv_iconst (v := -1) C.1 C.2.1 dX11_culprit_33 (by decide) ?_
    exact gx_iret C hr g dX11_culprit_34 h
  · have h := h.2 c3
    refine lv_aload_n C.1 C.2.1 dX11_culprit_8 rfl (lv_at hl 0 rfl) ?_
    refine lv_iload_n C.1 C.2.1 dX11_culprit_9 rfl (lv_at hl 2 rfl) ?_
    refine gx_calli0 g (gx_runV (k := 0) (rest := []) C g mb_X11_isEnd ml_X11_143 rfl sh_0 (mX11_isEnd x2 _ _ h) ⟨Nat.le_of_ble_eq_true rfl, Nat.le_of_ble_eq_true rfl⟩ ⟨Nat.le_refl _, Nat.le_refl _⟩ rfl hl.1 rfl (Nat.le_of_ble_eq_true rfl) dX11_culprit_10) rfl rfl (fun r4 σ5 H locs h g => ?_)
    refine lv_if_eq (tgt := 33) C.1 C.2.1 dX11_culprit_13 (by decide) (fun c6 => ?_) (fun c6 => ?_)
    · have h := h.1 c6
      refine lv_iconst (v := -1) C.1 C.2.1 dX11_culprit_33 (by decide) ?_
      exact gx_iret C hr g dX11_culprit_34 h
    · have h := h.2 c6
      refine lv_aload_n C.1 C.2.1 dX11_culprit_16 rfl (lv_at hl 0 rfl) ?_
      refine lv_iload_n C.1 C.2.1 dX11_culprit_17 rfl (lv_at hl 3 rfl) ?_
      refine gx_calli0 g (gx_runV (k := 0) (rest := []) C g mb_X11_isEnd ml_X11_143 rfl sh_0 (mX11_isEnd x3 _ _ h) ⟨Nat.le_of_ble_eq_true rfl, Nat.le_of_ble_eq_true rfl⟩ ⟨Nat.le_refl _, Nat.le_refl _⟩ rfl hl.1 rfl (Nat.le_of_ble_eq_true rfl) dX11_culprit_18) rfl rfl (fun r7 σ8 H locs h g => ?_)
      refine lv_if_eq (tgt := 33) C.1 C.2.1 dX11_culprit_21 (by decide) (fun c9 => ?_) (fun c9 => ?_)
      · have h := h.1 c9
        refine lv_iconst (v := -1) C.1 C.2.1 dX11_culprit_33 (by decide) ?_
        exact gx_iret C hr g dX11_culprit_34 h
      · have h := h.2 c9
        refine lv_aload_n C.1 C.2.1 dX11_culprit_24 rfl (lv_at hl 0 rfl) ?_
        refine lv_iload C.1 C.2.1 dX11_culprit_25 (lv_at hl 4 rfl) ?_
        refine gx_calli0 g (gx_runV (k := 0) (rest := []) C g mb_X11_isKnown ml_X11_127 rfl sh_0 (mX11_isKnown x4 _ _ h) ⟨Nat.le_of_ble_eq_true rfl, Nat.le_of_ble_eq_true rfl⟩ ⟨Nat.le_refl _, Nat.le_refl _⟩ rfl hl.1 rfl (Nat.le_of_ble_eq_true rfl) dX11_culprit_27) rfl rfl (fun r10 σ11 H locs h g => ?_)
        refine lv_if_ne (tgt := 35) C.1 C.2.1 dX11_culprit_30 (by decide) (fun c12 => ?_) (fun c12 => ?_)
        · have h := h.2 c12
          refine lv_aload_n C.1 C.2.1 dX11_culprit_35 rfl (lv_at hl 0 rfl) ?_
          refine gx_getR C g fl_X11_10 dX11_culprit_36 sh_0 rfl (by decide) ?_
          refine gx_getR C g fl_X11_117 dX11_culprit_39 sh_1 rfl (by decide) ?_
          refine lv_astore (lv' := [(5, .ref (ga E 4)), (0, .ref (ga E 0)), (1, .int x1), (2, .int x2), (3, .int x3), (4, .int x4)]) C.1 C.2.1 dX11_culprit_42 hl (by decide) rfl (fun ls hl => ?_)
          refine lv_aload_n C.1 C.2.1 dX11_culprit_44 rfl (lv_at hl 1 rfl) ?_
          refine gx_getR C g fl_X11_10 dX11_culprit_45 sh_0 rfl (by decide) ?_
          refine lv_aload_n C.1 C.2.1 dX11_culprit_48 rfl (lv_at hl 1 rfl) ?_
          refine gx_getR C g fl_X11_33 dX11_culprit_49 sh_0 rfl (by decide) ?_
          refine lv_iload C.1 C.2.1 dX11_culprit_52 (lv_at hl 5 rfl) ?_
          refine lv_iconst (v := -1) C.1 C.2.1 dX11_culprit_54 (by decide) ?_
          refine gx_callv0 g (gx_runV (k := 1) (rest := []) C g mb_X10_begin ml_X11_131 rfl sh_1 (mX10_begin 100 x4 (-1 : Int32) stg_100 _ _ h) ⟨Nat.le_of_ble_eq_true rfl, Nat.le_of_ble_eq_true rfl⟩ ⟨Nat.le_refl _, Nat.le_refl _⟩ rfl hl.1 rfl (Nat.le_of_ble_eq_true rfl) dX11_culprit_55) rfl rfl (fun σ14 H locs h g => ?_)
          refine lv_aload_n C.1 C.2.1 dX11_culprit_58 rfl (lv_at hl 1 rfl) ?_
          refine gx_getR C g fl_X11_10 dX11_culprit_59 sh_0 rfl (by decide) ?_
          refine lv_aload_n C.1 C.2.1 dX11_culprit_62 rfl (lv_at hl 1 rfl) ?_
          refine gx_getR C g fl_X11_33 dX11_culprit_63 sh_0 rfl (by decide) ?_
          refine lv_iload_n C.1 C.2.1 dX11_culprit_66 rfl (lv_at hl 2 rfl) ?_
          refine lv_iload_n C.1 C.2.1 dX11_culprit_67 rfl (lv_at hl 3 rfl) ?_
          refine lv_iload_n C.1 C.2.1 dX11_culprit_68 rfl (lv_at hl 4 rfl) ?_
          refine gx_calli0 g (gx_runV (k := 1) (rest := []) C g mb_X10_worked ml_X11_156 rfl sh_1 (mX10_worked 100 x1 x2 x3 stg_100 _ _ h) ⟨Nat.le_of_ble_eq_true rfl, Nat.le_of_ble_eq_true rfl⟩ ⟨Nat.le_refl _, Nat.le_refl _⟩ rfl hl.1 rfl (Nat.le_of_ble_eq_true rfl) dX11_culprit_69) rfl rfl (fun r15 σ16 H locs h g => ?_)
          refine lv_istore (lv' := [(6, .int r15), (5, .ref (ga E 4)), (0, .ref (ga E 0)), (1, .int x1), (2, .int x2), (3, .int x3), (4, .int x4)]) C.1 C.2.1 dX11_culprit_72 hl (by decide) rfl (fun ls hl => ?_)
          refine lv_iconst (v := -1) C.1 C.2.1 dX11_culprit_74 (by decide) ?_
          refine lv_istore (lv' := [(7, .int (-1 : Int32)), (6, .int r15), (5, .ref (ga E 4)), (0, .ref (ga E 0)), (1, .int x1), (2, .int x2), (3, .int x3), (4, .int x4)]) C.1 C.2.1 dX11_culprit_75 hl (by decide) rfl (fun ls hl => ?_)
          refine lv_iconst (v := 0) C.1 C.2.1 dX11_culprit_77 (by decide) ?_
          refine lv_istore (lv' := [(8, .int (0 : Int32)), (7, .int (-1 : Int32)), (6, .int r15), (5, .ref (ga E 4)), (0, .ref (ga E 0)), (1, .int x1), (2, .int x2), (3, .int x3), (4, .int x4)]) C.1 C.2.1 dX11_culprit_78 hl (by decide) rfl (fun ls hl => ?_)
          refine lv_aload_n C.1 C.2.1 dX11_culprit_80 rfl (lv_at hl 4 rfl) ?_
          refine gx_getR C g fl_X11_10 dX11_culprit_81 sh_0 rfl (by decide) ?_
          refine lv_aload_n C.1 C.2.1 dX11_culprit_84 rfl (lv_at hl 4 rfl) ?_
          refine gx_getR C g fl_X11_33 dX11_culprit_85 sh_0 rfl (by decide) ?_
          refine lv_iload C.1 C.2.1 dX11_culprit_88 (lv_at hl 8 rfl) ?_
          refine lv_iconst (v := -1) C.1 C.2.1 dX11_culprit_90 (by decide) ?_
          refine gx_callv0 g (gx_runV (k := 1) (rest := []) C g mb_X10_begin ml_X11_131 rfl sh_1 (mX10_begin 100 x4 (-1 : Int32) stg_100 _ _ h) ⟨Nat.le_of_ble_eq_true rfl, Nat.le_of_ble_eq_true rfl⟩ ⟨Nat.le_refl _, Nat.le_refl _⟩ rfl hl.1 rfl (Nat.le_of_ble_eq_true rfl) dX11_culprit_91) rfl rfl (fun σ18 H locs h g => ?_)
          refine lv_iconst (v := 0) C.1 C.2.1 dX11_culprit_94 (by decide) ?_
          refine lv_istore (lv' := [(9, .int (0 : Int32)), (8, .int (0 : Int32)), (7, .int (-1 : Int32)), (6, .int r15), (5, .ref (ga E 4)), (0, .ref (ga E 0)), (1, .int x1), (2, .int x2), (3, .int x3), (4, .int x4)]) C.1 C.2.1 dX11_culprit_95 hl (by decide) rfl (fun ls hl => ?_)
          obtain ⟨j, h⟩ := h
          exact tX11_culprit_97 C hr j x1 x2 x3 r15 (-1 : Int32) (0 : Int32) (0 : Int32) _ _ _ _ (lv_sub hl [5, 6, 7, 8, 4, 3, 2, 1, 0] rfl) g h
        · have h := h.1 c12
          refine lv_iconst (v := -1) C.1 C.2.1 dX11_culprit_33 (by decide) ?_
          exact gx_iret C hr g dX11_culprit_34 h
theorem mX11_culprit {l : Launch} {E : EE} {base : Nat} (x1 : Int32) (x2 : Int32) (x3 : Int32) (x4 : Int32) (σ : St) (Q : Int32 → St → Prop) (h : wX11_culprit x1 x2 x3 x4 σ Q) : Met l yX11_culprit (wy yX11_culprit cX11_culprit 11 (some .int)) rmX11_culprit (va_Pc [.ref (ga E 0), .int x1, .int x2, .int x3, .int x4] (fun U => SW E base σ U)) (QI E base Q) (rmX11_culprit).cells (rmX11_culprit).slots (fun q => base ≤ q) :=
  met_of (by decide) (Nat.le_of_ble_eq_true rfl) (fun p e s m args below meth c C hr g ls hl => tX11_culprit_e C hr x1 x2 x3 x4 _ _ _ _ hl g h)
abbrev rmX11_plan : Room := { frames := 162, cells := 0, slots := 0, locals := 4852 }
def wX11_plan (x1 : Int32) (x2 : Int32) (x3 : Int32) (σ : St) (Q : Int32 → St → Prop) : Prop := wX11_isMill x1 σ (fun (r1 : Int32) (σ2 : St) => ((r1 = 0 → Q (-2 : Int32) σ2) ∧ (¬ (r1 = 0) → ((x2 < (1 : Int32) → Q (-2 : Int32) σ2) ∧ (¬ (x2 < (1 : Int32)) → (((6 : Int32) < x2 → Q (-2 : Int32) σ2) ∧ (¬ ((6 : Int32) < x2) → ((((240 : Int32) - (gv σ2 0 5)) < x2 → Q (-2 : Int32) σ2) ∧ (¬ (((240 : Int32) - (gv σ2 0 5)) < x2) → ((x3 < 0 → Q (-2 : Int32) σ2) ∧ (¬ (x3 < 0) → ((x3 ≤ (10000 : Int32) → wX5_ask x1 x2 x3 σ2 (fun (σ10 : St) => wX10_begin 100 (gv σ10 3 0) (-1 : Int32) σ10 (fun (σ12 : St) => wX10_run 100 ((gv σ12 0 5) - (1 : Int32)) σ12 (fun (σ14 : St) => wX5_find 100 σ14 (fun (r15 : Int32) (σ16 : St) => Q r15 σ16))))) ∧ (¬ (x3 ≤ (10000 : Int32)) → Q (-2 : Int32) σ2)))))))))))))
set_option maxHeartbeats 4000000 in
set_option maxRecDepth 100000 in
theorem tX11_plan_e {p : Program} {l : Launch} {e : Env} {s : State} {m : MethodId} {args : Array Value} {below : List Frame} {meth : Method} {c : Code} {E : EE} {base : Nat} (C : Cx p E base s m args meth c cX11_plan 4 RX11) (hr : meth.sig.returnType = (some .int)) {Q : Int32 → St → Prop} : ∀ (x1 : Int32) (x2 : Int32) (x3 : Int32) (σ : St) (H : Heap) (locs : List Loc) (ls : Array Slot), lv_has ls 4 [(0, .ref (ga E 0)), (1, .int x1), (2, .int x2), (3, .int x3)] → GW E base s σ H locs → wX11_plan x1 x2 x3 σ Q → W p l e rmX11_plan s m args below meth c H locs 0 0 (MQ below (QI E base Q) args s 0 0 (fun q => base ≤ q)) (F0 m 0 ls []) := by
  intro x1 x2 x3 σ H locs ls hl g h
  refine lv_aload_n C.1 C.2.1 dX11_plan_0 rfl (lv_at hl 0 rfl) ?_
  refine lv_iload_n C.1 C.2.1 dX11_plan_1 rfl (lv_at hl 1 rfl) ?_
  refine gx_calli0 g (gx_runV (k := 0) (rest := []) C g mb_X11_isMill ml_X11_101 rfl sh_0 (mX11_isMill x1 _ _ h) ⟨Nat.le_of_ble_eq_true rfl, Nat.le_of_ble_eq_true rfl⟩ ⟨Nat.le_refl _, Nat.le_refl _⟩ rfl hl.1 rfl (Nat.le_of_ble_eq_true rfl) dX11_plan_2) rfl rfl (fun r1 σ2 H locs h g => ?_)
  refine lv_if_eq (tgt := 42) C.1 C.2.1 dX11_plan_5 (by decide) (fun c3 => ?_) (fun c3 => ?_)
  · have h := h.1 c3
    refine lv_bipush (v := -2) C.1 C.2.1 dX11_plan_42 (by decide) ?_
    exact gx_iret C hr g dX11_plan_44 h
  · have h := h.2 c3
    refine lv_iload_n C.1 C.2.1 dX11_plan_8 rfl (lv_at hl 2 rfl) ?_
    refine lv_iconst (v := 1) C.1 C.2.1 dX11_plan_9 (by decide) ?_
    refine lv_icmp_lt (tgt := 42) C.1 C.2.1 dX11_plan_10 (by decide) (fun c4 => ?_) (fun c4 => ?_)
    · have h := h.1 c4
      refine lv_bipush (v := -2) C.1 C.2.1 dX11_plan_42 (by decide) ?_
      exact gx_iret C hr g dX11_plan_44 h
    · have h := h.2 c4
      refine lv_iload_n C.1 C.2.1 dX11_plan_13 rfl (lv_at hl 2 rfl) ?_
      refine lv_bipush (v := 6) C.1 C.2.1 dX11_plan_14 (by decide) ?_
      refine lv_icmp_gt (tgt := 42) C.1 C.2.1 dX11_plan_16 (by decide) (fun c5 => ?_) (fun c5 => ?_)
      · have h := h.1 c5
        refine lv_bipush (v := -2) C.1 C.2.1 dX11_plan_42 (by decide) ?_
        exact gx_iret C hr g dX11_plan_44 h
      · have h := h.2 c5
        refine lv_iload_n C.1 C.2.1 dX11_plan_19 rfl (lv_at hl 2 rfl) ?_
        refine lv_sipush (v := 240) C.1 C.2.1 dX11_plan_20 (by decide) ?_
        refine lv_aload_n C.1 C.2.1 dX11_plan_23 rfl (lv_at hl 0 rfl) ?_
        refine gx_getI C g fl_X11_40 dX11_plan_24 sh_0 rfl ?_
        refine lv_isub C.1 C.2.1 dX11_plan_27 ?_
        refine lv_icmp_gt (tgt := 42) C.1 C.2.1 dX11_plan_28 (by decide) (fun c6 => ?_) (fun c6 => ?_)
        · have h := h.1 c6
          refine lv_bipush (v := -2) C.1 C.2.1 dX11_plan_42 (by decide) ?_
          exact gx_iret C hr g dX11_plan_44 h
        · have h := h.2 c6
          refine lv_iload_n C.1 C.2.1 dX11_plan_31 rfl (lv_at hl 3 rfl) ?_
          refine lv_if_lt (tgt := 42) C.1 C.2.1 dX11_plan_32 (by decide) (fun c7 => ?_) (fun c7 => ?_)
          · have h := h.1 c7
            refine lv_bipush (v := -2) C.1 C.2.1 dX11_plan_42 (by decide) ?_
            exact gx_iret C hr g dX11_plan_44 h
          · have h := h.2 c7
            refine lv_iload_n C.1 C.2.1 dX11_plan_35 rfl (lv_at hl 3 rfl) ?_
            refine lv_sipush (v := 10000) C.1 C.2.1 dX11_plan_36 (by decide) ?_
            refine lv_icmp_le (tgt := 45) C.1 C.2.1 dX11_plan_39 (by decide) (fun c8 => ?_) (fun c8 => ?_)
            · have h := h.1 c8
              refine lv_aload_n C.1 C.2.1 dX11_plan_45 rfl (lv_at hl 0 rfl) ?_
              refine gx_getR C g fl_X11_26 dX11_plan_46 sh_0 rfl (by decide) ?_
              refine lv_iload_n C.1 C.2.1 dX11_plan_49 rfl (lv_at hl 1 rfl) ?_
              refine lv_iload_n C.1 C.2.1 dX11_plan_50 rfl (lv_at hl 2 rfl) ?_
              refine lv_iload_n C.1 C.2.1 dX11_plan_51 rfl (lv_at hl 3 rfl) ?_
              refine lv_aload_n C.1 C.2.1 dX11_plan_52 rfl (lv_at hl 0 rfl) ?_
              refine gx_getR C g fl_X11_10 dX11_plan_53 sh_0 rfl (by decide) ?_
              refine gx_getR C g fl_X11_77 dX11_plan_56 sh_1 rfl (by decide) ?_
              refine gx_callv0 g (gx_runV (k := 10) (rest := []) C g mb_X5_ask ml_X11_176 rfl sh_10 (mX5_ask x1 x2 x3 _ _ h) ⟨Nat.le_of_ble_eq_true rfl, Nat.le_of_ble_eq_true rfl⟩ ⟨Nat.le_refl _, Nat.le_refl _⟩ rfl hl.1 rfl (Nat.le_of_ble_eq_true rfl) dX11_plan_59) rfl rfl (fun σ10 H locs h g => ?_)
              refine lv_aload_n C.1 C.2.1 dX11_plan_62 rfl (lv_at hl 0 rfl) ?_
              refine gx_getR C g fl_X11_10 dX11_plan_63 sh_0 rfl (by decide) ?_
              refine lv_aload_n C.1 C.2.1 dX11_plan_66 rfl (lv_at hl 0 rfl) ?_
              refine gx_getR C g fl_X11_33 dX11_plan_67 sh_0 rfl (by decide) ?_
              refine lv_aload_n C.1 C.2.1 dX11_plan_70 rfl (lv_at hl 0 rfl) ?_
              refine gx_getR C g fl_X11_10 dX11_plan_71 sh_0 rfl (by decide) ?_
              refine gx_getR C g fl_X11_104 dX11_plan_74 sh_1 rfl (by decide) ?_
              refine gx_getI C g fl_X11_180 dX11_plan_77 sh_3 rfl ?_
              refine lv_iconst (v := -1) C.1 C.2.1 dX11_plan_80 (by decide) ?_
              refine gx_callv0 g (gx_runV (k := 1) (rest := []) C g mb_X10_begin ml_X11_131 rfl sh_1 (mX10_begin 100 (gv σ10 3 0) (-1 : Int32) stg_100 _ _ h) ⟨Nat.le_of_ble_eq_true rfl, Nat.le_of_ble_eq_true rfl⟩ ⟨Nat.le_refl _, Nat.le_refl _⟩ rfl hl.1 rfl (Nat.le_of_ble_eq_true rfl) dX11_plan_81) rfl rfl (fun σ12 H locs h g => ?_)
              refine lv_aload_n C.1 C.2.1 dX11_plan_84 rfl (lv_at hl 0 rfl) ?_
              refine gx_getR C g fl_X11_10 dX11_plan_85 sh_0 rfl (by decide) ?_
              refine lv_aload_n C.1 C.2.1 dX11_plan_88 rfl (lv_at hl 0 rfl) ?_
              refine gx_getR C g fl_X11_33 dX11_plan_89 sh_0 rfl (by decide) ?_
              refine lv_aload_n C.1 C.2.1 dX11_plan_92 rfl (lv_at hl 0 rfl) ?_
              refine gx_getI C g fl_X11_40 dX11_plan_93 sh_0 rfl ?_
              refine lv_iconst (v := 1) C.1 C.2.1 dX11_plan_96 (by decide) ?_
              refine lv_isub C.1 C.2.1 dX11_plan_97 ?_
              refine gx_callv0 g (gx_runV (k := 1) (rest := []) C g mb_X10_run ml_X11_135 rfl sh_1 (mX10_run 100 ((gv σ12 0 5) - (1 : Int32)) stg_100 _ _ h) ⟨Nat.le_of_ble_eq_true rfl, Nat.le_of_ble_eq_true rfl⟩ ⟨Nat.le_refl _, Nat.le_refl _⟩ rfl hl.1 rfl (Nat.le_of_ble_eq_true rfl) dX11_plan_98) rfl rfl (fun σ14 H locs h g => ?_)
              refine lv_aload_n C.1 C.2.1 dX11_plan_101 rfl (lv_at hl 0 rfl) ?_
              refine gx_getR C g fl_X11_26 dX11_plan_102 sh_0 rfl (by decide) ?_
              refine lv_aload_n C.1 C.2.1 dX11_plan_105 rfl (lv_at hl 0 rfl) ?_
              refine gx_getR C g fl_X11_10 dX11_plan_106 sh_0 rfl (by decide) ?_
              refine lv_aload_n C.1 C.2.1 dX11_plan_109 rfl (lv_at hl 0 rfl) ?_
              refine gx_getR C g fl_X11_33 dX11_plan_110 sh_0 rfl (by decide) ?_
              refine gx_calli0 g (gx_runV (k := 10) (rest := []) C g mb_X5_find ml_X11_181 rfl sh_10 (mX5_find 100 stg_100 _ _ h) ⟨Nat.le_of_ble_eq_true rfl, Nat.le_of_ble_eq_true rfl⟩ ⟨Nat.le_refl _, Nat.le_refl _⟩ rfl hl.1 rfl (Nat.le_of_ble_eq_true rfl) dX11_plan_113) rfl rfl (fun r15 σ16 H locs h g => ?_)
              exact gx_iret C hr g dX11_plan_116 h
            · have h := h.2 c8
              refine lv_bipush (v := -2) C.1 C.2.1 dX11_plan_42 (by decide) ?_
              exact gx_iret C hr g dX11_plan_44 h
theorem mX11_plan {l : Launch} {E : EE} {base : Nat} (x1 : Int32) (x2 : Int32) (x3 : Int32) (σ : St) (Q : Int32 → St → Prop) (h : wX11_plan x1 x2 x3 σ Q) : Met l yX11_plan (wy yX11_plan cX11_plan 4 (some .int)) rmX11_plan (va_Pc [.ref (ga E 0), .int x1, .int x2, .int x3] (fun U => SW E base σ U)) (QI E base Q) (rmX11_plan).cells (rmX11_plan).slots (fun q => base ≤ q) :=
  met_of (by decide) (Nat.le_of_ble_eq_true rfl) (fun p e s m args below meth c C hr g ls hl => tX11_plan_e C hr x1 x2 x3 _ _ _ _ hl g h)
abbrev rmX11_planned : Room := { frames := 0, cells := 0, slots := 0, locals := 0 }
def wX11_planned_15 (Q : Int32 → St → Prop) (σ : St) : Prop := Q (-1 : Int32) σ
def wX11_planned (x1 : Int32) (σ : St) (Q : Int32 → St → Prop) : Prop := ((x1 < 0 → wX11_planned_15 Q σ) ∧ (¬ (x1 < 0) → ((x1 < (gv σ 10 1) → vp_in x1 6 ∧ Q (gv σ 44 x1.toNatClampNeg) σ) ∧ (¬ (x1 < (gv σ 10 1)) → wX11_planned_15 Q σ))))
set_option maxHeartbeats 4000000 in
set_option maxRecDepth 100000 in
theorem tX11_planned_15 {p : Program} {l : Launch} {e : Env} {s : State} {m : MethodId} {args : Array Value} {below : List Frame} {meth : Method} {c : Code} {E : EE} {base : Nat} (C : Cx p E base s m args meth c cX11_planned 2 RX11) (hr : meth.sig.returnType = (some .int)) {Q : Int32 → St → Prop} : ∀ (σ : St) (H : Heap) (locs : List Loc) (ls : Array Slot), lv_has ls 2 [] → GW E base s σ H locs → wX11_planned_15 Q σ → W p l e rmX11_planned s m args below meth c H locs 0 0 (MQ below (QI E base Q) args s 0 0 (fun q => base ≤ q)) (F0 m 15 ls []) := by
  intro σ H locs ls hl g h
  refine lv_iconst (v := -1) C.1 C.2.1 dX11_planned_15 (by decide) ?_
  refine lv_goto (tgt := 28) C.1 C.2.1 dX11_planned_16 (by decide) ?_
  exact gx_iret C hr g dX11_planned_28 h
set_option maxHeartbeats 4000000 in
set_option maxRecDepth 100000 in
theorem tX11_planned_e {p : Program} {l : Launch} {e : Env} {s : State} {m : MethodId} {args : Array Value} {below : List Frame} {meth : Method} {c : Code} {E : EE} {base : Nat} (C : Cx p E base s m args meth c cX11_planned 2 RX11) (hr : meth.sig.returnType = (some .int)) {Q : Int32 → St → Prop} : ∀ (x1 : Int32) (σ : St) (H : Heap) (locs : List Loc) (ls : Array Slot), lv_has ls 2 [(0, .ref (ga E 0)), (1, .int x1)] → GW E base s σ H locs → wX11_planned x1 σ Q → W p l e rmX11_planned s m args below meth c H locs 0 0 (MQ below (QI E base Q) args s 0 0 (fun q => base ≤ q)) (F0 m 0 ls []) := by
  intro x1 σ H locs ls hl g h
  refine lv_iload_n C.1 C.2.1 dX11_planned_0 rfl (lv_at hl 1 rfl) ?_
  refine lv_if_lt (tgt := 15) C.1 C.2.1 dX11_planned_1 (by decide) (fun c1 => ?_) (fun c1 => ?_)
  · have h := h.1 c1
    exact tX11_planned_15 C hr _ _ _ _ (lv_sub hl [] rfl) g h
  · have h := h.2 c1
    refine lv_iload_n C.1 C.2.1 dX11_planned_4 rfl (lv_at hl 1 rfl) ?_
    refine lv_aload_n C.1 C.2.1 dX11_planned_5 rfl (lv_at hl 0 rfl) ?_
    refine gx_getR C g fl_X11_26 dX11_planned_6 sh_0 rfl (by decide) ?_
    refine gx_getI C g fl_X11_185 dX11_planned_9 sh_10 rfl ?_
    refine lv_icmp_lt (tgt := 19) C.1 C.2.1 dX11_planned_12 (by decide) (fun c2 => ?_) (fun c2 => ?_)
    · have h := h.1 c2
      refine lv_aload_n C.1 C.2.1 dX11_planned_19 rfl (lv_at hl 0 rfl) ?_
      refine gx_getR C g fl_X11_26 dX11_planned_20 sh_0 rfl (by decide) ?_
      refine gx_getR C g fl_X11_186 dX11_planned_23 sh_10 rfl (by decide) ?_
      refine lv_iload_n C.1 C.2.1 dX11_planned_26 rfl (lv_at hl 1 rfl) ?_
      obtain ⟨i3, h⟩ := h
      refine gx_iald C g dX11_planned_27 sh_44 i3 ?_
      exact gx_iret C hr g dX11_planned_28 h
    · have h := h.2 c2
      exact tX11_planned_15 C hr _ _ _ _ (lv_sub hl [] rfl) g h
theorem mX11_planned {l : Launch} {E : EE} {base : Nat} (x1 : Int32) (σ : St) (Q : Int32 → St → Prop) (h : wX11_planned x1 σ Q) : Met l yX11_planned (wy yX11_planned cX11_planned 2 (some .int)) rmX11_planned (va_Pc [.ref (ga E 0), .int x1] (fun U => SW E base σ U)) (QI E base Q) (rmX11_planned).cells (rmX11_planned).slots (fun q => base ≤ q) :=
  met_of (by decide) (Nat.le_of_ble_eq_true rfl) (fun p e s m args below meth c C hr g ls hl => tX11_planned_e C hr x1 _ _ _ _ hl g h)
abbrev rmX11_grind : Room := { frames := 6, cells := 0, slots := 0, locals := 145 }
def wX11_grind_23 (Q : St → Prop) : Nat → Int32 → Int32 → Int32 → St → Prop
  | 0, _, _, _, _ => False
  | n + 1, x1, x3, x4, σ => ((x3 ≤ x4 → Q σ) ∧ (¬ (x3 ≤ x4) → wX10_step 100 σ (fun (σ3 : St) => vp_in x1 7 ∧ wX1_take x1 x4 (gv σ3 109 x1.toNatClampNeg) σ3 (fun (σ6 : St) => ∀ x4_7 : Int32, x4_7 = x4 + 1 → wX11_grind_23 Q n x1 x3 x4_7 σ6))))
def wX11_grind (x1 : Int32) (x2 : Int32) (x3 : Int32) (σ : St) (Q : St → Prop) : Prop := wX1_restart σ (fun (σ2 : St) => wX10_begin 100 x2 (-1 : Int32) σ2 (fun (σ4 : St) => ∃ j : Nat, wX11_grind_23 Q j x1 x3 (0 : Int32) σ4))
set_option maxHeartbeats 4000000 in
set_option maxRecDepth 100000 in
theorem tX11_grind_23 {p : Program} {l : Launch} {e : Env} {s : State} {m : MethodId} {args : Array Value} {below : List Frame} {meth : Method} {c : Code} {E : EE} {base : Nat} (C : Cx p E base s m args meth c cX11_grind 5 RX11) (hr : meth.sig.returnType = none) {Q : St → Prop} : ∀ (n : Nat) (x1 : Int32) (x3 : Int32) (x4 : Int32) (σ : St) (H : Heap) (locs : List Loc) (ls : Array Slot), lv_has ls 5 [(0, .ref (ga E 0)), (1, .int x1), (3, .int x3), (4, .int x4)] → GW E base s σ H locs → wX11_grind_23 Q n x1 x3 x4 σ → W p l e rmX11_grind s m args below meth c H locs 0 0 (MQ below (QV E base Q) args s 0 0 (fun q => base ≤ q)) (F0 m 23 ls []) := by
  intro n
  induction n with
  | zero => intro _ _ _; intros; exact False.elim (by assumption)
  | succ n ih =>
    intro x1 x3 x4 σ H locs ls hl g h
    refine lv_iload C.1 C.2.1 dX11_grind_23 (lv_at hl 3 rfl) ?_
    refine lv_iload_n C.1 C.2.1 dX11_grind_25 rfl (lv_at hl 2 rfl) ?_
    refine lv_icmp_ge (tgt := 68) C.1 C.2.1 dX11_grind_26 (by decide) (fun c1 => ?_) (fun c1 => ?_)
    · have h := h.1 c1
      exact gx_vret C hr g dX11_grind_68 h
    · have h := h.2 c1
      refine lv_aload_n C.1 C.2.1 dX11_grind_29 rfl (lv_at hl 0 rfl) ?_
      refine gx_getR C g fl_X11_10 dX11_grind_30 sh_0 rfl (by decide) ?_
      refine lv_aload_n C.1 C.2.1 dX11_grind_33 rfl (lv_at hl 0 rfl) ?_
      refine gx_getR C g fl_X11_33 dX11_grind_34 sh_0 rfl (by decide) ?_
      refine gx_callv0 g (gx_runV (k := 1) (rest := []) C g mb_X10_step ml_X11_147 rfl sh_1 (mX10_step 100 stg_100 _ _ h) ⟨Nat.le_of_ble_eq_true rfl, Nat.le_of_ble_eq_true rfl⟩ ⟨Nat.le_refl _, Nat.le_refl _⟩ rfl hl.1 rfl (Nat.le_of_ble_eq_true rfl) dX11_grind_37) rfl rfl (fun σ3 H locs h g => ?_)
      refine lv_aload_n C.1 C.2.1 dX11_grind_40 rfl (lv_at hl 0 rfl) ?_
      refine gx_getR C g fl_X11_19 dX11_grind_41 sh_0 rfl (by decide) ?_
      refine lv_iload_n C.1 C.2.1 dX11_grind_44 rfl (lv_at hl 1 rfl) ?_
      refine lv_iload C.1 C.2.1 dX11_grind_45 (lv_at hl 3 rfl) ?_
      refine lv_aload_n C.1 C.2.1 dX11_grind_47 rfl (lv_at hl 0 rfl) ?_
      refine gx_getR C g fl_X11_33 dX11_grind_48 sh_0 rfl (by decide) ?_
      refine gx_getR C g fl_X11_139 dX11_grind_51 sh_100 rfl (by decide) ?_
      refine lv_bipush (v := 6) C.1 C.2.1 dX11_grind_54 (by decide) ?_
      refine gx_aald (r := 109) C g dX11_grind_56 sh_101 (Or.inr rfl) vi_6 rfl (by decide) ?_
      refine lv_iload_n C.1 C.2.1 dX11_grind_57 rfl (lv_at hl 1 rfl) ?_
      obtain ⟨i4, h⟩ := h
      refine gx_iald C g dX11_grind_58 sh_109 i4 ?_
      refine gx_callv0 g (gx_runV (k := 9) (rest := []) C g mb_X1_take ml_X11_227 rfl sh_9 (mX1_take x1 x4 (gv σ3 109 x1.toNatClampNeg) _ _ h) ⟨Nat.le_of_ble_eq_true rfl, Nat.le_of_ble_eq_true rfl⟩ ⟨Nat.le_refl _, Nat.le_refl _⟩ rfl hl.1 rfl (Nat.le_of_ble_eq_true rfl) dX11_grind_59) rfl rfl (fun σ6 H locs h g => ?_)
      obtain ⟨x4_7, ex4_7⟩ : ∃ y : Int32, y = x4 + 1 := ⟨_, rfl⟩
      have h := h x4_7 ex4_7
      refine lv_iinc (v := x4_7) (lv' := [(4, .int x4_7), (0, .ref (ga E 0)), (1, .int x1), (3, .int x3)]) C.1 C.2.1 dX11_grind_62 hl (k := 3) rfl (by rw [ex4_7]; rfl) (by decide) rfl (fun ls hl => ?_)
      refine lv_goto (tgt := 23) C.1 C.2.1 dX11_grind_65 (by decide) ?_
      exact ih x1 x3 x4_7 _ _ _ _ (lv_sub hl [1, 2, 3, 0] rfl) g h
set_option maxHeartbeats 4000000 in
set_option maxRecDepth 100000 in
theorem tX11_grind_e {p : Program} {l : Launch} {e : Env} {s : State} {m : MethodId} {args : Array Value} {below : List Frame} {meth : Method} {c : Code} {E : EE} {base : Nat} (C : Cx p E base s m args meth c cX11_grind 5 RX11) (hr : meth.sig.returnType = none) {Q : St → Prop} : ∀ (x1 : Int32) (x2 : Int32) (x3 : Int32) (σ : St) (H : Heap) (locs : List Loc) (ls : Array Slot), lv_has ls 5 [(0, .ref (ga E 0)), (1, .int x1), (2, .int x2), (3, .int x3)] → GW E base s σ H locs → wX11_grind x1 x2 x3 σ Q → W p l e rmX11_grind s m args below meth c H locs 0 0 (MQ below (QV E base Q) args s 0 0 (fun q => base ≤ q)) (F0 m 0 ls []) := by
  intro x1 x2 x3 σ H locs ls hl g h
  refine lv_aload_n C.1 C.2.1 dX11_grind_0 rfl (lv_at hl 0 rfl) ?_
  refine gx_getR C g fl_X11_19 dX11_grind_1 sh_0 rfl (by decide) ?_
  refine gx_callv0 g (gx_runV (k := 9) (rest := []) C g mb_X1_restart ml_X11_224 rfl sh_9 (mX1_restart _ _ h) ⟨Nat.le_of_ble_eq_true rfl, Nat.le_of_ble_eq_true rfl⟩ ⟨Nat.le_refl _, Nat.le_refl _⟩ rfl hl.1 rfl (Nat.le_of_ble_eq_true rfl) dX11_grind_4) rfl rfl (fun σ2 H locs h g => ?_)
  refine lv_aload_n C.1 C.2.1 dX11_grind_7 rfl (lv_at hl 0 rfl) ?_
  refine gx_getR C g fl_X11_10 dX11_grind_8 sh_0 rfl (by decide) ?_
  refine lv_aload_n C.1 C.2.1 dX11_grind_11 rfl (lv_at hl 0 rfl) ?_
  refine gx_getR C g fl_X11_33 dX11_grind_12 sh_0 rfl (by decide) ?_
  refine lv_iload_n C.1 C.2.1 dX11_grind_15 rfl (lv_at hl 2 rfl) ?_
  refine lv_iconst (v := -1) C.1 C.2.1 dX11_grind_16 (by decide) ?_
  refine gx_callv0 g (gx_runV (k := 1) (rest := []) C g mb_X10_begin ml_X11_131 rfl sh_1 (mX10_begin 100 x2 (-1 : Int32) stg_100 _ _ h) ⟨Nat.le_of_ble_eq_true rfl, Nat.le_of_ble_eq_true rfl⟩ ⟨Nat.le_refl _, Nat.le_refl _⟩ rfl hl.1 rfl (Nat.le_of_ble_eq_true rfl) dX11_grind_17) rfl rfl (fun σ4 H locs h g => ?_)
  refine lv_iconst (v := 0) C.1 C.2.1 dX11_grind_20 (by decide) ?_
  refine lv_istore (lv' := [(4, .int (0 : Int32)), (0, .ref (ga E 0)), (1, .int x1), (2, .int x2), (3, .int x3)]) C.1 C.2.1 dX11_grind_21 hl (by decide) rfl (fun ls hl => ?_)
  obtain ⟨j, h⟩ := h
  exact tX11_grind_23 C hr j x1 x3 (0 : Int32) _ _ _ _ (lv_sub hl [1, 2, 4, 0] rfl) g h
theorem mX11_grind {l : Launch} {E : EE} {base : Nat} (x1 : Int32) (x2 : Int32) (x3 : Int32) (σ : St) (Q : St → Prop) (h : wX11_grind x1 x2 x3 σ Q) : Met l yX11_grind (wy yX11_grind cX11_grind 5 none) rmX11_grind (va_Pc [.ref (ga E 0), .int x1, .int x2, .int x3] (fun U => SW E base σ U)) (QV E base Q) (rmX11_grind).cells (rmX11_grind).slots (fun q => base ≤ q) :=
  met_of (by decide) (Nat.le_of_ble_eq_true rfl) (fun p e s m args below meth c C hr g ls hl => tX11_grind_e C hr x1 x2 x3 _ _ _ _ hl g h)
abbrev rmX11_told : Room := { frames := 7, cells := 0, slots := 0, locals := 169 }
def wX11_told (x1 : Int32) (x2 : Int32) (x3 : Int32) (σ : St) (Q : Int32 → St → Prop) : Prop := ((x1 < 0 → Q (-1 : Int32) σ) ∧ (¬ (x1 < 0) → (((gv σ 9 5) ≤ x1 → Q (-1 : Int32) σ) ∧ (¬ ((gv σ 9 5) ≤ x1) → wX11_isKnown x2 σ (fun (r3 : Int32) (σ4 : St) => ((r3 = 0 → Q (-1 : Int32) σ4) ∧ (¬ (r3 = 0) → ((x3 = 0 → vp_in x1 60 ∧ Q (gv σ4 40 x1.toNatClampNeg) σ4) ∧ (¬ (x3 = 0) → ((x3 = 1 → vp_in x1 60 ∧ Q (gv σ4 41 x1.toNatClampNeg) σ4) ∧ (¬ (x3 = 1) → ((x3 = 2 → vp_in x1 60 ∧ Q (gv σ4 39 x1.toNatClampNeg) σ4) ∧ (¬ (x3 = 2) → ((x3 = 3 → vp_in x1 60 ∧ wX11_grind (gv σ4 40 x1.toNatClampNeg) x2 (240 : Int32) σ4 (fun (σ15 : St) => vp_in x1 60 ∧ Q (gv σ15 43 x1.toNatClampNeg) σ15)) ∧ (¬ (x3 = 3) → ((x3 = 4 → vp_in x1 60 ∧ wX11_grind (gv σ4 40 x1.toNatClampNeg) x2 (gv σ4 0 5) σ4 (fun (σ20 : St) => vp_in x1 60 ∧ Q (gv σ20 42 x1.toNatClampNeg) σ20)) ∧ (¬ (x3 = 4) → Q (-1 : Int32) σ4)))))))))))))))))
set_option maxHeartbeats 4000000 in
set_option maxRecDepth 100000 in
theorem tX11_told_e {p : Program} {l : Launch} {e : Env} {s : State} {m : MethodId} {args : Array Value} {below : List Frame} {meth : Method} {c : Code} {E : EE} {base : Nat} (C : Cx p E base s m args meth c cX11_told 4 RX11) (hr : meth.sig.returnType = (some .int)) {Q : Int32 → St → Prop} : ∀ (x1 : Int32) (x2 : Int32) (x3 : Int32) (σ : St) (H : Heap) (locs : List Loc) (ls : Array Slot), lv_has ls 4 [(0, .ref (ga E 0)), (1, .int x1), (2, .int x2), (3, .int x3)] → GW E base s σ H locs → wX11_told x1 x2 x3 σ Q → W p l e rmX11_told s m args below meth c H locs 0 0 (MQ below (QI E base Q) args s 0 0 (fun q => base ≤ q)) (F0 m 0 ls []) := by
  intro x1 x2 x3 σ H locs ls hl g h
  refine lv_iload_n C.1 C.2.1 dX11_told_0 rfl (lv_at hl 1 rfl) ?_
  refine lv_if_lt (tgt := 23) C.1 C.2.1 dX11_told_1 (by decide) (fun c1 => ?_) (fun c1 => ?_)
  · have h := h.1 c1
    refine lv_iconst (v := -1) C.1 C.2.1 dX11_told_23 (by decide) ?_
    exact gx_iret C hr g dX11_told_24 h
  · have h := h.2 c1
    refine lv_iload_n C.1 C.2.1 dX11_told_4 rfl (lv_at hl 1 rfl) ?_
    refine lv_aload_n C.1 C.2.1 dX11_told_5 rfl (lv_at hl 0 rfl) ?_
    refine gx_getR C g fl_X11_19 dX11_told_6 sh_0 rfl (by decide) ?_
    refine gx_getI C g fl_X11_189 dX11_told_9 sh_9 rfl ?_
    refine lv_icmp_ge (tgt := 23) C.1 C.2.1 dX11_told_12 (by decide) (fun c2 => ?_) (fun c2 => ?_)
    · have h := h.1 c2
      refine lv_iconst (v := -1) C.1 C.2.1 dX11_told_23 (by decide) ?_
      exact gx_iret C hr g dX11_told_24 h
    · have h := h.2 c2
      refine lv_aload_n C.1 C.2.1 dX11_told_15 rfl (lv_at hl 0 rfl) ?_
      refine lv_iload_n C.1 C.2.1 dX11_told_16 rfl (lv_at hl 2 rfl) ?_
      refine gx_calli0 g (gx_runV (k := 0) (rest := []) C g mb_X11_isKnown ml_X11_127 rfl sh_0 (mX11_isKnown x2 _ _ h) ⟨Nat.le_of_ble_eq_true rfl, Nat.le_of_ble_eq_true rfl⟩ ⟨Nat.le_refl _, Nat.le_refl _⟩ rfl hl.1 rfl (Nat.le_of_ble_eq_true rfl) dX11_told_17) rfl rfl (fun r3 σ4 H locs h g => ?_)
      refine lv_if_ne (tgt := 25) C.1 C.2.1 dX11_told_20 (by decide) (fun c5 => ?_) (fun c5 => ?_)
      · have h := h.2 c5
        refine lv_iload_n C.1 C.2.1 dX11_told_25 rfl (lv_at hl 3 rfl) ?_
        by_cases c6 : x3 = 0
        · have h := h.1 c6
          refine gx_tabI (tgt := 60) C.1 C.2.1 dX11_told_26 (off := 34) (k := 0) c6 (by decide +kernel) (by decide) ?_
          refine lv_aload_n C.1 C.2.1 dX11_told_60 rfl (lv_at hl 0 rfl) ?_
          refine gx_getR C g fl_X11_19 dX11_told_61 sh_0 rfl (by decide) ?_
          refine gx_getR C g fl_X11_190 dX11_told_64 sh_9 rfl (by decide) ?_
          refine lv_iload_n C.1 C.2.1 dX11_told_67 rfl (lv_at hl 1 rfl) ?_
          obtain ⟨i7, h⟩ := h
          refine gx_iald C g dX11_told_68 sh_40 i7 ?_
          exact gx_iret C hr g dX11_told_69 h
        · have h := h.2 c6
          by_cases c8 : x3 = 1
          · have h := h.1 c8
            refine gx_tabI (tgt := 70) C.1 C.2.1 dX11_told_26 (off := 44) (k := 1) c8 (by decide +kernel) (by decide) ?_
            refine lv_aload_n C.1 C.2.1 dX11_told_70 rfl (lv_at hl 0 rfl) ?_
            refine gx_getR C g fl_X11_19 dX11_told_71 sh_0 rfl (by decide) ?_
            refine gx_getR C g fl_X11_191 dX11_told_74 sh_9 rfl (by decide) ?_
            refine lv_iload_n C.1 C.2.1 dX11_told_77 rfl (lv_at hl 1 rfl) ?_
            obtain ⟨i9, h⟩ := h
            refine gx_iald C g dX11_told_78 sh_41 i9 ?_
            exact gx_iret C hr g dX11_told_79 h
          · have h := h.2 c8
            by_cases c10 : x3 = 2
            · have h := h.1 c10
              refine gx_tabI (tgt := 80) C.1 C.2.1 dX11_told_26 (off := 54) (k := 2) c10 (by decide +kernel) (by decide) ?_
              refine lv_aload_n C.1 C.2.1 dX11_told_80 rfl (lv_at hl 0 rfl) ?_
              refine gx_getR C g fl_X11_19 dX11_told_81 sh_0 rfl (by decide) ?_
              refine gx_getR C g fl_X11_194 dX11_told_84 sh_9 rfl (by decide) ?_
              refine lv_iload_n C.1 C.2.1 dX11_told_87 rfl (lv_at hl 1 rfl) ?_
              obtain ⟨i11, h⟩ := h
              refine gx_iald C g dX11_told_88 sh_39 i11 ?_
              exact gx_iret C hr g dX11_told_89 h
            · have h := h.2 c10
              by_cases c12 : x3 = 3
              · have h := h.1 c12
                refine gx_tabI (tgt := 90) C.1 C.2.1 dX11_told_26 (off := 64) (k := 3) c12 (by decide +kernel) (by decide) ?_
                refine lv_aload_n C.1 C.2.1 dX11_told_90 rfl (lv_at hl 0 rfl) ?_
                refine lv_aload_n C.1 C.2.1 dX11_told_91 rfl (lv_at hl 0 rfl) ?_
                refine gx_getR C g fl_X11_19 dX11_told_92 sh_0 rfl (by decide) ?_
                refine gx_getR C g fl_X11_190 dX11_told_95 sh_9 rfl (by decide) ?_
                refine lv_iload_n C.1 C.2.1 dX11_told_98 rfl (lv_at hl 1 rfl) ?_
                obtain ⟨i13, h⟩ := h
                refine gx_iald C g dX11_told_99 sh_40 i13 ?_
                refine lv_iload_n C.1 C.2.1 dX11_told_100 rfl (lv_at hl 2 rfl) ?_
                refine lv_sipush (v := 240) C.1 C.2.1 dX11_told_101 (by decide) ?_
                refine gx_callv0 g (gx_runV (k := 0) (rest := []) C g mb_X11_grind ml_X11_195 rfl sh_0 (mX11_grind (gv σ4 40 x1.toNatClampNeg) x2 (240 : Int32) _ _ h) ⟨Nat.le_of_ble_eq_true rfl, Nat.le_of_ble_eq_true rfl⟩ ⟨Nat.le_refl _, Nat.le_refl _⟩ rfl hl.1 rfl (Nat.le_of_ble_eq_true rfl) dX11_told_104) rfl rfl (fun σ15 H locs h g => ?_)
                refine lv_aload_n C.1 C.2.1 dX11_told_107 rfl (lv_at hl 0 rfl) ?_
                refine gx_getR C g fl_X11_19 dX11_told_108 sh_0 rfl (by decide) ?_
                refine gx_getR C g fl_X11_199 dX11_told_111 sh_9 rfl (by decide) ?_
                refine lv_iload_n C.1 C.2.1 dX11_told_114 rfl (lv_at hl 1 rfl) ?_
                obtain ⟨i16, h⟩ := h
                refine gx_iald C g dX11_told_115 sh_43 i16 ?_
                exact gx_iret C hr g dX11_told_116 h
              · have h := h.2 c12
                by_cases c17 : x3 = 4
                · have h := h.1 c17
                  refine gx_tabI (tgt := 117) C.1 C.2.1 dX11_told_26 (off := 91) (k := 4) c17 (by decide +kernel) (by decide) ?_
                  refine lv_aload_n C.1 C.2.1 dX11_told_117 rfl (lv_at hl 0 rfl) ?_
                  refine lv_aload_n C.1 C.2.1 dX11_told_118 rfl (lv_at hl 0 rfl) ?_
                  refine gx_getR C g fl_X11_19 dX11_told_119 sh_0 rfl (by decide) ?_
                  refine gx_getR C g fl_X11_190 dX11_told_122 sh_9 rfl (by decide) ?_
                  refine lv_iload_n C.1 C.2.1 dX11_told_125 rfl (lv_at hl 1 rfl) ?_
                  obtain ⟨i18, h⟩ := h
                  refine gx_iald C g dX11_told_126 sh_40 i18 ?_
                  refine lv_iload_n C.1 C.2.1 dX11_told_127 rfl (lv_at hl 2 rfl) ?_
                  refine lv_aload_n C.1 C.2.1 dX11_told_128 rfl (lv_at hl 0 rfl) ?_
                  refine gx_getI C g fl_X11_40 dX11_told_129 sh_0 rfl ?_
                  refine gx_callv0 g (gx_runV (k := 0) (rest := []) C g mb_X11_grind ml_X11_195 rfl sh_0 (mX11_grind (gv σ4 40 x1.toNatClampNeg) x2 (gv σ4 0 5) _ _ h) ⟨Nat.le_of_ble_eq_true rfl, Nat.le_of_ble_eq_true rfl⟩ ⟨Nat.le_refl _, Nat.le_refl _⟩ rfl hl.1 rfl (Nat.le_of_ble_eq_true rfl) dX11_told_132) rfl rfl (fun σ20 H locs h g => ?_)
                  refine lv_aload_n C.1 C.2.1 dX11_told_135 rfl (lv_at hl 0 rfl) ?_
                  refine gx_getR C g fl_X11_19 dX11_told_136 sh_0 rfl (by decide) ?_
                  refine gx_getR C g fl_X11_202 dX11_told_139 sh_9 rfl (by decide) ?_
                  refine lv_iload_n C.1 C.2.1 dX11_told_142 rfl (lv_at hl 1 rfl) ?_
                  obtain ⟨i21, h⟩ := h
                  refine gx_iald C g dX11_told_143 sh_42 i21 ?_
                  exact gx_iret C hr g dX11_told_144 h
                · have h := h.2 c17
                  refine gx_tabD (tgt := 145) C.1 C.2.1 dX11_told_26 [0, 1, 2, 3, 4] (List.forall_mem_cons.mpr ⟨c6, List.forall_mem_cons.mpr ⟨c8, List.forall_mem_cons.mpr ⟨c10, List.forall_mem_cons.mpr ⟨c12, List.forall_mem_cons.mpr ⟨c17, fun _ z => by cases z⟩⟩⟩⟩⟩) (by decide +kernel) (by decide +kernel) (by decide) ?_
                  refine lv_iconst (v := -1) C.1 C.2.1 dX11_told_145 (by decide) ?_
                  exact gx_iret C hr g dX11_told_146 h
      · have h := h.1 c5
        refine lv_iconst (v := -1) C.1 C.2.1 dX11_told_23 (by decide) ?_
        exact gx_iret C hr g dX11_told_24 h
theorem mX11_told {l : Launch} {E : EE} {base : Nat} (x1 : Int32) (x2 : Int32) (x3 : Int32) (σ : St) (Q : Int32 → St → Prop) (h : wX11_told x1 x2 x3 σ Q) : Met l yX11_told (wy yX11_told cX11_told 4 (some .int)) rmX11_told (va_Pc [.ref (ga E 0), .int x1, .int x2, .int x3] (fun U => SW E base σ U)) (QI E base Q) (rmX11_told).cells (rmX11_told).slots (fun q => base ≤ q) :=
  met_of (by decide) (Nat.le_of_ble_eq_true rfl) (fun p e s m args below meth c C hr g ls hl => tX11_told_e C hr x1 x2 x3 _ _ _ _ hl g h)
abbrev rmX11_tolls : Room := { frames := 7, cells := 0, slots := 0, locals := 169 }
def wX11_tolls (x1 : Int32) (x2 : Int32) (x3 : Int32) (σ : St) (Q : Int32 → St → Prop) : Prop := wX11_isMill x1 σ (fun (r1 : Int32) (σ2 : St) => ((r1 = 0 → Q (-1 : Int32) σ2) ∧ (¬ (r1 = 0) → wX11_isEnd x2 σ2 (fun (r4 : Int32) (σ5 : St) => ((r4 = 0 → Q (-1 : Int32) σ5) ∧ (¬ (r4 = 0) → wX11_isKnown x3 σ5 (fun (r7 : Int32) (σ8 : St) => ((r7 = 0 → Q (-1 : Int32) σ8) ∧ (¬ (r7 = 0) → wX11_grind x1 x3 x2 σ8 (fun (σ11 : St) => wX1_tollsOf x1 σ11 (fun (r12 : Int32) (σ13 : St) => Q r12 σ13)))))))))))
set_option maxHeartbeats 4000000 in
set_option maxRecDepth 100000 in
theorem tX11_tolls_e {p : Program} {l : Launch} {e : Env} {s : State} {m : MethodId} {args : Array Value} {below : List Frame} {meth : Method} {c : Code} {E : EE} {base : Nat} (C : Cx p E base s m args meth c cX11_tolls 4 RX11) (hr : meth.sig.returnType = (some .int)) {Q : Int32 → St → Prop} : ∀ (x1 : Int32) (x2 : Int32) (x3 : Int32) (σ : St) (H : Heap) (locs : List Loc) (ls : Array Slot), lv_has ls 4 [(0, .ref (ga E 0)), (1, .int x1), (2, .int x2), (3, .int x3)] → GW E base s σ H locs → wX11_tolls x1 x2 x3 σ Q → W p l e rmX11_tolls s m args below meth c H locs 0 0 (MQ below (QI E base Q) args s 0 0 (fun q => base ≤ q)) (F0 m 0 ls []) := by
  intro x1 x2 x3 σ H locs ls hl g h
  refine lv_aload_n C.1 C.2.1 dX11_tolls_0 rfl (lv_at hl 0 rfl) ?_
  refine lv_iload_n C.1 C.2.1 dX11_tolls_1 rfl (lv_at hl 1 rfl) ?_
  refine gx_calli0 g (gx_runV (k := 0) (rest := []) C g mb_X11_isMill ml_X11_101 rfl sh_0 (mX11_isMill x1 _ _ h) ⟨Nat.le_of_ble_eq_true rfl, Nat.le_of_ble_eq_true rfl⟩ ⟨Nat.le_refl _, Nat.le_refl _⟩ rfl hl.1 rfl (Nat.le_of_ble_eq_true rfl) dX11_tolls_2) rfl rfl (fun r1 σ2 H locs h g => ?_)
  refine lv_if_eq (tgt := 24) C.1 C.2.1 dX11_tolls_5 (by decide) (fun c3 => ?_) (fun c3 => ?_)
  · have h := h.1 c3
    refine lv_iconst (v := -1) C.1 C.2.1 dX11_tolls_24 (by decide) ?_
    exact gx_iret C hr g dX11_tolls_25 h
  · have h := h.2 c3
    refine lv_aload_n C.1 C.2.1 dX11_tolls_8 rfl (lv_at hl 0 rfl) ?_
    refine lv_iload_n C.1 C.2.1 dX11_tolls_9 rfl (lv_at hl 2 rfl) ?_
    refine gx_calli0 g (gx_runV (k := 0) (rest := []) C g mb_X11_isEnd ml_X11_143 rfl sh_0 (mX11_isEnd x2 _ _ h) ⟨Nat.le_of_ble_eq_true rfl, Nat.le_of_ble_eq_true rfl⟩ ⟨Nat.le_refl _, Nat.le_refl _⟩ rfl hl.1 rfl (Nat.le_of_ble_eq_true rfl) dX11_tolls_10) rfl rfl (fun r4 σ5 H locs h g => ?_)
    refine lv_if_eq (tgt := 24) C.1 C.2.1 dX11_tolls_13 (by decide) (fun c6 => ?_) (fun c6 => ?_)
    · have h := h.1 c6
      refine lv_iconst (v := -1) C.1 C.2.1 dX11_tolls_24 (by decide) ?_
      exact gx_iret C hr g dX11_tolls_25 h
    · have h := h.2 c6
      refine lv_aload_n C.1 C.2.1 dX11_tolls_16 rfl (lv_at hl 0 rfl) ?_
      refine lv_iload_n C.1 C.2.1 dX11_tolls_17 rfl (lv_at hl 3 rfl) ?_
      refine gx_calli0 g (gx_runV (k := 0) (rest := []) C g mb_X11_isKnown ml_X11_127 rfl sh_0 (mX11_isKnown x3 _ _ h) ⟨Nat.le_of_ble_eq_true rfl, Nat.le_of_ble_eq_true rfl⟩ ⟨Nat.le_refl _, Nat.le_refl _⟩ rfl hl.1 rfl (Nat.le_of_ble_eq_true rfl) dX11_tolls_18) rfl rfl (fun r7 σ8 H locs h g => ?_)
      refine lv_if_ne (tgt := 26) C.1 C.2.1 dX11_tolls_21 (by decide) (fun c9 => ?_) (fun c9 => ?_)
      · have h := h.2 c9
        refine lv_aload_n C.1 C.2.1 dX11_tolls_26 rfl (lv_at hl 0 rfl) ?_
        refine lv_iload_n C.1 C.2.1 dX11_tolls_27 rfl (lv_at hl 1 rfl) ?_
        refine lv_iload_n C.1 C.2.1 dX11_tolls_28 rfl (lv_at hl 3 rfl) ?_
        refine lv_iload_n C.1 C.2.1 dX11_tolls_29 rfl (lv_at hl 2 rfl) ?_
        refine gx_callv0 g (gx_runV (k := 0) (rest := []) C g mb_X11_grind ml_X11_195 rfl sh_0 (mX11_grind x1 x3 x2 _ _ h) ⟨Nat.le_of_ble_eq_true rfl, Nat.le_of_ble_eq_true rfl⟩ ⟨Nat.le_refl _, Nat.le_refl _⟩ rfl hl.1 rfl (Nat.le_of_ble_eq_true rfl) dX11_tolls_30) rfl rfl (fun σ11 H locs h g => ?_)
        refine lv_aload_n C.1 C.2.1 dX11_tolls_33 rfl (lv_at hl 0 rfl) ?_
        refine gx_getR C g fl_X11_19 dX11_tolls_34 sh_0 rfl (by decide) ?_
        refine lv_iload_n C.1 C.2.1 dX11_tolls_37 rfl (lv_at hl 1 rfl) ?_
        refine gx_calli0 g (gx_runV (k := 9) (rest := []) C g mb_X1_tollsOf ml_X11_205 rfl sh_9 (mX1_tollsOf x1 _ _ h) ⟨Nat.le_of_ble_eq_true rfl, Nat.le_of_ble_eq_true rfl⟩ ⟨Nat.le_refl _, Nat.le_refl _⟩ rfl hl.1 rfl (Nat.le_of_ble_eq_true rfl) dX11_tolls_38) rfl rfl (fun r12 σ13 H locs h g => ?_)
        exact gx_iret C hr g dX11_tolls_41 h
      · have h := h.1 c9
        refine lv_iconst (v := -1) C.1 C.2.1 dX11_tolls_24 (by decide) ?_
        exact gx_iret C hr g dX11_tolls_25 h
theorem mX11_tolls {l : Launch} {E : EE} {base : Nat} (x1 : Int32) (x2 : Int32) (x3 : Int32) (σ : St) (Q : Int32 → St → Prop) (h : wX11_tolls x1 x2 x3 σ Q) : Met l yX11_tolls (wy yX11_tolls cX11_tolls 4 (some .int)) rmX11_tolls (va_Pc [.ref (ga E 0), .int x1, .int x2, .int x3] (fun U => SW E base σ U)) (QI E base Q) (rmX11_tolls).cells (rmX11_tolls).slots (fun q => base ≤ q) :=
  met_of (by decide) (Nat.le_of_ble_eq_true rfl) (fun p e s m args below meth c C hr g ls hl => tX11_tolls_e C hr x1 x2 x3 _ _ _ _ hl g h)
abbrev rmX11_count : Room := { frames := 0, cells := 0, slots := 0, locals := 0 }
def wX11_count (x1 : Int32) (σ : St) (Q : Int32 → St → Prop) : Prop := ((x1 = 0 → Q (gv σ 2 4) σ) ∧ (¬ (x1 = 0) → ((x1 = 1 → Q (gv σ 3 0) σ) ∧ (¬ (x1 = 1) → ((x1 = 2 → Q (gv σ 4 4) σ) ∧ (¬ (x1 = 2) → ((x1 = 3 → Q (gv σ 9 5) σ) ∧ (¬ (x1 = 3) → ((x1 = 4 → Q (gv σ 8 0) σ) ∧ (¬ (x1 = 4) → ((x1 = 5 → Q (gv σ 8 1) σ) ∧ (¬ (x1 = 5) → ((x1 = 6 → Q (gv σ 0 5) σ) ∧ (¬ (x1 = 6) → ((x1 = 7 → Q (gv σ 2 6) σ) ∧ (¬ (x1 = 7) → ((x1 = 8 → Q (gv σ 6 0) σ) ∧ (¬ (x1 = 8) → Q (-1 : Int32) σ))))))))))))))))))
set_option maxHeartbeats 4000000 in
set_option maxRecDepth 100000 in
theorem tX11_count_e {p : Program} {l : Launch} {e : Env} {s : State} {m : MethodId} {args : Array Value} {below : List Frame} {meth : Method} {c : Code} {E : EE} {base : Nat} (C : Cx p E base s m args meth c cX11_count 2 RX11) (hr : meth.sig.returnType = (some .int)) {Q : Int32 → St → Prop} : ∀ (x1 : Int32) (σ : St) (H : Heap) (locs : List Loc) (ls : Array Slot), lv_has ls 2 [(0, .ref (ga E 0)), (1, .int x1)] → GW E base s σ H locs → wX11_count x1 σ Q → W p l e rmX11_count s m args below meth c H locs 0 0 (MQ below (QI E base Q) args s 0 0 (fun q => base ≤ q)) (F0 m 0 ls []) := by
  intro x1 σ H locs ls hl g h
  refine lv_iload_n C.1 C.2.1 dX11_count_0 rfl (lv_at hl 1 rfl) ?_
  by_cases c1 : x1 = 0
  · have h := h.1 c1
    refine gx_tabI (tgt := 52) C.1 C.2.1 dX11_count_1 (off := 51) (k := 0) c1 (by decide +kernel) (by decide) ?_
    refine lv_aload_n C.1 C.2.1 dX11_count_52 rfl (lv_at hl 0 rfl) ?_
    refine gx_getR C g fl_X11_10 dX11_count_53 sh_0 rfl (by decide) ?_
    refine gx_getR C g fl_X11_77 dX11_count_56 sh_1 rfl (by decide) ?_
    refine gx_getI C g fl_X11_146 dX11_count_59 sh_2 rfl ?_
    exact gx_iret C hr g dX11_count_62 h
  · have h := h.2 c1
    by_cases c2 : x1 = 1
    · have h := h.1 c2
      refine gx_tabI (tgt := 63) C.1 C.2.1 dX11_count_1 (off := 62) (k := 1) c2 (by decide +kernel) (by decide) ?_
      refine lv_aload_n C.1 C.2.1 dX11_count_63 rfl (lv_at hl 0 rfl) ?_
      refine gx_getR C g fl_X11_10 dX11_count_64 sh_0 rfl (by decide) ?_
      refine gx_getR C g fl_X11_104 dX11_count_67 sh_1 rfl (by decide) ?_
      refine gx_getI C g fl_X11_180 dX11_count_70 sh_3 rfl ?_
      exact gx_iret C hr g dX11_count_73 h
    · have h := h.2 c2
      by_cases c3 : x1 = 2
      · have h := h.1 c3
        refine gx_tabI (tgt := 74) C.1 C.2.1 dX11_count_1 (off := 73) (k := 2) c3 (by decide +kernel) (by decide) ?_
        refine lv_aload_n C.1 C.2.1 dX11_count_74 rfl (lv_at hl 0 rfl) ?_
        refine gx_getR C g fl_X11_10 dX11_count_75 sh_0 rfl (by decide) ?_
        refine gx_getR C g fl_X11_117 dX11_count_78 sh_1 rfl (by decide) ?_
        refine gx_getI C g fl_X11_155 dX11_count_81 sh_4 rfl ?_
        exact gx_iret C hr g dX11_count_84 h
      · have h := h.2 c3
        by_cases c4 : x1 = 3
        · have h := h.1 c4
          refine gx_tabI (tgt := 85) C.1 C.2.1 dX11_count_1 (off := 84) (k := 3) c4 (by decide +kernel) (by decide) ?_
          refine lv_aload_n C.1 C.2.1 dX11_count_85 rfl (lv_at hl 0 rfl) ?_
          refine gx_getR C g fl_X11_19 dX11_count_86 sh_0 rfl (by decide) ?_
          refine gx_getI C g fl_X11_189 dX11_count_89 sh_9 rfl ?_
          exact gx_iret C hr g dX11_count_92 h
        · have h := h.2 c4
          by_cases c5 : x1 = 4
          · have h := h.1 c5
            refine gx_tabI (tgt := 93) C.1 C.2.1 dX11_count_1 (off := 92) (k := 4) c5 (by decide +kernel) (by decide) ?_
            refine lv_aload_n C.1 C.2.1 dX11_count_93 rfl (lv_at hl 0 rfl) ?_
            refine gx_getR C g fl_X11_10 dX11_count_94 sh_0 rfl (by decide) ?_
            refine gx_getR C g fl_X11_44 dX11_count_97 sh_1 rfl (by decide) ?_
            refine gx_getR C g fl_X11_209 dX11_count_100 sh_5 rfl (by decide) ?_
            refine gx_getI C g fl_X11_213 dX11_count_103 sh_8 rfl ?_
            exact gx_iret C hr g dX11_count_106 h
          · have h := h.2 c5
            by_cases c6 : x1 = 5
            · have h := h.1 c6
              refine gx_tabI (tgt := 107) C.1 C.2.1 dX11_count_1 (off := 106) (k := 5) c6 (by decide +kernel) (by decide) ?_
              refine lv_aload_n C.1 C.2.1 dX11_count_107 rfl (lv_at hl 0 rfl) ?_
              refine gx_getR C g fl_X11_10 dX11_count_108 sh_0 rfl (by decide) ?_
              refine gx_getR C g fl_X11_44 dX11_count_111 sh_1 rfl (by decide) ?_
              refine gx_getR C g fl_X11_209 dX11_count_114 sh_5 rfl (by decide) ?_
              refine gx_getI C g fl_X11_218 dX11_count_117 sh_8 rfl ?_
              exact gx_iret C hr g dX11_count_120 h
            · have h := h.2 c6
              by_cases c7 : x1 = 6
              · have h := h.1 c7
                refine gx_tabI (tgt := 121) C.1 C.2.1 dX11_count_1 (off := 120) (k := 6) c7 (by decide +kernel) (by decide) ?_
                refine lv_aload_n C.1 C.2.1 dX11_count_121 rfl (lv_at hl 0 rfl) ?_
                refine gx_getI C g fl_X11_40 dX11_count_122 sh_0 rfl ?_
                exact gx_iret C hr g dX11_count_125 h
              · have h := h.2 c7
                by_cases c8 : x1 = 7
                · have h := h.1 c8
                  refine gx_tabI (tgt := 126) C.1 C.2.1 dX11_count_1 (off := 125) (k := 7) c8 (by decide +kernel) (by decide) ?_
                  refine lv_aload_n C.1 C.2.1 dX11_count_126 rfl (lv_at hl 0 rfl) ?_
                  refine gx_getR C g fl_X11_10 dX11_count_127 sh_0 rfl (by decide) ?_
                  refine gx_getR C g fl_X11_77 dX11_count_130 sh_1 rfl (by decide) ?_
                  refine gx_getI C g fl_X11_221 dX11_count_133 sh_2 rfl ?_
                  exact gx_iret C hr g dX11_count_136 h
                · have h := h.2 c8
                  by_cases c9 : x1 = 8
                  · have h := h.1 c9
                    refine gx_tabI (tgt := 137) C.1 C.2.1 dX11_count_1 (off := 136) (k := 8) c9 (by decide +kernel) (by decide) ?_
                    refine lv_aload_n C.1 C.2.1 dX11_count_137 rfl (lv_at hl 0 rfl) ?_
                    refine gx_getR C g fl_X11_10 dX11_count_138 sh_0 rfl (by decide) ?_
                    refine gx_getR C g fl_X11_44 dX11_count_141 sh_1 rfl (by decide) ?_
                    refine gx_getR C g fl_X11_48 dX11_count_144 sh_5 rfl (by decide) ?_
                    refine gx_getI C g fl_X11_54 dX11_count_147 sh_6 rfl ?_
                    exact gx_iret C hr g dX11_count_150 h
                  · have h := h.2 c9
                    refine gx_tabD (tgt := 151) C.1 C.2.1 dX11_count_1 [0, 1, 2, 3, 4, 5, 6, 7, 8] (List.forall_mem_cons.mpr ⟨c1, List.forall_mem_cons.mpr ⟨c2, List.forall_mem_cons.mpr ⟨c3, List.forall_mem_cons.mpr ⟨c4, List.forall_mem_cons.mpr ⟨c5, List.forall_mem_cons.mpr ⟨c6, List.forall_mem_cons.mpr ⟨c7, List.forall_mem_cons.mpr ⟨c8, List.forall_mem_cons.mpr ⟨c9, fun _ z => by cases z⟩⟩⟩⟩⟩⟩⟩⟩⟩) (by decide +kernel) (by decide +kernel) (by decide) ?_
                    refine lv_iconst (v := -1) C.1 C.2.1 dX11_count_151 (by decide) ?_
                    exact gx_iret C hr g dX11_count_152 h
theorem mX11_count {l : Launch} {E : EE} {base : Nat} (x1 : Int32) (σ : St) (Q : Int32 → St → Prop) (h : wX11_count x1 σ Q) : Met l yX11_count (wy yX11_count cX11_count 2 (some .int)) rmX11_count (va_Pc [.ref (ga E 0), .int x1] (fun U => SW E base σ U)) (QI E base Q) (rmX11_count).cells (rmX11_count).slots (fun q => base ≤ q) :=
  met_of (by decide) (Nat.le_of_ble_eq_true rfl) (fun p e s m args below meth c C hr g ls hl => tX11_count_e C hr x1 _ _ _ _ hl g h)
