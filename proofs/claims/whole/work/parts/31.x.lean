abbrev rmX11_feed : Room := { frames := 1, cells := 0, slots := 0, locals := 22 }
def wX11_feed (x1 : Int32) (x2 : Int32) (x3 : Int32) (x4 : Int32) (x5 : Int32) (σ : St) (Q : Int32 → St → Prop) : Prop := ((((gv σ 6 0) + (20 : Int32)) ≤ (2000 : Int32) → wX8_append x1 σ (fun (σ3 : St) => wX8_append x2 σ3 (fun (σ5 : St) => wX8_append x3 σ5 (fun (σ7 : St) => wX8_append x4 σ7 (fun (σ9 : St) => wX8_append x5 σ9 (fun (σ11 : St) => Q (gv σ11 6 0) σ11)))))) ∧ (¬ (((gv σ 6 0) + (20 : Int32)) ≤ (2000 : Int32)) → Q (-1 : Int32) σ))
abbrev rmX11_back : Room := { frames := 0, cells := 0, slots := 0, locals := 0 }
def wX11_back (x1 : Int32) (σ : St) (Q : Int32 → St → Prop) : Prop := ((x1 < 0 → Q (-1 : Int32) σ) ∧ (¬ (x1 < 0) → ((x1 ≤ (gv σ 6 0) → ∀ σ3 : St, σ3 = pv σ 6 0 ((gv σ 6 0) - x1) → Q (gv σ3 6 0) σ3) ∧ (¬ (x1 ≤ (gv σ 6 0)) → Q (-1 : Int32) σ))))
abbrev rmX11_place : Room := { frames := 0, cells := 0, slots := 0, locals := 0 }
def wX11_place (σ : St) (Q : Int32 → St → Prop) : Prop := Q (gv σ 5 2) σ
abbrev rmX11_mill : Room := { frames := 1, cells := 0, slots := 0, locals := 26 }
def wX11_mill (x1 : Int32) (x2 : Int32) (x3 : Int32) (x4 : Int32) (σ : St) (Q : Int32 → St → Prop) : Prop := (((gv σ 0 5) = 0 → wX3_add x1 x2 x3 x4 σ (fun (r2 : Int32) (σ3 : St) => Q r2 σ3)) ∧ (¬ ((gv σ 0 5) = 0) → Q (-1 : Int32) σ))
abbrev rmX11_spring : Room := { frames := 0, cells := 0, slots := 0, locals := 0 }
def wX11_spring (x1 : Int32) (σ : St) (Q : Int32 → St → Prop) : Prop := ((x1 < 0 → Q (0 : Int32) σ) ∧ (¬ (x1 < 0) → ((x1 ≤ (100 : Int32) → ∀ σ3 : St, σ3 = pv σ 2 5 x1 → Q (1 : Int32) σ3) ∧ (¬ (x1 ≤ (100 : Int32)) → Q (0 : Int32) σ))))
abbrev rmX11_factor : Room := { frames := 1, cells := 0, slots := 0, locals := 22 }
def wX11_factor (x1 : Int32) (x2 : Int32) (σ : St) (Q : Int32 → St → Prop) : Prop := wX3_setFactor x1 x2 σ (fun (r1 : Int32) (σ2 : St) => narrow .boolean (.int r1) = .int r1 ∧ Q r1 σ2)
abbrev rmX11_clock : Room := { frames := 0, cells := 0, slots := 0, locals := 0 }
def wX11_clock (x1 : Int32) (σ : St) (Q : Int32 → St → Prop) : Prop := ((x1 < (gv σ 0 5) → Q (0 : Int32) σ) ∧ (¬ (x1 < (gv σ 0 5)) → ((x1 < (240 : Int32) → ∀ σ3 : St, σ3 = pv σ 0 5 x1 → Q (1 : Int32) σ3) ∧ (¬ (x1 < (240 : Int32)) → Q (0 : Int32) σ))))
abbrev rmX11_isHour : Room := { frames := 0, cells := 0, slots := 0, locals := 0 }
def wX11_isHour (x1 : Int32) (σ : St) (Q : Int32 → St → Prop) : Prop := ((x1 < 0 → Q (0 : Int32) σ) ∧ (¬ (x1 < 0) → (((240 : Int32) ≤ x1 → Q (0 : Int32) σ) ∧ (¬ ((240 : Int32) ≤ x1) → Q (1 : Int32) σ))))
abbrev rmX11_isMill : Room := { frames := 0, cells := 0, slots := 0, locals := 0 }
def wX11_isMill (x1 : Int32) (σ : St) (Q : Int32 → St → Prop) : Prop := ((x1 < 0 → Q (0 : Int32) σ) ∧ (¬ (x1 < 0) → (((gv σ 2 4) ≤ x1 → Q (0 : Int32) σ) ∧ (¬ ((gv σ 2 4) ≤ x1) → Q (1 : Int32) σ))))
abbrev rmX11_rain : Room := { frames := 1, cells := 0, slots := 0, locals := 23 }
def wX11_rain (x1 : Int32) (x2 : Int32) (x3 : Int32) (σ : St) (Q : Int32 → St → Prop) : Prop := wX11_isHour x1 σ (fun (r1 : Int32) (σ2 : St) => ((r1 = 0 → Q (-1 : Int32) σ2) ∧ (¬ (r1 = 0) → wX11_isMill x2 σ2 (fun (r4 : Int32) (σ5 : St) => ((r4 = 0 → Q (-1 : Int32) σ5) ∧ (¬ (r4 = 0) → ((x3 < 0 → Q (-1 : Int32) σ5) ∧ (¬ (x3 < 0) → ((x3 ≤ (1000 : Int32) → wX6_add x1 x2 x3 σ5 (fun (r9 : Int32) (σ10 : St) => Q r9 σ10)) ∧ (¬ (x3 ≤ (1000 : Int32)) → Q (-1 : Int32) σ5))))))))))
abbrev rmX11_order : Room := { frames := 1, cells := 0, slots := 0, locals := 24 }
def wX11_order (x1 : Int32) (x2 : Int32) (x3 : Int32) (σ : St) (Q : Int32 → St → Prop) : Prop := wX11_isMill x1 σ (fun (r1 : Int32) (σ2 : St) => ((r1 = 0 → Q (-1 : Int32) σ2) ∧ (¬ (r1 = 0) → ((x3 < 0 → Q (-1 : Int32) σ2) ∧ (¬ (x3 < 0) → wX3_mostSetting x1 x2 σ2 (fun (r5 : Int32) (σ6 : St) => ((x3 ≤ r5 → wX4_add (gv σ6 0 5) x1 x2 x3 σ6 (fun (r8 : Int32) (σ9 : St) => Q r8 σ9)) ∧ (¬ (x3 ≤ r5) → Q (-1 : Int32) σ6))))))))
abbrev rmX11_grist : Room := { frames := 1, cells := 0, slots := 0, locals := 23 }
def wX11_grist (x1 : Int32) (x2 : Int32) (σ : St) (Q : Int32 → St → Prop) : Prop := wX11_isMill x1 σ (fun (r1 : Int32) (σ2 : St) => ((r1 = 0 → Q (-1 : Int32) σ2) ∧ (¬ (r1 = 0) → ((x2 < (1 : Int32) → Q (-1 : Int32) σ2) ∧ (¬ (x2 < (1 : Int32)) → ((x2 ≤ (10000 : Int32) → wX1_add (gv σ2 0 5) x1 x2 σ2 (fun (r6 : Int32) (σ7 : St) => Q r6 σ7)) ∧ (¬ (x2 ≤ (10000 : Int32)) → Q (-1 : Int32) σ2)))))))
abbrev rmX11_isKnown : Room := { frames := 0, cells := 0, slots := 0, locals := 0 }
def wX11_isKnown (x1 : Int32) (σ : St) (Q : Int32 → St → Prop) : Prop := ((x1 < 0 → Q (0 : Int32) σ) ∧ (¬ (x1 < 0) → (((gv σ 3 0) < x1 → Q (0 : Int32) σ) ∧ (¬ ((gv σ 3 0) < x1) → Q (1 : Int32) σ))))
abbrev rmX11_isEnd : Room := { frames := 0, cells := 0, slots := 0, locals := 0 }
def wX11_isEnd (x1 : Int32) (σ : St) (Q : Int32 → St → Prop) : Prop := ((x1 < 0 → Q (0 : Int32) σ) ∧ (¬ (x1 < 0) → (((240 : Int32) < x1 → Q (0 : Int32) σ) ∧ (¬ ((240 : Int32) < x1) → Q (1 : Int32) σ))))
abbrev rmX11_planned : Room := { frames := 0, cells := 0, slots := 0, locals := 0 }
def wX11_planned_15 (Q : Int32 → St → Prop) (σ : St) : Prop := Q (-1 : Int32) σ
def wX11_planned (x1 : Int32) (σ : St) (Q : Int32 → St → Prop) : Prop := ((x1 < 0 → wX11_planned_15 Q σ) ∧ (¬ (x1 < 0) → ((x1 < (gv σ 10 1) → vp_in x1 6 ∧ Q (gv σ 44 x1.toNatClampNeg) σ) ∧ (¬ (x1 < (gv σ 10 1)) → wX11_planned_15 Q σ))))
abbrev rmX11_count : Room := { frames := 0, cells := 0, slots := 0, locals := 0 }
def wX11_count (x1 : Int32) (σ : St) (Q : Int32 → St → Prop) : Prop := ((x1 = 0 → Q (gv σ 2 4) σ) ∧ (¬ (x1 = 0) → ((x1 = 1 → Q (gv σ 3 0) σ) ∧ (¬ (x1 = 1) → ((x1 = 2 → Q (gv σ 4 4) σ) ∧ (¬ (x1 = 2) → ((x1 = 3 → Q (gv σ 9 5) σ) ∧ (¬ (x1 = 3) → ((x1 = 4 → Q (gv σ 8 0) σ) ∧ (¬ (x1 = 4) → ((x1 = 5 → Q (gv σ 8 1) σ) ∧ (¬ (x1 = 5) → ((x1 = 6 → Q (gv σ 0 5) σ) ∧ (¬ (x1 = 6) → ((x1 = 7 → Q (gv σ 2 6) σ) ∧ (¬ (x1 = 7) → ((x1 = 8 → Q (gv σ 6 0) σ) ∧ (¬ (x1 = 8) → Q (-1 : Int32) σ))))))))))))))))))
set_option maxHeartbeats 4000000 in
set_option maxRecDepth 100000 in
theorem tX11_feed_0 {p : Program} {l : Launch} {e : Env} {s : State} {m : MethodId} {args : Array Value} {below : List Frame} {meth : Method} {c : Code} {E : EE} {base : Nat} (C : Cx p E base s m args meth c cX11_feed 7 RX11) (hr : meth.sig.returnType = (some .int)) {Q : Int32 → St → Prop} : ∀ (x1 : Int32) (x2 : Int32) (x3 : Int32) (x4 : Int32) (x5 : Int32) (σ : St) (H : Heap) (locs : List Loc) (ls : Array Slot), lv_has ls 7 [(0, .ref (ga E 0)), (1, .int x1), (2, .int x2), (3, .int x3), (4, .int x4), (5, .int x5)] → GW E base s σ H locs → wX11_feed x1 x2 x3 x4 x5 σ Q → W p l e rmX11_feed s m args below meth c H locs 0 0 (MQ below (QI E base Q) args s 0 0 (fun q => base ≤ q)) (F0 m 0 ls []) := by
  intro x1 x2 x3 x4 x5 σ H locs ls hl g h
  refine lv_aload_n C.1 C.2.1 dX11_feed_0 rfl (lv_at hl 0 rfl) ?_
  refine gx_getR C g fl_X11_10 dX11_feed_1 sh_0 rfl (by decide) ?_
  refine gx_getR C g fl_X11_44 dX11_feed_4 sh_1 rfl (by decide) ?_
  refine gx_getR C g fl_X11_48 dX11_feed_7 sh_5 rfl (by decide) ?_
  refine lv_astore (lv' := [(6, .ref (ga E 6)), (0, .ref (ga E 0)), (1, .int x1), (2, .int x2), (3, .int x3), (4, .int x4), (5, .int x5)]) C.1 C.2.1 dX11_feed_10 hl (by decide) rfl (fun ls hl => ?_)
  refine lv_aload C.1 C.2.1 dX11_feed_12 (lv_at hl 0 rfl) ?_
  refine gx_getI C g fl_X11_54 dX11_feed_14 sh_6 rfl ?_
  refine lv_bipush (v := 20) C.1 C.2.1 dX11_feed_17 (by decide) ?_
  refine lv_iadd C.1 C.2.1 dX11_feed_19 ?_
  refine lv_sipush (v := 2000) C.1 C.2.1 dX11_feed_20 (by decide) ?_
  refine lv_icmp_le (tgt := 28) C.1 C.2.1 dX11_feed_23 (by decide) (fun c1 => ?_) (fun c1 => ?_)
  · have h := h.1 c1
    refine lv_aload C.1 C.2.1 dX11_feed_28 (lv_at hl 0 rfl) ?_
    refine lv_iload_n C.1 C.2.1 dX11_feed_30 rfl (lv_at hl 2 rfl) ?_
    refine gx_callv0 g (gx_runV (k := 6) (rest := []) C g mb_X8_append ml_X11_59 rfl sh_6 (mX8_append x1 _ _ h) ⟨Nat.le_of_ble_eq_true rfl, Nat.le_of_ble_eq_true rfl⟩ ⟨Nat.le_refl _, Nat.le_refl _⟩ rfl hl.1 rfl (Nat.le_of_ble_eq_true rfl) dX11_feed_31) rfl rfl (fun σ3 H locs h g => ?_)
    refine lv_aload C.1 C.2.1 dX11_feed_34 (lv_at hl 0 rfl) ?_
    refine lv_iload_n C.1 C.2.1 dX11_feed_36 rfl (lv_at hl 3 rfl) ?_
    refine gx_callv0 g (gx_runV (k := 6) (rest := []) C g mb_X8_append ml_X11_59 rfl sh_6 (mX8_append x2 _ _ h) ⟨Nat.le_of_ble_eq_true rfl, Nat.le_of_ble_eq_true rfl⟩ ⟨Nat.le_refl _, Nat.le_refl _⟩ rfl hl.1 rfl (Nat.le_of_ble_eq_true rfl) dX11_feed_37) rfl rfl (fun σ5 H locs h g => ?_)
    refine lv_aload C.1 C.2.1 dX11_feed_40 (lv_at hl 0 rfl) ?_
    refine lv_iload_n C.1 C.2.1 dX11_feed_42 rfl (lv_at hl 4 rfl) ?_
    refine gx_callv0 g (gx_runV (k := 6) (rest := []) C g mb_X8_append ml_X11_59 rfl sh_6 (mX8_append x3 _ _ h) ⟨Nat.le_of_ble_eq_true rfl, Nat.le_of_ble_eq_true rfl⟩ ⟨Nat.le_refl _, Nat.le_refl _⟩ rfl hl.1 rfl (Nat.le_of_ble_eq_true rfl) dX11_feed_43) rfl rfl (fun σ7 H locs h g => ?_)
    refine lv_aload C.1 C.2.1 dX11_feed_46 (lv_at hl 0 rfl) ?_
    refine lv_iload C.1 C.2.1 dX11_feed_48 (lv_at hl 5 rfl) ?_
    refine gx_callv0 g (gx_runV (k := 6) (rest := []) C g mb_X8_append ml_X11_59 rfl sh_6 (mX8_append x4 _ _ h) ⟨Nat.le_of_ble_eq_true rfl, Nat.le_of_ble_eq_true rfl⟩ ⟨Nat.le_refl _, Nat.le_refl _⟩ rfl hl.1 rfl (Nat.le_of_ble_eq_true rfl) dX11_feed_50) rfl rfl (fun σ9 H locs h g => ?_)
    refine lv_aload C.1 C.2.1 dX11_feed_53 (lv_at hl 0 rfl) ?_
    refine lv_iload C.1 C.2.1 dX11_feed_55 (lv_at hl 6 rfl) ?_
    refine gx_callv0 g (gx_runV (k := 6) (rest := []) C g mb_X8_append ml_X11_59 rfl sh_6 (mX8_append x5 _ _ h) ⟨Nat.le_of_ble_eq_true rfl, Nat.le_of_ble_eq_true rfl⟩ ⟨Nat.le_refl _, Nat.le_refl _⟩ rfl hl.1 rfl (Nat.le_of_ble_eq_true rfl) dX11_feed_57) rfl rfl (fun σ11 H locs h g => ?_)
    refine lv_aload C.1 C.2.1 dX11_feed_60 (lv_at hl 0 rfl) ?_
    refine gx_getI C g fl_X11_54 dX11_feed_62 sh_6 rfl ?_
    exact gx_iret C hr g dX11_feed_65 h
  · have h := h.2 c1
    refine lv_iconst (v := -1) C.1 C.2.1 dX11_feed_26 (by decide) ?_
    exact gx_iret C hr g dX11_feed_27 h
theorem mX11_feed {l : Launch} {E : EE} {base : Nat} (x1 : Int32) (x2 : Int32) (x3 : Int32) (x4 : Int32) (x5 : Int32) (σ : St) (Q : Int32 → St → Prop) (h : wX11_feed x1 x2 x3 x4 x5 σ Q) : Met l yX11_feed (wy yX11_feed cX11_feed 7 (some .int)) rmX11_feed (va_Pc [.ref (ga E 0), .int x1, .int x2, .int x3, .int x4, .int x5] (fun U => SW E base σ U)) (QI E base Q) (rmX11_feed).cells (rmX11_feed).slots (fun q => base ≤ q) :=
  met_of (by decide) (Nat.le_of_ble_eq_true rfl) (fun p e s m args below meth c C hr g ls hl => tX11_feed_0 C hr x1 x2 x3 x4 x5 _ _ _ _ hl g h)
set_option maxHeartbeats 4000000 in
set_option maxRecDepth 100000 in
theorem tX11_back_0 {p : Program} {l : Launch} {e : Env} {s : State} {m : MethodId} {args : Array Value} {below : List Frame} {meth : Method} {c : Code} {E : EE} {base : Nat} (C : Cx p E base s m args meth c cX11_back 3 RX11) (hr : meth.sig.returnType = (some .int)) {Q : Int32 → St → Prop} : ∀ (x1 : Int32) (σ : St) (H : Heap) (locs : List Loc) (ls : Array Slot), lv_has ls 3 [(0, .ref (ga E 0)), (1, .int x1)] → GW E base s σ H locs → wX11_back x1 σ Q → W p l e rmX11_back s m args below meth c H locs 0 0 (MQ below (QI E base Q) args s 0 0 (fun q => base ≤ q)) (F0 m 0 ls []) := by
  intro x1 σ H locs ls hl g h
  refine lv_aload_n C.1 C.2.1 dX11_back_0 rfl (lv_at hl 0 rfl) ?_
  refine gx_getR C g fl_X11_10 dX11_back_1 sh_0 rfl (by decide) ?_
  refine gx_getR C g fl_X11_44 dX11_back_4 sh_1 rfl (by decide) ?_
  refine gx_getR C g fl_X11_48 dX11_back_7 sh_5 rfl (by decide) ?_
  refine lv_astore_n (lv' := [(2, .ref (ga E 6)), (0, .ref (ga E 0)), (1, .int x1)]) C.1 C.2.1 dX11_back_10 rfl hl (by decide) rfl (fun ls hl => ?_)
  refine lv_iload_n C.1 C.2.1 dX11_back_11 rfl (lv_at hl 2 rfl) ?_
  refine lv_if_lt (tgt := 23) C.1 C.2.1 dX11_back_12 (by decide) (fun c1 => ?_) (fun c1 => ?_)
  · have h := h.1 c1
    refine lv_iconst (v := -1) C.1 C.2.1 dX11_back_23 (by decide) ?_
    exact gx_iret C hr g dX11_back_24 h
  · have h := h.2 c1
    refine lv_iload_n C.1 C.2.1 dX11_back_15 rfl (lv_at hl 2 rfl) ?_
    refine lv_aload_n C.1 C.2.1 dX11_back_16 rfl (lv_at hl 0 rfl) ?_
    refine gx_getI C g fl_X11_54 dX11_back_17 sh_6 rfl ?_
    refine lv_icmp_le (tgt := 25) C.1 C.2.1 dX11_back_20 (by decide) (fun c2 => ?_) (fun c2 => ?_)
    · have h := h.1 c2
      refine lv_aload_n C.1 C.2.1 dX11_back_25 rfl (lv_at hl 0 rfl) ?_
      refine lv_dup C.1 C.2.1 dX11_back_26 rfl ?_
      refine gx_getI C g fl_X11_54 dX11_back_27 sh_6 rfl ?_
      refine lv_iload_n C.1 C.2.1 dX11_back_30 rfl (lv_at hl 2 rfl) ?_
      refine lv_isub C.1 C.2.1 dX11_back_31 ?_
      refine gx_putI C g fi_X11_54 dX11_back_32 sh_6 rfl (fun H locs σ3 eσ3 g => ?_)
      have h := h σ3 eσ3
      refine lv_aload_n C.1 C.2.1 dX11_back_35 rfl (lv_at hl 0 rfl) ?_
      refine gx_getI C g fl_X11_54 dX11_back_36 sh_6 rfl ?_
      exact gx_iret C hr g dX11_back_39 h
    · have h := h.2 c2
      refine lv_iconst (v := -1) C.1 C.2.1 dX11_back_23 (by decide) ?_
      exact gx_iret C hr g dX11_back_24 h
theorem mX11_back {l : Launch} {E : EE} {base : Nat} (x1 : Int32) (σ : St) (Q : Int32 → St → Prop) (h : wX11_back x1 σ Q) : Met l yX11_back (wy yX11_back cX11_back 3 (some .int)) rmX11_back (va_Pc [.ref (ga E 0), .int x1] (fun U => SW E base σ U)) (QI E base Q) (rmX11_back).cells (rmX11_back).slots (fun q => base ≤ q) :=
  met_of (by decide) (Nat.le_of_ble_eq_true rfl) (fun p e s m args below meth c C hr g ls hl => tX11_back_0 C hr x1 _ _ _ _ hl g h)
set_option maxHeartbeats 4000000 in
set_option maxRecDepth 100000 in
theorem tX11_place_0 {p : Program} {l : Launch} {e : Env} {s : State} {m : MethodId} {args : Array Value} {below : List Frame} {meth : Method} {c : Code} {E : EE} {base : Nat} (C : Cx p E base s m args meth c cX11_place 1 RX11) (hr : meth.sig.returnType = (some .int)) {Q : Int32 → St → Prop} : ∀ (σ : St) (H : Heap) (locs : List Loc) (ls : Array Slot), lv_has ls 1 [(0, .ref (ga E 0))] → GW E base s σ H locs → wX11_place σ Q → W p l e rmX11_place s m args below meth c H locs 0 0 (MQ below (QI E base Q) args s 0 0 (fun q => base ≤ q)) (F0 m 0 ls []) := by
  intro σ H locs ls hl g h
  refine lv_aload_n C.1 C.2.1 dX11_place_0 rfl (lv_at hl 0 rfl) ?_
  refine gx_getR C g fl_X11_10 dX11_place_1 sh_0 rfl (by decide) ?_
  refine gx_getR C g fl_X11_44 dX11_place_4 sh_1 rfl (by decide) ?_
  refine gx_getI C g fl_X11_74 dX11_place_7 sh_5 rfl ?_
  exact gx_iret C hr g dX11_place_10 h
theorem mX11_place {l : Launch} {E : EE} {base : Nat} (σ : St) (Q : Int32 → St → Prop) (h : wX11_place σ Q) : Met l yX11_place (wy yX11_place cX11_place 1 (some .int)) rmX11_place (va_Pc [.ref (ga E 0)] (fun U => SW E base σ U)) (QI E base Q) (rmX11_place).cells (rmX11_place).slots (fun q => base ≤ q) :=
  met_of (by decide) (Nat.le_of_ble_eq_true rfl) (fun p e s m args below meth c C hr g ls hl => tX11_place_0 C hr  _ _ _ _ hl g h)
set_option maxHeartbeats 4000000 in
set_option maxRecDepth 100000 in
theorem tX11_mill_0 {p : Program} {l : Launch} {e : Env} {s : State} {m : MethodId} {args : Array Value} {below : List Frame} {meth : Method} {c : Code} {E : EE} {base : Nat} (C : Cx p E base s m args meth c cX11_mill 5 RX11) (hr : meth.sig.returnType = (some .int)) {Q : Int32 → St → Prop} : ∀ (x1 : Int32) (x2 : Int32) (x3 : Int32) (x4 : Int32) (σ : St) (H : Heap) (locs : List Loc) (ls : Array Slot), lv_has ls 5 [(0, .ref (ga E 0)), (1, .int x1), (2, .int x2), (3, .int x3), (4, .int x4)] → GW E base s σ H locs → wX11_mill x1 x2 x3 x4 σ Q → W p l e rmX11_mill s m args below meth c H locs 0 0 (MQ below (QI E base Q) args s 0 0 (fun q => base ≤ q)) (F0 m 0 ls []) := by
  intro x1 x2 x3 x4 σ H locs ls hl g h
  refine lv_aload_n C.1 C.2.1 dX11_mill_0 rfl (lv_at hl 0 rfl) ?_
  refine gx_getI C g fl_X11_40 dX11_mill_1 sh_0 rfl ?_
  refine lv_if_ne (tgt := 25) C.1 C.2.1 dX11_mill_4 (by decide) (fun c1 => ?_) (fun c1 => ?_)
  · have h := h.2 c1
    refine lv_iconst (v := -1) C.1 C.2.1 dX11_mill_25 (by decide) ?_
    exact gx_iret C hr g dX11_mill_26 h
  · have h := h.1 c1
    refine lv_aload_n C.1 C.2.1 dX11_mill_7 rfl (lv_at hl 0 rfl) ?_
    refine gx_getR C g fl_X11_10 dX11_mill_8 sh_0 rfl (by decide) ?_
    refine gx_getR C g fl_X11_77 dX11_mill_11 sh_1 rfl (by decide) ?_
    refine lv_iload_n C.1 C.2.1 dX11_mill_14 rfl (lv_at hl 1 rfl) ?_
    refine lv_iload_n C.1 C.2.1 dX11_mill_15 rfl (lv_at hl 2 rfl) ?_
    refine lv_iload_n C.1 C.2.1 dX11_mill_16 rfl (lv_at hl 3 rfl) ?_
    refine lv_iload C.1 C.2.1 dX11_mill_17 (lv_at hl 4 rfl) ?_
    refine gx_calli0 g (gx_runV (k := 2) (rest := []) C g mb_X3_add ml_X11_81 rfl sh_2 (mX3_add x1 x2 x3 x4 _ _ h) ⟨Nat.le_of_ble_eq_true rfl, Nat.le_of_ble_eq_true rfl⟩ ⟨Nat.le_refl _, Nat.le_refl _⟩ rfl hl.1 rfl (Nat.le_of_ble_eq_true rfl) dX11_mill_19) rfl rfl (fun r2 σ3 H locs h g => ?_)
    refine lv_goto (tgt := 26) C.1 C.2.1 dX11_mill_22 (by decide) ?_
    exact gx_iret C hr g dX11_mill_26 h
theorem mX11_mill {l : Launch} {E : EE} {base : Nat} (x1 : Int32) (x2 : Int32) (x3 : Int32) (x4 : Int32) (σ : St) (Q : Int32 → St → Prop) (h : wX11_mill x1 x2 x3 x4 σ Q) : Met l yX11_mill (wy yX11_mill cX11_mill 5 (some .int)) rmX11_mill (va_Pc [.ref (ga E 0), .int x1, .int x2, .int x3, .int x4] (fun U => SW E base σ U)) (QI E base Q) (rmX11_mill).cells (rmX11_mill).slots (fun q => base ≤ q) :=
  met_of (by decide) (Nat.le_of_ble_eq_true rfl) (fun p e s m args below meth c C hr g ls hl => tX11_mill_0 C hr x1 x2 x3 x4 _ _ _ _ hl g h)
set_option maxHeartbeats 4000000 in
set_option maxRecDepth 100000 in
theorem tX11_spring_0 {p : Program} {l : Launch} {e : Env} {s : State} {m : MethodId} {args : Array Value} {below : List Frame} {meth : Method} {c : Code} {E : EE} {base : Nat} (C : Cx p E base s m args meth c cX11_spring 2 RX11) (hr : meth.sig.returnType = (some .boolean)) {Q : Int32 → St → Prop} : ∀ (x1 : Int32) (σ : St) (H : Heap) (locs : List Loc) (ls : Array Slot), lv_has ls 2 [(0, .ref (ga E 0)), (1, .int x1)] → GW E base s σ H locs → wX11_spring x1 σ Q → W p l e rmX11_spring s m args below meth c H locs 0 0 (MQ below (QI E base Q) args s 0 0 (fun q => base ≤ q)) (F0 m 0 ls []) := by
  intro x1 σ H locs ls hl g h
  refine lv_iload_n C.1 C.2.1 dX11_spring_0 rfl (lv_at hl 1 rfl) ?_
  refine lv_if_lt (tgt := 10) C.1 C.2.1 dX11_spring_1 (by decide) (fun c1 => ?_) (fun c1 => ?_)
  · have h := h.1 c1
    refine lv_iconst (v := 0) C.1 C.2.1 dX11_spring_10 (by decide) ?_
    exact gx_zret C hr g dX11_spring_11 (by decide) h
  · have h := h.2 c1
    refine lv_iload_n C.1 C.2.1 dX11_spring_4 rfl (lv_at hl 1 rfl) ?_
    refine lv_bipush (v := 100) C.1 C.2.1 dX11_spring_5 (by decide) ?_
    refine lv_icmp_le (tgt := 12) C.1 C.2.1 dX11_spring_7 (by decide) (fun c2 => ?_) (fun c2 => ?_)
    · have h := h.1 c2
      refine lv_aload_n C.1 C.2.1 dX11_spring_12 rfl (lv_at hl 0 rfl) ?_
      refine gx_getR C g fl_X11_10 dX11_spring_13 sh_0 rfl (by decide) ?_
      refine gx_getR C g fl_X11_77 dX11_spring_16 sh_1 rfl (by decide) ?_
      refine lv_iload_n C.1 C.2.1 dX11_spring_19 rfl (lv_at hl 1 rfl) ?_
      refine gx_putI C g fi_X11_87 dX11_spring_20 sh_2 rfl (fun H locs σ3 eσ3 g => ?_)
      have h := h σ3 eσ3
      refine lv_iconst (v := 1) C.1 C.2.1 dX11_spring_23 (by decide) ?_
      exact gx_zret C hr g dX11_spring_24 (by decide) h
    · have h := h.2 c2
      refine lv_iconst (v := 0) C.1 C.2.1 dX11_spring_10 (by decide) ?_
      exact gx_zret C hr g dX11_spring_11 (by decide) h
theorem mX11_spring {l : Launch} {E : EE} {base : Nat} (x1 : Int32) (σ : St) (Q : Int32 → St → Prop) (h : wX11_spring x1 σ Q) : Met l yX11_spring (wy yX11_spring cX11_spring 2 (some .boolean)) rmX11_spring (va_Pc [.ref (ga E 0), .int x1] (fun U => SW E base σ U)) (QI E base Q) (rmX11_spring).cells (rmX11_spring).slots (fun q => base ≤ q) :=
  met_of (by decide) (Nat.le_of_ble_eq_true rfl) (fun p e s m args below meth c C hr g ls hl => tX11_spring_0 C hr x1 _ _ _ _ hl g h)
set_option maxHeartbeats 4000000 in
set_option maxRecDepth 100000 in
theorem tX11_factor_0 {p : Program} {l : Launch} {e : Env} {s : State} {m : MethodId} {args : Array Value} {below : List Frame} {meth : Method} {c : Code} {E : EE} {base : Nat} (C : Cx p E base s m args meth c cX11_factor 3 RX11) (hr : meth.sig.returnType = (some .boolean)) {Q : Int32 → St → Prop} : ∀ (x1 : Int32) (x2 : Int32) (σ : St) (H : Heap) (locs : List Loc) (ls : Array Slot), lv_has ls 3 [(0, .ref (ga E 0)), (1, .int x1), (2, .int x2)] → GW E base s σ H locs → wX11_factor x1 x2 σ Q → W p l e rmX11_factor s m args below meth c H locs 0 0 (MQ below (QI E base Q) args s 0 0 (fun q => base ≤ q)) (F0 m 0 ls []) := by
  intro x1 x2 σ H locs ls hl g h
  refine lv_aload_n C.1 C.2.1 dX11_factor_0 rfl (lv_at hl 0 rfl) ?_
  refine gx_getR C g fl_X11_10 dX11_factor_1 sh_0 rfl (by decide) ?_
  refine gx_getR C g fl_X11_77 dX11_factor_4 sh_1 rfl (by decide) ?_
  refine lv_iload_n C.1 C.2.1 dX11_factor_7 rfl (lv_at hl 1 rfl) ?_
  refine lv_iload_n C.1 C.2.1 dX11_factor_8 rfl (lv_at hl 2 rfl) ?_
  refine gx_calli0 g (gx_runV (k := 2) (rest := []) C g mb_X3_setFactor ml_X11_94 rfl sh_2 (mX3_setFactor x1 x2 _ _ h) ⟨Nat.le_of_ble_eq_true rfl, Nat.le_of_ble_eq_true rfl⟩ ⟨Nat.le_refl _, Nat.le_refl _⟩ rfl hl.1 rfl (Nat.le_of_ble_eq_true rfl) dX11_factor_9) rfl rfl (fun r1 σ2 H locs h g => ?_)
  exact gx_zret C hr g dX11_factor_12 h.1 h.2
theorem mX11_factor {l : Launch} {E : EE} {base : Nat} (x1 : Int32) (x2 : Int32) (σ : St) (Q : Int32 → St → Prop) (h : wX11_factor x1 x2 σ Q) : Met l yX11_factor (wy yX11_factor cX11_factor 3 (some .boolean)) rmX11_factor (va_Pc [.ref (ga E 0), .int x1, .int x2] (fun U => SW E base σ U)) (QI E base Q) (rmX11_factor).cells (rmX11_factor).slots (fun q => base ≤ q) :=
  met_of (by decide) (Nat.le_of_ble_eq_true rfl) (fun p e s m args below meth c C hr g ls hl => tX11_factor_0 C hr x1 x2 _ _ _ _ hl g h)
set_option maxHeartbeats 4000000 in
set_option maxRecDepth 100000 in
theorem tX11_clock_0 {p : Program} {l : Launch} {e : Env} {s : State} {m : MethodId} {args : Array Value} {below : List Frame} {meth : Method} {c : Code} {E : EE} {base : Nat} (C : Cx p E base s m args meth c cX11_clock 2 RX11) (hr : meth.sig.returnType = (some .boolean)) {Q : Int32 → St → Prop} : ∀ (x1 : Int32) (σ : St) (H : Heap) (locs : List Loc) (ls : Array Slot), lv_has ls 2 [(0, .ref (ga E 0)), (1, .int x1)] → GW E base s σ H locs → wX11_clock x1 σ Q → W p l e rmX11_clock s m args below meth c H locs 0 0 (MQ below (QI E base Q) args s 0 0 (fun q => base ≤ q)) (F0 m 0 ls []) := by
  intro x1 σ H locs ls hl g h
  refine lv_iload_n C.1 C.2.1 dX11_clock_0 rfl (lv_at hl 1 rfl) ?_
  refine lv_aload_n C.1 C.2.1 dX11_clock_1 rfl (lv_at hl 0 rfl) ?_
  refine gx_getI C g fl_X11_40 dX11_clock_2 sh_0 rfl ?_
  refine lv_icmp_lt (tgt := 15) C.1 C.2.1 dX11_clock_5 (by decide) (fun c1 => ?_) (fun c1 => ?_)
  · have h := h.1 c1
    refine lv_iconst (v := 0) C.1 C.2.1 dX11_clock_15 (by decide) ?_
    exact gx_zret C hr g dX11_clock_16 (by decide) h
  · have h := h.2 c1
    refine lv_iload_n C.1 C.2.1 dX11_clock_8 rfl (lv_at hl 1 rfl) ?_
    refine lv_sipush (v := 240) C.1 C.2.1 dX11_clock_9 (by decide) ?_
    refine lv_icmp_lt (tgt := 17) C.1 C.2.1 dX11_clock_12 (by decide) (fun c2 => ?_) (fun c2 => ?_)
    · have h := h.1 c2
      refine lv_aload_n C.1 C.2.1 dX11_clock_17 rfl (lv_at hl 0 rfl) ?_
      refine lv_iload_n C.1 C.2.1 dX11_clock_18 rfl (lv_at hl 1 rfl) ?_
      refine gx_putI C g fi_X11_40 dX11_clock_19 sh_0 rfl (fun H locs σ3 eσ3 g => ?_)
      have h := h σ3 eσ3
      refine lv_iconst (v := 1) C.1 C.2.1 dX11_clock_22 (by decide) ?_
      exact gx_zret C hr g dX11_clock_23 (by decide) h
    · have h := h.2 c2
      refine lv_iconst (v := 0) C.1 C.2.1 dX11_clock_15 (by decide) ?_
      exact gx_zret C hr g dX11_clock_16 (by decide) h
theorem mX11_clock {l : Launch} {E : EE} {base : Nat} (x1 : Int32) (σ : St) (Q : Int32 → St → Prop) (h : wX11_clock x1 σ Q) : Met l yX11_clock (wy yX11_clock cX11_clock 2 (some .boolean)) rmX11_clock (va_Pc [.ref (ga E 0), .int x1] (fun U => SW E base σ U)) (QI E base Q) (rmX11_clock).cells (rmX11_clock).slots (fun q => base ≤ q) :=
  met_of (by decide) (Nat.le_of_ble_eq_true rfl) (fun p e s m args below meth c C hr g ls hl => tX11_clock_0 C hr x1 _ _ _ _ hl g h)
set_option maxHeartbeats 4000000 in
set_option maxRecDepth 100000 in
theorem tX11_isHour_0 {p : Program} {l : Launch} {e : Env} {s : State} {m : MethodId} {args : Array Value} {below : List Frame} {meth : Method} {c : Code} {E : EE} {base : Nat} (C : Cx p E base s m args meth c cX11_isHour 2 RX11) (hr : meth.sig.returnType = (some .boolean)) {Q : Int32 → St → Prop} : ∀ (x1 : Int32) (σ : St) (H : Heap) (locs : List Loc) (ls : Array Slot), lv_has ls 2 [(0, .ref (ga E 0)), (1, .int x1)] → GW E base s σ H locs → wX11_isHour x1 σ Q → W p l e rmX11_isHour s m args below meth c H locs 0 0 (MQ below (QI E base Q) args s 0 0 (fun q => base ≤ q)) (F0 m 0 ls []) := by
  intro x1 σ H locs ls hl g h
  refine lv_iload_n C.1 C.2.1 dX11_isHour_0 rfl (lv_at hl 1 rfl) ?_
  refine lv_if_lt (tgt := 15) C.1 C.2.1 dX11_isHour_1 (by decide) (fun c1 => ?_) (fun c1 => ?_)
  · have h := h.1 c1
    refine lv_iconst (v := 0) C.1 C.2.1 dX11_isHour_15 (by decide) ?_
    exact gx_zret C hr g dX11_isHour_16 (by decide) h
  · have h := h.2 c1
    refine lv_iload_n C.1 C.2.1 dX11_isHour_4 rfl (lv_at hl 1 rfl) ?_
    refine lv_sipush (v := 240) C.1 C.2.1 dX11_isHour_5 (by decide) ?_
    refine lv_icmp_ge (tgt := 15) C.1 C.2.1 dX11_isHour_8 (by decide) (fun c2 => ?_) (fun c2 => ?_)
    · have h := h.1 c2
      refine lv_iconst (v := 0) C.1 C.2.1 dX11_isHour_15 (by decide) ?_
      exact gx_zret C hr g dX11_isHour_16 (by decide) h
    · have h := h.2 c2
      refine lv_iconst (v := 1) C.1 C.2.1 dX11_isHour_11 (by decide) ?_
      refine lv_goto (tgt := 16) C.1 C.2.1 dX11_isHour_12 (by decide) ?_
      exact gx_zret C hr g dX11_isHour_16 (by decide) h
theorem mX11_isHour {l : Launch} {E : EE} {base : Nat} (x1 : Int32) (σ : St) (Q : Int32 → St → Prop) (h : wX11_isHour x1 σ Q) : Met l yX11_isHour (wy yX11_isHour cX11_isHour 2 (some .boolean)) rmX11_isHour (va_Pc [.ref (ga E 0), .int x1] (fun U => SW E base σ U)) (QI E base Q) (rmX11_isHour).cells (rmX11_isHour).slots (fun q => base ≤ q) :=
  met_of (by decide) (Nat.le_of_ble_eq_true rfl) (fun p e s m args below meth c C hr g ls hl => tX11_isHour_0 C hr x1 _ _ _ _ hl g h)
set_option maxHeartbeats 4000000 in
set_option maxRecDepth 100000 in
theorem tX11_isMill_0 {p : Program} {l : Launch} {e : Env} {s : State} {m : MethodId} {args : Array Value} {below : List Frame} {meth : Method} {c : Code} {E : EE} {base : Nat} (C : Cx p E base s m args meth c cX11_isMill 2 RX11) (hr : meth.sig.returnType = (some .boolean)) {Q : Int32 → St → Prop} : ∀ (x1 : Int32) (σ : St) (H : Heap) (locs : List Loc) (ls : Array Slot), lv_has ls 2 [(0, .ref (ga E 0)), (1, .int x1)] → GW E base s σ H locs → wX11_isMill x1 σ Q → W p l e rmX11_isMill s m args below meth c H locs 0 0 (MQ below (QI E base Q) args s 0 0 (fun q => base ≤ q)) (F0 m 0 ls []) := by
  intro x1 σ H locs ls hl g h
  refine lv_iload_n C.1 C.2.1 dX11_isMill_0 rfl (lv_at hl 1 rfl) ?_
  refine lv_if_lt (tgt := 22) C.1 C.2.1 dX11_isMill_1 (by decide) (fun c1 => ?_) (fun c1 => ?_)
  · have h := h.1 c1
    refine lv_iconst (v := 0) C.1 C.2.1 dX11_isMill_22 (by decide) ?_
    exact gx_zret C hr g dX11_isMill_23 (by decide) h
  · have h := h.2 c1
    refine lv_iload_n C.1 C.2.1 dX11_isMill_4 rfl (lv_at hl 1 rfl) ?_
    refine lv_aload_n C.1 C.2.1 dX11_isMill_5 rfl (lv_at hl 0 rfl) ?_
    refine gx_getR C g fl_X11_10 dX11_isMill_6 sh_0 rfl (by decide) ?_
    refine gx_getR C g fl_X11_77 dX11_isMill_9 sh_1 rfl (by decide) ?_
    refine gx_getI C g fl_X11_146 dX11_isMill_12 sh_2 rfl ?_
    refine lv_icmp_ge (tgt := 22) C.1 C.2.1 dX11_isMill_15 (by decide) (fun c2 => ?_) (fun c2 => ?_)
    · have h := h.1 c2
      refine lv_iconst (v := 0) C.1 C.2.1 dX11_isMill_22 (by decide) ?_
      exact gx_zret C hr g dX11_isMill_23 (by decide) h
    · have h := h.2 c2
      refine lv_iconst (v := 1) C.1 C.2.1 dX11_isMill_18 (by decide) ?_
      refine lv_goto (tgt := 23) C.1 C.2.1 dX11_isMill_19 (by decide) ?_
      exact gx_zret C hr g dX11_isMill_23 (by decide) h
theorem mX11_isMill {l : Launch} {E : EE} {base : Nat} (x1 : Int32) (σ : St) (Q : Int32 → St → Prop) (h : wX11_isMill x1 σ Q) : Met l yX11_isMill (wy yX11_isMill cX11_isMill 2 (some .boolean)) rmX11_isMill (va_Pc [.ref (ga E 0), .int x1] (fun U => SW E base σ U)) (QI E base Q) (rmX11_isMill).cells (rmX11_isMill).slots (fun q => base ≤ q) :=
  met_of (by decide) (Nat.le_of_ble_eq_true rfl) (fun p e s m args below meth c C hr g ls hl => tX11_isMill_0 C hr x1 _ _ _ _ hl g h)
set_option maxHeartbeats 4000000 in
set_option maxRecDepth 100000 in
theorem tX11_rain_0 {p : Program} {l : Launch} {e : Env} {s : State} {m : MethodId} {args : Array Value} {below : List Frame} {meth : Method} {c : Code} {E : EE} {base : Nat} (C : Cx p E base s m args meth c cX11_rain 4 RX11) (hr : meth.sig.returnType = (some .int)) {Q : Int32 → St → Prop} : ∀ (x1 : Int32) (x2 : Int32) (x3 : Int32) (σ : St) (H : Heap) (locs : List Loc) (ls : Array Slot), lv_has ls 4 [(0, .ref (ga E 0)), (1, .int x1), (2, .int x2), (3, .int x3)] → GW E base s σ H locs → wX11_rain x1 x2 x3 σ Q → W p l e rmX11_rain s m args below meth c H locs 0 0 (MQ below (QI E base Q) args s 0 0 (fun q => base ≤ q)) (F0 m 0 ls []) := by
  intro x1 x2 x3 σ H locs ls hl g h
  refine lv_aload_n C.1 C.2.1 dX11_rain_0 rfl (lv_at hl 0 rfl) ?_
  refine lv_iload_n C.1 C.2.1 dX11_rain_1 rfl (lv_at hl 1 rfl) ?_
  refine gx_calli0 g (gx_runV (k := 0) (rest := []) C g mb_X11_isHour ml_X11_98 rfl sh_0 (mX11_isHour x1 _ _ h) ⟨Nat.le_of_ble_eq_true rfl, Nat.le_of_ble_eq_true rfl⟩ ⟨Nat.le_refl _, Nat.le_refl _⟩ rfl hl.1 rfl (Nat.le_of_ble_eq_true rfl) dX11_rain_2) rfl rfl (fun r1 σ2 H locs h g => ?_)
  refine lv_if_eq (tgt := 27) C.1 C.2.1 dX11_rain_5 (by decide) (fun c3 => ?_) (fun c3 => ?_)
  · have h := h.1 c3
    refine lv_iconst (v := -1) C.1 C.2.1 dX11_rain_27 (by decide) ?_
    exact gx_iret C hr g dX11_rain_28 h
  · have h := h.2 c3
    refine lv_aload_n C.1 C.2.1 dX11_rain_8 rfl (lv_at hl 0 rfl) ?_
    refine lv_iload_n C.1 C.2.1 dX11_rain_9 rfl (lv_at hl 2 rfl) ?_
    refine gx_calli0 g (gx_runV (k := 0) (rest := []) C g mb_X11_isMill ml_X11_101 rfl sh_0 (mX11_isMill x2 _ _ h) ⟨Nat.le_of_ble_eq_true rfl, Nat.le_of_ble_eq_true rfl⟩ ⟨Nat.le_refl _, Nat.le_refl _⟩ rfl hl.1 rfl (Nat.le_of_ble_eq_true rfl) dX11_rain_10) rfl rfl (fun r4 σ5 H locs h g => ?_)
    refine lv_if_eq (tgt := 27) C.1 C.2.1 dX11_rain_13 (by decide) (fun c6 => ?_) (fun c6 => ?_)
    · have h := h.1 c6
      refine lv_iconst (v := -1) C.1 C.2.1 dX11_rain_27 (by decide) ?_
      exact gx_iret C hr g dX11_rain_28 h
    · have h := h.2 c6
      refine lv_iload_n C.1 C.2.1 dX11_rain_16 rfl (lv_at hl 3 rfl) ?_
      refine lv_if_lt (tgt := 27) C.1 C.2.1 dX11_rain_17 (by decide) (fun c7 => ?_) (fun c7 => ?_)
      · have h := h.1 c7
        refine lv_iconst (v := -1) C.1 C.2.1 dX11_rain_27 (by decide) ?_
        exact gx_iret C hr g dX11_rain_28 h
      · have h := h.2 c7
        refine lv_iload_n C.1 C.2.1 dX11_rain_20 rfl (lv_at hl 3 rfl) ?_
        refine lv_sipush (v := 1000) C.1 C.2.1 dX11_rain_21 (by decide) ?_
        refine lv_icmp_le (tgt := 29) C.1 C.2.1 dX11_rain_24 (by decide) (fun c8 => ?_) (fun c8 => ?_)
        · have h := h.1 c8
          refine lv_aload_n C.1 C.2.1 dX11_rain_29 rfl (lv_at hl 0 rfl) ?_
          refine gx_getR C g fl_X11_10 dX11_rain_30 sh_0 rfl (by decide) ?_
          refine gx_getR C g fl_X11_104 dX11_rain_33 sh_1 rfl (by decide) ?_
          refine lv_iload_n C.1 C.2.1 dX11_rain_36 rfl (lv_at hl 1 rfl) ?_
          refine lv_iload_n C.1 C.2.1 dX11_rain_37 rfl (lv_at hl 2 rfl) ?_
          refine lv_iload_n C.1 C.2.1 dX11_rain_38 rfl (lv_at hl 3 rfl) ?_
          refine gx_calli0 g (gx_runV (k := 3) (rest := []) C g mb_X6_add ml_X11_108 rfl sh_3 (mX6_add x1 x2 x3 _ _ h) ⟨Nat.le_of_ble_eq_true rfl, Nat.le_of_ble_eq_true rfl⟩ ⟨Nat.le_refl _, Nat.le_refl _⟩ rfl hl.1 rfl (Nat.le_of_ble_eq_true rfl) dX11_rain_39) rfl rfl (fun r9 σ10 H locs h g => ?_)
          exact gx_iret C hr g dX11_rain_42 h
        · have h := h.2 c8
          refine lv_iconst (v := -1) C.1 C.2.1 dX11_rain_27 (by decide) ?_
          exact gx_iret C hr g dX11_rain_28 h
theorem mX11_rain {l : Launch} {E : EE} {base : Nat} (x1 : Int32) (x2 : Int32) (x3 : Int32) (σ : St) (Q : Int32 → St → Prop) (h : wX11_rain x1 x2 x3 σ Q) : Met l yX11_rain (wy yX11_rain cX11_rain 4 (some .int)) rmX11_rain (va_Pc [.ref (ga E 0), .int x1, .int x2, .int x3] (fun U => SW E base σ U)) (QI E base Q) (rmX11_rain).cells (rmX11_rain).slots (fun q => base ≤ q) :=
  met_of (by decide) (Nat.le_of_ble_eq_true rfl) (fun p e s m args below meth c C hr g ls hl => tX11_rain_0 C hr x1 x2 x3 _ _ _ _ hl g h)
set_option maxHeartbeats 4000000 in
set_option maxRecDepth 100000 in
theorem tX11_order_0 {p : Program} {l : Launch} {e : Env} {s : State} {m : MethodId} {args : Array Value} {below : List Frame} {meth : Method} {c : Code} {E : EE} {base : Nat} (C : Cx p E base s m args meth c cX11_order 4 RX11) (hr : meth.sig.returnType = (some .int)) {Q : Int32 → St → Prop} : ∀ (x1 : Int32) (x2 : Int32) (x3 : Int32) (σ : St) (H : Heap) (locs : List Loc) (ls : Array Slot), lv_has ls 4 [(0, .ref (ga E 0)), (1, .int x1), (2, .int x2), (3, .int x3)] → GW E base s σ H locs → wX11_order x1 x2 x3 σ Q → W p l e rmX11_order s m args below meth c H locs 0 0 (MQ below (QI E base Q) args s 0 0 (fun q => base ≤ q)) (F0 m 0 ls []) := by
  intro x1 x2 x3 σ H locs ls hl g h
  refine lv_aload_n C.1 C.2.1 dX11_order_0 rfl (lv_at hl 0 rfl) ?_
  refine lv_iload_n C.1 C.2.1 dX11_order_1 rfl (lv_at hl 1 rfl) ?_
  refine gx_calli0 g (gx_runV (k := 0) (rest := []) C g mb_X11_isMill ml_X11_101 rfl sh_0 (mX11_isMill x1 _ _ h) ⟨Nat.le_of_ble_eq_true rfl, Nat.le_of_ble_eq_true rfl⟩ ⟨Nat.le_refl _, Nat.le_refl _⟩ rfl hl.1 rfl (Nat.le_of_ble_eq_true rfl) dX11_order_2) rfl rfl (fun r1 σ2 H locs h g => ?_)
  refine lv_if_eq (tgt := 28) C.1 C.2.1 dX11_order_5 (by decide) (fun c3 => ?_) (fun c3 => ?_)
  · have h := h.1 c3
    refine lv_iconst (v := -1) C.1 C.2.1 dX11_order_28 (by decide) ?_
    exact gx_iret C hr g dX11_order_29 h
  · have h := h.2 c3
    refine lv_iload_n C.1 C.2.1 dX11_order_8 rfl (lv_at hl 3 rfl) ?_
    refine lv_if_lt (tgt := 28) C.1 C.2.1 dX11_order_9 (by decide) (fun c4 => ?_) (fun c4 => ?_)
    · have h := h.1 c4
      refine lv_iconst (v := -1) C.1 C.2.1 dX11_order_28 (by decide) ?_
      exact gx_iret C hr g dX11_order_29 h
    · have h := h.2 c4
      refine lv_iload_n C.1 C.2.1 dX11_order_12 rfl (lv_at hl 3 rfl) ?_
      refine lv_aload_n C.1 C.2.1 dX11_order_13 rfl (lv_at hl 0 rfl) ?_
      refine gx_getR C g fl_X11_10 dX11_order_14 sh_0 rfl (by decide) ?_
      refine gx_getR C g fl_X11_77 dX11_order_17 sh_1 rfl (by decide) ?_
      refine lv_iload_n C.1 C.2.1 dX11_order_20 rfl (lv_at hl 1 rfl) ?_
      refine lv_iload_n C.1 C.2.1 dX11_order_21 rfl (lv_at hl 2 rfl) ?_
      refine gx_calli0 g (gx_runV (k := 2) (rest := [.int x3]) C g mb_X3_mostSetting ml_X11_113 rfl sh_2 (mX3_mostSetting x1 x2 _ _ h) ⟨Nat.le_of_ble_eq_true rfl, Nat.le_of_ble_eq_true rfl⟩ ⟨Nat.le_refl _, Nat.le_refl _⟩ rfl hl.1 rfl (Nat.le_of_ble_eq_true rfl) dX11_order_22) rfl rfl (fun r5 σ6 H locs h g => ?_)
      refine lv_icmp_le (tgt := 30) C.1 C.2.1 dX11_order_25 (by decide) (fun c7 => ?_) (fun c7 => ?_)
      · have h := h.1 c7
        refine lv_aload_n C.1 C.2.1 dX11_order_30 rfl (lv_at hl 0 rfl) ?_
        refine gx_getR C g fl_X11_10 dX11_order_31 sh_0 rfl (by decide) ?_
        refine gx_getR C g fl_X11_117 dX11_order_34 sh_1 rfl (by decide) ?_
        refine lv_aload_n C.1 C.2.1 dX11_order_37 rfl (lv_at hl 0 rfl) ?_
        refine gx_getI C g fl_X11_40 dX11_order_38 sh_0 rfl ?_
        refine lv_iload_n C.1 C.2.1 dX11_order_41 rfl (lv_at hl 1 rfl) ?_
        refine lv_iload_n C.1 C.2.1 dX11_order_42 rfl (lv_at hl 2 rfl) ?_
        refine lv_iload_n C.1 C.2.1 dX11_order_43 rfl (lv_at hl 3 rfl) ?_
        refine gx_calli0 g (gx_runV (k := 4) (rest := []) C g mb_X4_add ml_X11_121 rfl sh_4 (mX4_add (gv σ6 0 5) x1 x2 x3 _ _ h) ⟨Nat.le_of_ble_eq_true rfl, Nat.le_of_ble_eq_true rfl⟩ ⟨Nat.le_refl _, Nat.le_refl _⟩ rfl hl.1 rfl (Nat.le_of_ble_eq_true rfl) dX11_order_44) rfl rfl (fun r8 σ9 H locs h g => ?_)
        exact gx_iret C hr g dX11_order_47 h
      · have h := h.2 c7
        refine lv_iconst (v := -1) C.1 C.2.1 dX11_order_28 (by decide) ?_
        exact gx_iret C hr g dX11_order_29 h
theorem mX11_order {l : Launch} {E : EE} {base : Nat} (x1 : Int32) (x2 : Int32) (x3 : Int32) (σ : St) (Q : Int32 → St → Prop) (h : wX11_order x1 x2 x3 σ Q) : Met l yX11_order (wy yX11_order cX11_order 4 (some .int)) rmX11_order (va_Pc [.ref (ga E 0), .int x1, .int x2, .int x3] (fun U => SW E base σ U)) (QI E base Q) (rmX11_order).cells (rmX11_order).slots (fun q => base ≤ q) :=
  met_of (by decide) (Nat.le_of_ble_eq_true rfl) (fun p e s m args below meth c C hr g ls hl => tX11_order_0 C hr x1 x2 x3 _ _ _ _ hl g h)
set_option maxHeartbeats 4000000 in
set_option maxRecDepth 100000 in
theorem tX11_grist_0 {p : Program} {l : Launch} {e : Env} {s : State} {m : MethodId} {args : Array Value} {below : List Frame} {meth : Method} {c : Code} {E : EE} {base : Nat} (C : Cx p E base s m args meth c cX11_grist 3 RX11) (hr : meth.sig.returnType = (some .int)) {Q : Int32 → St → Prop} : ∀ (x1 : Int32) (x2 : Int32) (σ : St) (H : Heap) (locs : List Loc) (ls : Array Slot), lv_has ls 3 [(0, .ref (ga E 0)), (1, .int x1), (2, .int x2)] → GW E base s σ H locs → wX11_grist x1 x2 σ Q → W p l e rmX11_grist s m args below meth c H locs 0 0 (MQ below (QI E base Q) args s 0 0 (fun q => base ≤ q)) (F0 m 0 ls []) := by
  intro x1 x2 σ H locs ls hl g h
  refine lv_aload_n C.1 C.2.1 dX11_grist_0 rfl (lv_at hl 0 rfl) ?_
  refine lv_iload_n C.1 C.2.1 dX11_grist_1 rfl (lv_at hl 1 rfl) ?_
  refine gx_calli0 g (gx_runV (k := 0) (rest := []) C g mb_X11_isMill ml_X11_101 rfl sh_0 (mX11_isMill x1 _ _ h) ⟨Nat.le_of_ble_eq_true rfl, Nat.le_of_ble_eq_true rfl⟩ ⟨Nat.le_refl _, Nat.le_refl _⟩ rfl hl.1 rfl (Nat.le_of_ble_eq_true rfl) dX11_grist_2) rfl rfl (fun r1 σ2 H locs h g => ?_)
  refine lv_if_eq (tgt := 20) C.1 C.2.1 dX11_grist_5 (by decide) (fun c3 => ?_) (fun c3 => ?_)
  · have h := h.1 c3
    refine lv_iconst (v := -1) C.1 C.2.1 dX11_grist_20 (by decide) ?_
    exact gx_iret C hr g dX11_grist_21 h
  · have h := h.2 c3
    refine lv_iload_n C.1 C.2.1 dX11_grist_8 rfl (lv_at hl 2 rfl) ?_
    refine lv_iconst (v := 1) C.1 C.2.1 dX11_grist_9 (by decide) ?_
    refine lv_icmp_lt (tgt := 20) C.1 C.2.1 dX11_grist_10 (by decide) (fun c4 => ?_) (fun c4 => ?_)
    · have h := h.1 c4
      refine lv_iconst (v := -1) C.1 C.2.1 dX11_grist_20 (by decide) ?_
      exact gx_iret C hr g dX11_grist_21 h
    · have h := h.2 c4
      refine lv_iload_n C.1 C.2.1 dX11_grist_13 rfl (lv_at hl 2 rfl) ?_
      refine lv_sipush (v := 10000) C.1 C.2.1 dX11_grist_14 (by decide) ?_
      refine lv_icmp_le (tgt := 22) C.1 C.2.1 dX11_grist_17 (by decide) (fun c5 => ?_) (fun c5 => ?_)
      · have h := h.1 c5
        refine lv_aload_n C.1 C.2.1 dX11_grist_22 rfl (lv_at hl 0 rfl) ?_
        refine gx_getR C g fl_X11_19 dX11_grist_23 sh_0 rfl (by decide) ?_
        refine lv_aload_n C.1 C.2.1 dX11_grist_26 rfl (lv_at hl 0 rfl) ?_
        refine gx_getI C g fl_X11_40 dX11_grist_27 sh_0 rfl ?_
        refine lv_iload_n C.1 C.2.1 dX11_grist_30 rfl (lv_at hl 1 rfl) ?_
        refine lv_iload_n C.1 C.2.1 dX11_grist_31 rfl (lv_at hl 2 rfl) ?_
        refine gx_calli0 g (gx_runV (k := 9) (rest := []) C g mb_X1_add ml_X11_126 rfl sh_9 (mX1_add (gv σ2 0 5) x1 x2 _ _ h) ⟨Nat.le_of_ble_eq_true rfl, Nat.le_of_ble_eq_true rfl⟩ ⟨Nat.le_refl _, Nat.le_refl _⟩ rfl hl.1 rfl (Nat.le_of_ble_eq_true rfl) dX11_grist_32) rfl rfl (fun r6 σ7 H locs h g => ?_)
        exact gx_iret C hr g dX11_grist_35 h
      · have h := h.2 c5
        refine lv_iconst (v := -1) C.1 C.2.1 dX11_grist_20 (by decide) ?_
        exact gx_iret C hr g dX11_grist_21 h
theorem mX11_grist {l : Launch} {E : EE} {base : Nat} (x1 : Int32) (x2 : Int32) (σ : St) (Q : Int32 → St → Prop) (h : wX11_grist x1 x2 σ Q) : Met l yX11_grist (wy yX11_grist cX11_grist 3 (some .int)) rmX11_grist (va_Pc [.ref (ga E 0), .int x1, .int x2] (fun U => SW E base σ U)) (QI E base Q) (rmX11_grist).cells (rmX11_grist).slots (fun q => base ≤ q) :=
  met_of (by decide) (Nat.le_of_ble_eq_true rfl) (fun p e s m args below meth c C hr g ls hl => tX11_grist_0 C hr x1 x2 _ _ _ _ hl g h)
set_option maxHeartbeats 4000000 in
set_option maxRecDepth 100000 in
theorem tX11_isKnown_0 {p : Program} {l : Launch} {e : Env} {s : State} {m : MethodId} {args : Array Value} {below : List Frame} {meth : Method} {c : Code} {E : EE} {base : Nat} (C : Cx p E base s m args meth c cX11_isKnown 2 RX11) (hr : meth.sig.returnType = (some .boolean)) {Q : Int32 → St → Prop} : ∀ (x1 : Int32) (σ : St) (H : Heap) (locs : List Loc) (ls : Array Slot), lv_has ls 2 [(0, .ref (ga E 0)), (1, .int x1)] → GW E base s σ H locs → wX11_isKnown x1 σ Q → W p l e rmX11_isKnown s m args below meth c H locs 0 0 (MQ below (QI E base Q) args s 0 0 (fun q => base ≤ q)) (F0 m 0 ls []) := by
  intro x1 σ H locs ls hl g h
  refine lv_iload_n C.1 C.2.1 dX11_isKnown_0 rfl (lv_at hl 1 rfl) ?_
  refine lv_if_lt (tgt := 22) C.1 C.2.1 dX11_isKnown_1 (by decide) (fun c1 => ?_) (fun c1 => ?_)
  · have h := h.1 c1
    refine lv_iconst (v := 0) C.1 C.2.1 dX11_isKnown_22 (by decide) ?_
    exact gx_zret C hr g dX11_isKnown_23 (by decide) h
  · have h := h.2 c1
    refine lv_iload_n C.1 C.2.1 dX11_isKnown_4 rfl (lv_at hl 1 rfl) ?_
    refine lv_aload_n C.1 C.2.1 dX11_isKnown_5 rfl (lv_at hl 0 rfl) ?_
    refine gx_getR C g fl_X11_10 dX11_isKnown_6 sh_0 rfl (by decide) ?_
    refine gx_getR C g fl_X11_104 dX11_isKnown_9 sh_1 rfl (by decide) ?_
    refine gx_getI C g fl_X11_180 dX11_isKnown_12 sh_3 rfl ?_
    refine lv_icmp_gt (tgt := 22) C.1 C.2.1 dX11_isKnown_15 (by decide) (fun c2 => ?_) (fun c2 => ?_)
    · have h := h.1 c2
      refine lv_iconst (v := 0) C.1 C.2.1 dX11_isKnown_22 (by decide) ?_
      exact gx_zret C hr g dX11_isKnown_23 (by decide) h
    · have h := h.2 c2
      refine lv_iconst (v := 1) C.1 C.2.1 dX11_isKnown_18 (by decide) ?_
      refine lv_goto (tgt := 23) C.1 C.2.1 dX11_isKnown_19 (by decide) ?_
      exact gx_zret C hr g dX11_isKnown_23 (by decide) h
theorem mX11_isKnown {l : Launch} {E : EE} {base : Nat} (x1 : Int32) (σ : St) (Q : Int32 → St → Prop) (h : wX11_isKnown x1 σ Q) : Met l yX11_isKnown (wy yX11_isKnown cX11_isKnown 2 (some .boolean)) rmX11_isKnown (va_Pc [.ref (ga E 0), .int x1] (fun U => SW E base σ U)) (QI E base Q) (rmX11_isKnown).cells (rmX11_isKnown).slots (fun q => base ≤ q) :=
  met_of (by decide) (Nat.le_of_ble_eq_true rfl) (fun p e s m args below meth c C hr g ls hl => tX11_isKnown_0 C hr x1 _ _ _ _ hl g h)
set_option maxHeartbeats 4000000 in
set_option maxRecDepth 100000 in
theorem tX11_isEnd_0 {p : Program} {l : Launch} {e : Env} {s : State} {m : MethodId} {args : Array Value} {below : List Frame} {meth : Method} {c : Code} {E : EE} {base : Nat} (C : Cx p E base s m args meth c cX11_isEnd 2 RX11) (hr : meth.sig.returnType = (some .boolean)) {Q : Int32 → St → Prop} : ∀ (x1 : Int32) (σ : St) (H : Heap) (locs : List Loc) (ls : Array Slot), lv_has ls 2 [(0, .ref (ga E 0)), (1, .int x1)] → GW E base s σ H locs → wX11_isEnd x1 σ Q → W p l e rmX11_isEnd s m args below meth c H locs 0 0 (MQ below (QI E base Q) args s 0 0 (fun q => base ≤ q)) (F0 m 0 ls []) := by
  intro x1 σ H locs ls hl g h
  refine lv_iload_n C.1 C.2.1 dX11_isEnd_0 rfl (lv_at hl 1 rfl) ?_
  refine lv_if_lt (tgt := 15) C.1 C.2.1 dX11_isEnd_1 (by decide) (fun c1 => ?_) (fun c1 => ?_)
  · have h := h.1 c1
    refine lv_iconst (v := 0) C.1 C.2.1 dX11_isEnd_15 (by decide) ?_
    exact gx_zret C hr g dX11_isEnd_16 (by decide) h
  · have h := h.2 c1
    refine lv_iload_n C.1 C.2.1 dX11_isEnd_4 rfl (lv_at hl 1 rfl) ?_
    refine lv_sipush (v := 240) C.1 C.2.1 dX11_isEnd_5 (by decide) ?_
    refine lv_icmp_gt (tgt := 15) C.1 C.2.1 dX11_isEnd_8 (by decide) (fun c2 => ?_) (fun c2 => ?_)
    · have h := h.1 c2
      refine lv_iconst (v := 0) C.1 C.2.1 dX11_isEnd_15 (by decide) ?_
      exact gx_zret C hr g dX11_isEnd_16 (by decide) h
    · have h := h.2 c2
      refine lv_iconst (v := 1) C.1 C.2.1 dX11_isEnd_11 (by decide) ?_
      refine lv_goto (tgt := 16) C.1 C.2.1 dX11_isEnd_12 (by decide) ?_
      exact gx_zret C hr g dX11_isEnd_16 (by decide) h
theorem mX11_isEnd {l : Launch} {E : EE} {base : Nat} (x1 : Int32) (σ : St) (Q : Int32 → St → Prop) (h : wX11_isEnd x1 σ Q) : Met l yX11_isEnd (wy yX11_isEnd cX11_isEnd 2 (some .boolean)) rmX11_isEnd (va_Pc [.ref (ga E 0), .int x1] (fun U => SW E base σ U)) (QI E base Q) (rmX11_isEnd).cells (rmX11_isEnd).slots (fun q => base ≤ q) :=
  met_of (by decide) (Nat.le_of_ble_eq_true rfl) (fun p e s m args below meth c C hr g ls hl => tX11_isEnd_0 C hr x1 _ _ _ _ hl g h)
set_option maxHeartbeats 4000000 in
set_option maxRecDepth 100000 in
theorem tX11_planned_15 {p : Program} {l : Launch} {e : Env} {s : State} {m : MethodId} {args : Array Value} {below : List Frame} {meth : Method} {c : Code} {E : EE} {base : Nat} (C : Cx p E base s m args meth c cX11_planned 2 RX11) (hr : meth.sig.returnType = (some .int)) {Q : Int32 → St → Prop} : ∀ (σ : St) (H : Heap) (locs : List Loc) (ls : Array Slot), lv_has ls 2 [] → GW E base s σ H locs → wX11_planned_15 Q σ → W p l e rmX11_planned s m args below meth c H locs 0 0 (MQ below (QI E base Q) args s 0 0 (fun q => base ≤ q)) (F0 m 15 ls []) := by
  intro σ H locs ls hl g h
  refine lv_iconst (v := -1) C.1 C.2.1 dX11_planned_15 (by decide) ?_
  refine lv_goto (tgt := 28) C.1 C.2.1 dX11_planned_16 (by decide) ?_
  exact gx_iret C hr g dX11_planned_28 h
set_option maxHeartbeats 4000000 in
set_option maxRecDepth 100000 in
theorem tX11_planned_0 {p : Program} {l : Launch} {e : Env} {s : State} {m : MethodId} {args : Array Value} {below : List Frame} {meth : Method} {c : Code} {E : EE} {base : Nat} (C : Cx p E base s m args meth c cX11_planned 2 RX11) (hr : meth.sig.returnType = (some .int)) {Q : Int32 → St → Prop} : ∀ (x1 : Int32) (σ : St) (H : Heap) (locs : List Loc) (ls : Array Slot), lv_has ls 2 [(0, .ref (ga E 0)), (1, .int x1)] → GW E base s σ H locs → wX11_planned x1 σ Q → W p l e rmX11_planned s m args below meth c H locs 0 0 (MQ below (QI E base Q) args s 0 0 (fun q => base ≤ q)) (F0 m 0 ls []) := by
  intro x1 σ H locs ls hl g h
  refine lv_iload_n C.1 C.2.1 dX11_planned_0 rfl (lv_at hl 1 rfl) ?_
  refine lv_if_lt (tgt := 15) C.1 C.2.1 dX11_planned_1 (by decide) (fun c1 => ?_) (fun c1 => ?_)
  · have h := h.1 c1
    exact tX11_planned_15 C hr _ _ _ _ (lv_sub hl [] rfl) g h
  · have h := h.2 c1
    refine lv_iload_n C.1 C.2.1 dX11_planned_4 rfl (lv_at hl 1 rfl) ?_
    refine lv_aload_n C.1 C.2.1 dX11_planned_5 rfl (lv_at hl 0 rfl) ?_
    refine gx_getR C g fl_X11_26 dX11_planned_6 sh_0 rfl (by decide) ?_
    refine gx_getI C g fl_X11_189 dX11_planned_9 sh_10 rfl ?_
    refine lv_icmp_lt (tgt := 19) C.1 C.2.1 dX11_planned_12 (by decide) (fun c2 => ?_) (fun c2 => ?_)
    · have h := h.1 c2
      refine lv_aload_n C.1 C.2.1 dX11_planned_19 rfl (lv_at hl 0 rfl) ?_
      refine gx_getR C g fl_X11_26 dX11_planned_20 sh_0 rfl (by decide) ?_
      refine gx_getR C g fl_X11_190 dX11_planned_23 sh_10 rfl (by decide) ?_
      refine lv_iload_n C.1 C.2.1 dX11_planned_26 rfl (lv_at hl 1 rfl) ?_
      obtain ⟨i3, h⟩ := h
      refine gx_iald C g dX11_planned_27 sh_44 i3 ?_
      exact gx_iret C hr g dX11_planned_28 h
    · have h := h.2 c2
      exact tX11_planned_15 C hr _ _ _ _ (lv_sub hl [] rfl) g h
theorem mX11_planned {l : Launch} {E : EE} {base : Nat} (x1 : Int32) (σ : St) (Q : Int32 → St → Prop) (h : wX11_planned x1 σ Q) : Met l yX11_planned (wy yX11_planned cX11_planned 2 (some .int)) rmX11_planned (va_Pc [.ref (ga E 0), .int x1] (fun U => SW E base σ U)) (QI E base Q) (rmX11_planned).cells (rmX11_planned).slots (fun q => base ≤ q) :=
  met_of (by decide) (Nat.le_of_ble_eq_true rfl) (fun p e s m args below meth c C hr g ls hl => tX11_planned_0 C hr x1 _ _ _ _ hl g h)
set_option maxHeartbeats 4000000 in
set_option maxRecDepth 100000 in
theorem tX11_count_0 {p : Program} {l : Launch} {e : Env} {s : State} {m : MethodId} {args : Array Value} {below : List Frame} {meth : Method} {c : Code} {E : EE} {base : Nat} (C : Cx p E base s m args meth c cX11_count 2 RX11) (hr : meth.sig.returnType = (some .int)) {Q : Int32 → St → Prop} : ∀ (x1 : Int32) (σ : St) (H : Heap) (locs : List Loc) (ls : Array Slot), lv_has ls 2 [(0, .ref (ga E 0)), (1, .int x1)] → GW E base s σ H locs → wX11_count x1 σ Q → W p l e rmX11_count s m args below meth c H locs 0 0 (MQ below (QI E base Q) args s 0 0 (fun q => base ≤ q)) (F0 m 0 ls []) := by
  intro x1 σ H locs ls hl g h
  refine lv_iload_n C.1 C.2.1 dX11_count_0 rfl (lv_at hl 1 rfl) ?_
  by_cases c1 : x1 = 0
  · have h := h.1 c1
    refine gx_tabI (tgt := 52) C.1 C.2.1 dX11_count_1 (off := 51) (k := 0) c1 (by decide +kernel) (by decide) ?_
    refine lv_aload_n C.1 C.2.1 dX11_count_52 rfl (lv_at hl 0 rfl) ?_
    refine gx_getR C g fl_X11_10 dX11_count_53 sh_0 rfl (by decide) ?_
    refine gx_getR C g fl_X11_77 dX11_count_56 sh_1 rfl (by decide) ?_
    refine gx_getI C g fl_X11_146 dX11_count_59 sh_2 rfl ?_
    exact gx_iret C hr g dX11_count_62 h
  · have h := h.2 c1
    by_cases c2 : x1 = 1
    · have h := h.1 c2
      refine gx_tabI (tgt := 63) C.1 C.2.1 dX11_count_1 (off := 62) (k := 1) c2 (by decide +kernel) (by decide) ?_
      refine lv_aload_n C.1 C.2.1 dX11_count_63 rfl (lv_at hl 0 rfl) ?_
      refine gx_getR C g fl_X11_10 dX11_count_64 sh_0 rfl (by decide) ?_
      refine gx_getR C g fl_X11_104 dX11_count_67 sh_1 rfl (by decide) ?_
      refine gx_getI C g fl_X11_180 dX11_count_70 sh_3 rfl ?_
      exact gx_iret C hr g dX11_count_73 h
    · have h := h.2 c2
      by_cases c3 : x1 = 2
      · have h := h.1 c3
        refine gx_tabI (tgt := 74) C.1 C.2.1 dX11_count_1 (off := 73) (k := 2) c3 (by decide +kernel) (by decide) ?_
        refine lv_aload_n C.1 C.2.1 dX11_count_74 rfl (lv_at hl 0 rfl) ?_
        refine gx_getR C g fl_X11_10 dX11_count_75 sh_0 rfl (by decide) ?_
        refine gx_getR C g fl_X11_117 dX11_count_78 sh_1 rfl (by decide) ?_
        refine gx_getI C g fl_X11_155 dX11_count_81 sh_4 rfl ?_
        exact gx_iret C hr g dX11_count_84 h
      · have h := h.2 c3
        by_cases c4 : x1 = 3
        · have h := h.1 c4
          refine gx_tabI (tgt := 85) C.1 C.2.1 dX11_count_1 (off := 84) (k := 3) c4 (by decide +kernel) (by decide) ?_
          refine lv_aload_n C.1 C.2.1 dX11_count_85 rfl (lv_at hl 0 rfl) ?_
          refine gx_getR C g fl_X11_19 dX11_count_86 sh_0 rfl (by decide) ?_
          refine gx_getI C g fl_X11_193 dX11_count_89 sh_9 rfl ?_
          exact gx_iret C hr g dX11_count_92 h
        · have h := h.2 c4
          by_cases c5 : x1 = 4
          · have h := h.1 c5
            refine gx_tabI (tgt := 93) C.1 C.2.1 dX11_count_1 (off := 92) (k := 4) c5 (by decide +kernel) (by decide) ?_
            refine lv_aload_n C.1 C.2.1 dX11_count_93 rfl (lv_at hl 0 rfl) ?_
            refine gx_getR C g fl_X11_10 dX11_count_94 sh_0 rfl (by decide) ?_
            refine gx_getR C g fl_X11_44 dX11_count_97 sh_1 rfl (by decide) ?_
            refine gx_getR C g fl_X11_213 dX11_count_100 sh_5 rfl (by decide) ?_
            refine gx_getI C g fl_X11_217 dX11_count_103 sh_8 rfl ?_
            exact gx_iret C hr g dX11_count_106 h
          · have h := h.2 c5
            by_cases c6 : x1 = 5
            · have h := h.1 c6
              refine gx_tabI (tgt := 107) C.1 C.2.1 dX11_count_1 (off := 106) (k := 5) c6 (by decide +kernel) (by decide) ?_
              refine lv_aload_n C.1 C.2.1 dX11_count_107 rfl (lv_at hl 0 rfl) ?_
              refine gx_getR C g fl_X11_10 dX11_count_108 sh_0 rfl (by decide) ?_
              refine gx_getR C g fl_X11_44 dX11_count_111 sh_1 rfl (by decide) ?_
              refine gx_getR C g fl_X11_213 dX11_count_114 sh_5 rfl (by decide) ?_
              refine gx_getI C g fl_X11_222 dX11_count_117 sh_8 rfl ?_
              exact gx_iret C hr g dX11_count_120 h
            · have h := h.2 c6
              by_cases c7 : x1 = 6
              · have h := h.1 c7
                refine gx_tabI (tgt := 121) C.1 C.2.1 dX11_count_1 (off := 120) (k := 6) c7 (by decide +kernel) (by decide) ?_
                refine lv_aload_n C.1 C.2.1 dX11_count_121 rfl (lv_at hl 0 rfl) ?_
                refine gx_getI C g fl_X11_40 dX11_count_122 sh_0 rfl ?_
                exact gx_iret C hr g dX11_count_125 h
              · have h := h.2 c7
                by_cases c8 : x1 = 7
                · have h := h.1 c8
                  refine gx_tabI (tgt := 126) C.1 C.2.1 dX11_count_1 (off := 125) (k := 7) c8 (by decide +kernel) (by decide) ?_
                  refine lv_aload_n C.1 C.2.1 dX11_count_126 rfl (lv_at hl 0 rfl) ?_
                  refine gx_getR C g fl_X11_10 dX11_count_127 sh_0 rfl (by decide) ?_
                  refine gx_getR C g fl_X11_77 dX11_count_130 sh_1 rfl (by decide) ?_
                  refine gx_getI C g fl_X11_225 dX11_count_133 sh_2 rfl ?_
                  exact gx_iret C hr g dX11_count_136 h
                · have h := h.2 c8
                  by_cases c9 : x1 = 8
                  · have h := h.1 c9
                    refine gx_tabI (tgt := 137) C.1 C.2.1 dX11_count_1 (off := 136) (k := 8) c9 (by decide +kernel) (by decide) ?_
                    refine lv_aload_n C.1 C.2.1 dX11_count_137 rfl (lv_at hl 0 rfl) ?_
                    refine gx_getR C g fl_X11_10 dX11_count_138 sh_0 rfl (by decide) ?_
                    refine gx_getR C g fl_X11_44 dX11_count_141 sh_1 rfl (by decide) ?_
                    refine gx_getR C g fl_X11_48 dX11_count_144 sh_5 rfl (by decide) ?_
                    refine gx_getI C g fl_X11_54 dX11_count_147 sh_6 rfl ?_
                    exact gx_iret C hr g dX11_count_150 h
                  · have h := h.2 c9
                    refine gx_tabD (tgt := 151) C.1 C.2.1 dX11_count_1 [0, 1, 2, 3, 4, 5, 6, 7, 8] (List.forall_mem_cons.mpr ⟨c1, List.forall_mem_cons.mpr ⟨c2, List.forall_mem_cons.mpr ⟨c3, List.forall_mem_cons.mpr ⟨c4, List.forall_mem_cons.mpr ⟨c5, List.forall_mem_cons.mpr ⟨c6, List.forall_mem_cons.mpr ⟨c7, List.forall_mem_cons.mpr ⟨c8, List.forall_mem_cons.mpr ⟨c9, fun _ z => by cases z⟩⟩⟩⟩⟩⟩⟩⟩⟩) (by decide +kernel) (by decide +kernel) (by decide) ?_
                    refine lv_iconst (v := -1) C.1 C.2.1 dX11_count_151 (by decide) ?_
                    exact gx_iret C hr g dX11_count_152 h
theorem mX11_count {l : Launch} {E : EE} {base : Nat} (x1 : Int32) (σ : St) (Q : Int32 → St → Prop) (h : wX11_count x1 σ Q) : Met l yX11_count (wy yX11_count cX11_count 2 (some .int)) rmX11_count (va_Pc [.ref (ga E 0), .int x1] (fun U => SW E base σ U)) (QI E base Q) (rmX11_count).cells (rmX11_count).slots (fun q => base ≤ q) :=
  met_of (by decide) (Nat.le_of_ble_eq_true rfl) (fun p e s m args below meth c C hr g ls hl => tX11_count_0 C hr x1 _ _ _ _ hl g h)
