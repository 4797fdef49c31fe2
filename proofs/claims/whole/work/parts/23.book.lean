abbrev rmX0_open : Room := { frames := 7, cells := 1, slots := 7000, locals := 158 }
def wX0_open (σ : St) (Q : St → Prop) : Prop := wX9_scan σ (fun (σ2 : St) => wX2_startDraft σ2 (fun (σ4 : St) => ∀ σ5 : St, σ5 = pv σ4 5 4 (0 : Int32) → ∀ σ6 : St, σ6 = pv σ5 5 5 (1 : Int32) → ∀ σ7 : St, σ7 = pv σ6 5 6 (0 : Int32) → ∀ σ8 : St, σ8 = pv σ7 5 7 (-1 : Int32) → Q σ8))
set_option maxHeartbeats 4000000 in
set_option maxRecDepth 100000 in
theorem tX0_open_e {p : Program} {l : Launch} {e : Env} {s : State} {m : MethodId} {args : Array Value} {below : List Frame} {meth : Method} {c : Code} {E : EE} {base : Nat} (C : Cx p E base s m args meth c cX0_open 1 RX0) (hr : meth.sig.returnType = none) {Q : St → Prop} : ∀ (σ : St) (H : Heap) (locs : List Loc) (ls : Array Slot), lv_has ls 1 [(0, .ref (ga E 5))] → GW E base s σ H locs → wX0_open σ Q → W p l e rmX0_open s m args below meth c H locs 0 0 (MQ below (QV E base Q) args s 1 7000 (fun q => base ≤ q)) (F0 m 0 ls []) := by
  intro σ H locs ls hl g h
  refine lv_aload_n C.1 C.2.1 dX0_open_0 rfl (lv_at hl 0 rfl) ?_
  refine gx_getR C g fl_X0_32 dX0_open_1 sh_5 rfl (by decide) ?_
  refine lv_aload_n C.1 C.2.1 dX0_open_4 rfl (lv_at hl 0 rfl) ?_
  refine gx_getR C g fl_X0_12 dX0_open_5 sh_5 rfl (by decide) ?_
  refine gx_callv0 g (gx_runV (k := 7) (rest := []) C g mb_X9_scan ml_X0_48 rfl sh_7 (mX9_scan _ _ h) ⟨Nat.le_of_ble_eq_true rfl, Nat.le_of_ble_eq_true rfl⟩ ⟨Nat.le_of_ble_eq_true rfl, Nat.le_of_ble_eq_true rfl⟩ rfl hl.1 rfl (Nat.le_of_ble_eq_true rfl) dX0_open_8) rfl rfl (fun σ2 H locs h g => ?_)
  refine lv_aload_n C.1 C.2.1 dX0_open_11 rfl (lv_at hl 0 rfl) ?_
  refine gx_getR C g fl_X0_21 dX0_open_12 sh_5 rfl (by decide) ?_
  refine gx_callv g (gx_runV (k := 8) (rest := []) C g mb_X2_startDraft ml_X0_52 rfl sh_8 (mX2_startDraft _ _ h) ⟨Nat.le_of_ble_eq_true rfl, Nat.le_of_ble_eq_true rfl⟩ ⟨Nat.le_of_ble_eq_true rfl, Nat.le_of_ble_eq_true rfl⟩ rfl hl.1 rfl (Nat.le_of_ble_eq_true rfl) dX0_open_15) (fun σ4 H locs h g => ?_)
  refine lv_aload_n C.1 C.2.1 dX0_open_18 rfl (lv_at hl 0 rfl) ?_
  refine lv_iconst (v := 0) C.1 C.2.1 dX0_open_19 (by decide) ?_
  refine gx_putI C g fi_X0_36 dX0_open_20 sh_5 rfl (fun H locs σ5 eσ5 g => ?_)
  have h := h σ5 eσ5
  refine lv_aload_n C.1 C.2.1 dX0_open_23 rfl (lv_at hl 0 rfl) ?_
  refine lv_iconst (v := 1) C.1 C.2.1 dX0_open_24 (by decide) ?_
  refine gx_putI C g fi_X0_39 dX0_open_25 sh_5 rfl (fun H locs σ6 eσ6 g => ?_)
  have h := h σ6 eσ6
  refine lv_aload_n C.1 C.2.1 dX0_open_28 rfl (lv_at hl 0 rfl) ?_
  refine lv_iconst (v := 0) C.1 C.2.1 dX0_open_29 (by decide) ?_
  refine gx_putI C g fi_X0_42 dX0_open_30 sh_5 rfl (fun H locs σ7 eσ7 g => ?_)
  have h := h σ7 eσ7
  refine lv_aload_n C.1 C.2.1 dX0_open_33 rfl (lv_at hl 0 rfl) ?_
  refine lv_iconst (v := -1) C.1 C.2.1 dX0_open_34 (by decide) ?_
  refine gx_putI C g fi_X0_45 dX0_open_35 sh_5 rfl (fun H locs σ8 eσ8 g => ?_)
  have h := h σ8 eσ8
  exact gx_vret C hr g dX0_open_38 h
theorem mX0_open {l : Launch} {E : EE} {base : Nat} (σ : St) (Q : St → Prop) (h : wX0_open σ Q) : Met l yX0_open (wy yX0_open cX0_open 1 none) rmX0_open (va_Pc [.ref (ga E 5)] (fun U => SW E base σ U)) (QV E base Q) (rmX0_open).cells (rmX0_open).slots (fun q => base ≤ q) :=
  met_of (by decide) (Nat.le_of_ble_eq_true rfl) (fun p e s m args below meth c C hr g ls hl => tX0_open_e C hr  _ _ _ _ hl g h)
abbrev rmX0_kind : Room := { frames := 0, cells := 0, slots := 0, locals := 0 }
def wX0_kind (σ : St) (Q : Int32 → St → Prop) : Prop := (((600 : Int32) < (gv σ 5 4) → Q (1 : Int32) σ) ∧ (¬ ((600 : Int32) < (gv σ 5 4)) → vp_in (gv σ 5 4) 601 ∧ Q (gv σ 25 (gv σ 5 4).toNatClampNeg) σ))
set_option maxHeartbeats 4000000 in
set_option maxRecDepth 100000 in
theorem tX0_kind_e {p : Program} {l : Launch} {e : Env} {s : State} {m : MethodId} {args : Array Value} {below : List Frame} {meth : Method} {c : Code} {E : EE} {base : Nat} (C : Cx p E base s m args meth c cX0_kind 1 RX0) (hr : meth.sig.returnType = (some .int)) {Q : Int32 → St → Prop} : ∀ (σ : St) (H : Heap) (locs : List Loc) (ls : Array Slot), lv_has ls 1 [(0, .ref (ga E 5))] → GW E base s σ H locs → wX0_kind σ Q → W p l e rmX0_kind s m args below meth c H locs 0 0 (MQ below (QI E base Q) args s 0 0 (fun q => base ≤ q)) (F0 m 0 ls []) := by
  intro σ H locs ls hl g h
  refine lv_aload_n C.1 C.2.1 dX0_kind_0 rfl (lv_at hl 0 rfl) ?_
  refine gx_getI C g fl_X0_36 dX0_kind_1 sh_5 rfl ?_
  refine lv_sipush (v := 600) C.1 C.2.1 dX0_kind_4 (by decide) ?_
  refine lv_icmp_gt (tgt := 25) C.1 C.2.1 dX0_kind_7 (by decide) (fun c1 => ?_) (fun c1 => ?_)
  · have h := h.1 c1
    refine lv_iconst (v := 1) C.1 C.2.1 dX0_kind_25 (by decide) ?_
    exact gx_iret C hr g dX0_kind_26 h
  · have h := h.2 c1
    refine lv_aload_n C.1 C.2.1 dX0_kind_10 rfl (lv_at hl 0 rfl) ?_
    refine gx_getR C g fl_X0_32 dX0_kind_11 sh_5 rfl (by decide) ?_
    refine gx_getR C g fl_X0_142 dX0_kind_14 sh_7 rfl (by decide) ?_
    refine lv_aload_n C.1 C.2.1 dX0_kind_17 rfl (lv_at hl 0 rfl) ?_
    refine gx_getI C g fl_X0_36 dX0_kind_18 sh_5 rfl ?_
    obtain ⟨i2, h⟩ := h
    refine gx_iald C g dX0_kind_21 sh_25 i2 ?_
    refine lv_goto (tgt := 26) C.1 C.2.1 dX0_kind_22 (by decide) ?_
    exact gx_iret C hr g dX0_kind_26 h
theorem mX0_kind {l : Launch} {E : EE} {base : Nat} (σ : St) (Q : Int32 → St → Prop) (h : wX0_kind σ Q) : Met l yX0_kind (wy yX0_kind cX0_kind 1 (some .int)) rmX0_kind (va_Pc [.ref (ga E 5)] (fun U => SW E base σ U)) (QI E base Q) (rmX0_kind).cells (rmX0_kind).slots (fun q => base ≤ q) :=
  met_of (by decide) (Nat.le_of_ble_eq_true rfl) (fun p e s m args below meth c C hr g ls hl => tX0_kind_e C hr  _ _ _ _ hl g h)
abbrev rmX0_take : Room := { frames := 0, cells := 0, slots := 0, locals := 0 }
def wX0_take (x1 : Int32) (σ : St) (Q : Int32 → St → Prop) : Prop := (((600 : Int32) < (gv σ 5 4) → Q (0 : Int32) σ) ∧ (¬ ((600 : Int32) < (gv σ 5 4)) → vp_in (gv σ 5 4) 601 ∧ (((gv σ 25 (gv σ 5 4).toNatClampNeg) = x1 → (((gv σ 5 4) = (600 : Int32) → ∀ σ6 : St, σ6 = pv σ 5 5 (2 : Int32) → Q (0 : Int32) σ6) ∧ (¬ ((gv σ 5 4) = (600 : Int32)) → ∀ σ5 : St, σ5 = pv σ 5 4 ((gv σ 5 4) + (1 : Int32)) → Q (1 : Int32) σ5))) ∧ (¬ ((gv σ 25 (gv σ 5 4).toNatClampNeg) = x1) → Q (0 : Int32) σ))))
set_option maxHeartbeats 4000000 in
set_option maxRecDepth 100000 in
theorem tX0_take_e {p : Program} {l : Launch} {e : Env} {s : State} {m : MethodId} {args : Array Value} {below : List Frame} {meth : Method} {c : Code} {E : EE} {base : Nat} (C : Cx p E base s m args meth c cX0_take 2 RX0) (hr : meth.sig.returnType = (some .boolean)) {Q : Int32 → St → Prop} : ∀ (x1 : Int32) (σ : St) (H : Heap) (locs : List Loc) (ls : Array Slot), lv_has ls 2 [(0, .ref (ga E 5)), (1, .int x1)] → GW E base s σ H locs → wX0_take x1 σ Q → W p l e rmX0_take s m args below meth c H locs 0 0 (MQ below (QI E base Q) args s 0 0 (fun q => base ≤ q)) (F0 m 0 ls []) := by
  intro x1 σ H locs ls hl g h
  refine lv_aload_n C.1 C.2.1 dX0_take_0 rfl (lv_at hl 0 rfl) ?_
  refine gx_getI C g fl_X0_36 dX0_take_1 sh_5 rfl ?_
  refine lv_sipush (v := 600) C.1 C.2.1 dX0_take_4 (by decide) ?_
  refine lv_icmp_gt (tgt := 26) C.1 C.2.1 dX0_take_7 (by decide) (fun c1 => ?_) (fun c1 => ?_)
  · have h := h.1 c1
    refine lv_iconst (v := 0) C.1 C.2.1 dX0_take_26 (by decide) ?_
    exact gx_zret C hr g dX0_take_27 (by decide) h
  · have h := h.2 c1
    refine lv_aload_n C.1 C.2.1 dX0_take_10 rfl (lv_at hl 0 rfl) ?_
    refine gx_getR C g fl_X0_32 dX0_take_11 sh_5 rfl (by decide) ?_
    refine gx_getR C g fl_X0_142 dX0_take_14 sh_7 rfl (by decide) ?_
    refine lv_aload_n C.1 C.2.1 dX0_take_17 rfl (lv_at hl 0 rfl) ?_
    refine gx_getI C g fl_X0_36 dX0_take_18 sh_5 rfl ?_
    obtain ⟨i2, h⟩ := h
    refine gx_iald C g dX0_take_21 sh_25 i2 ?_
    refine lv_iload_n C.1 C.2.1 dX0_take_22 rfl (lv_at hl 1 rfl) ?_
    refine lv_icmp_eq (tgt := 28) C.1 C.2.1 dX0_take_23 (by decide) (fun c3 => ?_) (fun c3 => ?_)
    · have h := h.1 c3
      refine lv_aload_n C.1 C.2.1 dX0_take_28 rfl (lv_at hl 0 rfl) ?_
      refine gx_getI C g fl_X0_36 dX0_take_29 sh_5 rfl ?_
      refine lv_sipush (v := 600) C.1 C.2.1 dX0_take_32 (by decide) ?_
      refine lv_icmp_ne (tgt := 45) C.1 C.2.1 dX0_take_35 (by decide) (fun c4 => ?_) (fun c4 => ?_)
      · have h := h.2 c4
        refine lv_aload_n C.1 C.2.1 dX0_take_45 rfl (lv_at hl 0 rfl) ?_
        refine lv_dup C.1 C.2.1 dX0_take_46 rfl ?_
        refine gx_getI C g fl_X0_36 dX0_take_47 sh_5 rfl ?_
        refine lv_iconst (v := 1) C.1 C.2.1 dX0_take_50 (by decide) ?_
        refine lv_iadd C.1 C.2.1 dX0_take_51 ?_
        refine gx_putI C g fi_X0_36 dX0_take_52 sh_5 rfl (fun H locs σ5 eσ5 g => ?_)
        have h := h σ5 eσ5
        refine lv_iconst (v := 1) C.1 C.2.1 dX0_take_55 (by decide) ?_
        exact gx_zret C hr g dX0_take_56 (by decide) h
      · have h := h.1 c4
        refine lv_aload_n C.1 C.2.1 dX0_take_38 rfl (lv_at hl 0 rfl) ?_
        refine lv_iconst (v := 2) C.1 C.2.1 dX0_take_39 (by decide) ?_
        refine gx_putI C g fi_X0_39 dX0_take_40 sh_5 rfl (fun H locs σ6 eσ6 g => ?_)
        have h := h σ6 eσ6
        refine lv_iconst (v := 0) C.1 C.2.1 dX0_take_43 (by decide) ?_
        exact gx_zret C hr g dX0_take_44 (by decide) h
    · have h := h.2 c3
      refine lv_iconst (v := 0) C.1 C.2.1 dX0_take_26 (by decide) ?_
      exact gx_zret C hr g dX0_take_27 (by decide) h
theorem mX0_take {l : Launch} {E : EE} {base : Nat} (x1 : Int32) (σ : St) (Q : Int32 → St → Prop) (h : wX0_take x1 σ Q) : Met l yX0_take (wy yX0_take cX0_take 2 (some .boolean)) rmX0_take (va_Pc [.ref (ga E 5), .int x1] (fun U => SW E base σ U)) (QI E base Q) (rmX0_take).cells (rmX0_take).slots (fun q => base ≤ q) :=
  met_of (by decide) (Nat.le_of_ble_eq_true rfl) (fun p e s m args below meth c C hr g ls hl => tX0_take_e C hr x1 _ _ _ _ hl g h)
abbrev rmX0_note : Room := { frames := 0, cells := 0, slots := 0, locals := 0 }
def wX0_note (x1 : Int32) (x2 : Int32) (σ : St) (Q : St → Prop) : Prop := (((gv σ 5 6) = 0 → (((600 : Int32) < x2 → Q σ) ∧ (¬ ((600 : Int32) < x2) → ∀ σ3 : St, σ3 = pv σ 5 6 x1 → vp_in x2 601 ∧ ∀ σ5 : St, σ5 = pv σ3 5 7 (gv σ3 26 x2.toNatClampNeg) → Q σ5))) ∧ (¬ ((gv σ 5 6) = 0) → Q σ))
set_option maxHeartbeats 4000000 in
set_option maxRecDepth 100000 in
theorem tX0_note_e {p : Program} {l : Launch} {e : Env} {s : State} {m : MethodId} {args : Array Value} {below : List Frame} {meth : Method} {c : Code} {E : EE} {base : Nat} (C : Cx p E base s m args meth c cX0_note 3 RX0) (hr : meth.sig.returnType = none) {Q : St → Prop} : ∀ (x1 : Int32) (x2 : Int32) (σ : St) (H : Heap) (locs : List Loc) (ls : Array Slot), lv_has ls 3 [(0, .ref (ga E 5)), (1, .int x1), (2, .int x2)] → GW E base s σ H locs → wX0_note x1 x2 σ Q → W p l e rmX0_note s m args below meth c H locs 0 0 (MQ below (QV E base Q) args s 0 0 (fun q => base ≤ q)) (F0 m 0 ls []) := by
  intro x1 x2 σ H locs ls hl g h
  refine lv_aload_n C.1 C.2.1 dX0_note_0 rfl (lv_at hl 0 rfl) ?_
  refine gx_getI C g fl_X0_42 dX0_note_1 sh_5 rfl ?_
  refine lv_if_ne (tgt := 32) C.1 C.2.1 dX0_note_4 (by decide) (fun c1 => ?_) (fun c1 => ?_)
  · have h := h.2 c1
    exact gx_vret C hr g dX0_note_32 h
  · have h := h.1 c1
    refine lv_iload_n C.1 C.2.1 dX0_note_7 rfl (lv_at hl 2 rfl) ?_
    refine lv_sipush (v := 600) C.1 C.2.1 dX0_note_8 (by decide) ?_
    refine lv_icmp_gt (tgt := 32) C.1 C.2.1 dX0_note_11 (by decide) (fun c2 => ?_) (fun c2 => ?_)
    · have h := h.1 c2
      exact gx_vret C hr g dX0_note_32 h
    · have h := h.2 c2
      refine lv_aload_n C.1 C.2.1 dX0_note_14 rfl (lv_at hl 0 rfl) ?_
      refine lv_iload_n C.1 C.2.1 dX0_note_15 rfl (lv_at hl 1 rfl) ?_
      refine gx_putI C g fi_X0_42 dX0_note_16 sh_5 rfl (fun H locs σ3 eσ3 g => ?_)
      have h := h σ3 eσ3
      refine lv_aload_n C.1 C.2.1 dX0_note_19 rfl (lv_at hl 0 rfl) ?_
      refine lv_aload_n C.1 C.2.1 dX0_note_20 rfl (lv_at hl 0 rfl) ?_
      refine gx_getR C g fl_X0_32 dX0_note_21 sh_5 rfl (by decide) ?_
      refine gx_getR C g fl_X0_58 dX0_note_24 sh_7 rfl (by decide) ?_
      refine lv_iload_n C.1 C.2.1 dX0_note_27 rfl (lv_at hl 2 rfl) ?_
      obtain ⟨i4, h⟩ := h
      refine gx_iald C g dX0_note_28 sh_26 i4 ?_
      refine gx_putI C g fi_X0_45 dX0_note_29 sh_5 rfl (fun H locs σ5 eσ5 g => ?_)
      have h := h σ5 eσ5
      exact gx_vret C hr g dX0_note_32 h
theorem mX0_note {l : Launch} {E : EE} {base : Nat} (x1 : Int32) (x2 : Int32) (σ : St) (Q : St → Prop) (h : wX0_note x1 x2 σ Q) : Met l yX0_note (wy yX0_note cX0_note 3 none) rmX0_note (va_Pc [.ref (ga E 5), .int x1, .int x2] (fun U => SW E base σ U)) (QV E base Q) (rmX0_note).cells (rmX0_note).slots (fun q => base ≤ q) :=
  met_of (by decide) (Nat.le_of_ble_eq_true rfl) (fun p e s m args below meth c C hr g ls hl => tX0_note_e C hr x1 x2 _ _ _ _ hl g h)
abbrev rmX0_heading : Room := { frames := 2, cells := 0, slots := 0, locals := 47 }
def wX0_heading_179 (Q : Int32 → St → Prop) (y2 : Int64) (x5 : Int32) (x6 : Int32) (σ : St) : Prop := wX2_draftAct y2 x5 x6 σ (fun (σ2 : St) => wX0_take (4 : Int32) σ2 (fun (r3 : Int32) (σ4 : St) => narrow .boolean (.int r3) = .int r3 ∧ Q r3 σ4))
def wX0_heading_75 (Q : Int32 → St → Prop) (y2 : Int64) (σ : St) : Prop := ∀ x4_1 : Int32, x4_1 = (gv σ 5 4) + (1 : Int32) → wX0_take (17 : Int32) σ (fun (r2 : Int32) (σ3 : St) => ((r2 = 0 → Q (0 : Int32) σ3) ∧ (¬ (r2 = 0) → wX0_take (2 : Int32) σ3 (fun (r5 : Int32) (σ6 : St) => ((r5 = 0 → Q (0 : Int32) σ6) ∧ (¬ (r5 = 0) → vp_in x4_1 601 ∧ ∀ x5_9 : Int32, x5_9 = gv σ6 204 x4_1.toNatClampNeg → wX0_kind σ6 (fun (r10 : Int32) (σ11 : St) => ((r10 = (18 : Int32) → ∀ x7_13 : Int32, x7_13 = (gv σ11 5 4) + (1 : Int32) → wX0_take (18 : Int32) σ11 (fun (r14 : Int32) (σ15 : St) => ((r14 = 0 → Q (0 : Int32) σ15) ∧ (¬ (r14 = 0) → wX0_take (2 : Int32) σ15 (fun (r17 : Int32) (σ18 : St) => ((r17 = 0 → Q (0 : Int32) σ18) ∧ (¬ (r17 = 0) → vp_in x7_13 601 ∧ ∀ x6_21 : Int32, x6_21 = gv σ18 204 x7_13.toNatClampNeg → ((x5_9 < x6_21 → wX0_heading_179 Q y2 x5_9 x6_21 σ18) ∧ (¬ (x5_9 < x6_21) → wX0_note (5 : Int32) x7_13 σ18 (fun (σ24 : St) => wX0_heading_179 Q y2 x5_9 x6_21 σ24)))))))))) ∧ (¬ (r10 = (18 : Int32)) → wX0_heading_179 Q y2 x5_9 (-1 : Int32) σ11)))))))))
def wX0_heading (σ : St) (Q : Int32 → St → Prop) : Prop := (((gv σ 8 2) < (10 : Int32) → ∀ x1_2 : Int32, x1_2 = (gv σ 5 4) + (1 : Int32) → wX0_take (16 : Int32) σ (fun (r3 : Int32) (σ4 : St) => ((r3 = 0 → Q (0 : Int32) σ4) ∧ (¬ (r3 = 0) → wX0_take (3 : Int32) σ4 (fun (r6 : Int32) (σ7 : St) => ((r6 = 0 → Q (0 : Int32) σ7) ∧ (¬ (r6 = 0) → wX9_name x1_2 σ7 (fun (r9 : Int64) (σ10 : St) => wX2_hasAct r9 σ10 (fun (r11 : Int32) (σ12 : St) => ((r11 = 0 → wX0_heading_75 Q r9 σ12) ∧ (¬ (r11 = 0) → wX0_note (3 : Int32) x1_2 σ12 (fun (σ15 : St) => wX0_heading_75 Q r9 σ15)))))))))))) ∧ (¬ ((gv σ 8 2) < (10 : Int32)) → ∀ σ16 : St, σ16 = pv σ 5 5 (2 : Int32) → Q (0 : Int32) σ16))
set_option maxHeartbeats 4000000 in
set_option maxRecDepth 100000 in
theorem tX0_heading_179 {p : Program} {l : Launch} {e : Env} {s : State} {m : MethodId} {args : Array Value} {below : List Frame} {meth : Method} {c : Code} {E : EE} {base : Nat} (C : Cx p E base s m args meth c cX0_heading 8 RX0) (hr : meth.sig.returnType = (some .boolean)) {Q : Int32 → St → Prop} : ∀ (y2 : Int64) (x5 : Int32) (x6 : Int32) (σ : St) (H : Heap) (locs : List Loc) (ls : Array Slot), lv_has ls 8 [(0, .ref (ga E 5)), (2, .long y2), (5, .int x5), (6, .int x6)] → GW E base s σ H locs → wX0_heading_179 Q y2 x5 x6 σ → W p l e rmX0_heading s m args below meth c H locs 0 0 (MQ below (QI E base Q) args s 0 0 (fun q => base ≤ q)) (F0 m 179 ls []) := by
  intro y2 x5 x6 σ H locs ls hl g h
  refine lv_aload_n C.1 C.2.1 dX0_heading_179 rfl (lv_at hl 0 rfl) ?_
  refine gx_getR C g fl_X0_21 dX0_heading_180 sh_5 rfl (by decide) ?_
  refine lv_lload_n C.1 C.2.1 dX0_heading_183 rfl (lv_at hl 1 rfl) ?_
  refine lv_iload C.1 C.2.1 dX0_heading_184 (lv_at hl 2 rfl) ?_
  refine lv_iload C.1 C.2.1 dX0_heading_186 (lv_at hl 3 rfl) ?_
  refine gx_callv0 g (gx_runV (k := 8) (rest := []) C g mb_X2_draftAct ml_X0_98 rfl sh_8 (mX2_draftAct y2 x5 x6 _ _ h) ⟨Nat.le_of_ble_eq_true rfl, Nat.le_of_ble_eq_true rfl⟩ ⟨Nat.le_refl _, Nat.le_refl _⟩ rfl hl.1 rfl (Nat.le_of_ble_eq_true rfl) dX0_heading_188) rfl rfl (fun σ2 H locs h g => ?_)
  refine lv_aload_n C.1 C.2.1 dX0_heading_191 rfl (lv_at hl 0 rfl) ?_
  refine lv_iconst (v := 4) C.1 C.2.1 dX0_heading_192 (by decide) ?_
  refine gx_calli0 g (gx_runV (k := 5) (rest := []) C g mb_X0_take ml_X0_76 rfl sh_5 (mX0_take (4 : Int32) _ _ h) ⟨Nat.le_of_ble_eq_true rfl, Nat.le_of_ble_eq_true rfl⟩ ⟨Nat.le_refl _, Nat.le_refl _⟩ rfl hl.1 rfl (Nat.le_of_ble_eq_true rfl) dX0_heading_193) rfl rfl (fun r3 σ4 H locs h g => ?_)
  exact gx_zret C hr g dX0_heading_196 h.1 h.2
set_option maxHeartbeats 4000000 in
set_option maxRecDepth 100000 in
theorem tX0_heading_75 {p : Program} {l : Launch} {e : Env} {s : State} {m : MethodId} {args : Array Value} {below : List Frame} {meth : Method} {c : Code} {E : EE} {base : Nat} (C : Cx p E base s m args meth c cX0_heading 8 RX0) (hr : meth.sig.returnType = (some .boolean)) {Q : Int32 → St → Prop} : ∀ (y2 : Int64) (σ : St) (H : Heap) (locs : List Loc) (ls : Array Slot), lv_has ls 8 [(0, .ref (ga E 5)), (2, .long y2)] → GW E base s σ H locs → wX0_heading_75 Q y2 σ → W p l e rmX0_heading s m args below meth c H locs 0 0 (MQ below (QI E base Q) args s 0 0 (fun q => base ≤ q)) (F0 m 75 ls []) := by
  intro y2 σ H locs ls hl g h
  refine lv_aload_n C.1 C.2.1 dX0_heading_75 rfl (lv_at hl 0 rfl) ?_
  refine gx_getI C g fl_X0_36 dX0_heading_76 sh_5 rfl ?_
  refine lv_iconst (v := 1) C.1 C.2.1 dX0_heading_79 (by decide) ?_
  refine lv_iadd C.1 C.2.1 dX0_heading_80 ?_
  refine lv_topi (fun x4_1 ex4_1 => ?_)
  have h := h x4_1 ex4_1
  refine lv_istore (lv' := [(4, .int x4_1), (0, .ref (ga E 5)), (2, .long y2)]) C.1 C.2.1 dX0_heading_81 hl (by decide) rfl (fun ls hl => ?_)
  refine lv_aload_n C.1 C.2.1 dX0_heading_83 rfl (lv_at hl 1 rfl) ?_
  refine lv_bipush (v := 17) C.1 C.2.1 dX0_heading_84 (by decide) ?_
  refine gx_calli0 g (gx_runV (k := 5) (rest := []) C g mb_X0_take ml_X0_76 rfl sh_5 (mX0_take (17 : Int32) _ _ h) ⟨Nat.le_of_ble_eq_true rfl, Nat.le_of_ble_eq_true rfl⟩ ⟨Nat.le_refl _, Nat.le_refl _⟩ rfl hl.1 rfl (Nat.le_of_ble_eq_true rfl) dX0_heading_86) rfl rfl (fun r2 σ3 H locs h g => ?_)
  refine lv_if_eq (tgt := 100) C.1 C.2.1 dX0_heading_89 (by decide) (fun c4 => ?_) (fun c4 => ?_)
  · have h := h.1 c4
    refine lv_iconst (v := 0) C.1 C.2.1 dX0_heading_100 (by decide) ?_
    exact gx_zret C hr g dX0_heading_101 (by decide) h
  · have h := h.2 c4
    refine lv_aload_n C.1 C.2.1 dX0_heading_92 rfl (lv_at hl 1 rfl) ?_
    refine lv_iconst (v := 2) C.1 C.2.1 dX0_heading_93 (by decide) ?_
    refine gx_calli0 g (gx_runV (k := 5) (rest := []) C g mb_X0_take ml_X0_76 rfl sh_5 (mX0_take (2 : Int32) _ _ h) ⟨Nat.le_of_ble_eq_true rfl, Nat.le_of_ble_eq_true rfl⟩ ⟨Nat.le_refl _, Nat.le_refl _⟩ rfl hl.1 rfl (Nat.le_of_ble_eq_true rfl) dX0_heading_94) rfl rfl (fun r5 σ6 H locs h g => ?_)
    refine lv_if_ne (tgt := 102) C.1 C.2.1 dX0_heading_97 (by decide) (fun c7 => ?_) (fun c7 => ?_)
    · have h := h.2 c7
      refine lv_aload_n C.1 C.2.1 dX0_heading_102 rfl (lv_at hl 1 rfl) ?_
      refine gx_getR C g fl_X0_32 dX0_heading_103 sh_5 rfl (by decide) ?_
      refine gx_getR C g fl_X0_95 dX0_heading_106 sh_7 rfl (by decide) ?_
      refine lv_iload C.1 C.2.1 dX0_heading_109 (lv_at hl 0 rfl) ?_
      obtain ⟨i8, h⟩ := h
      refine gx_iald C g dX0_heading_111 sh_204 i8 ?_
      refine lv_topi (fun x5_9 ex5_9 => ?_)
      have h := h x5_9 ex5_9
      refine lv_istore (lv' := [(5, .int x5_9), (4, .int x4_1), (0, .ref (ga E 5)), (2, .long y2)]) C.1 C.2.1 dX0_heading_112 hl (by decide) rfl (fun ls hl => ?_)
      refine lv_iconst (v := -1) C.1 C.2.1 dX0_heading_114 (by decide) ?_
      refine lv_istore (lv' := [(6, .int (-1 : Int32)), (5, .int x5_9), (4, .int x4_1), (0, .ref (ga E 5)), (2, .long y2)]) C.1 C.2.1 dX0_heading_115 hl (by decide) rfl (fun ls hl => ?_)
      refine lv_aload_n C.1 C.2.1 dX0_heading_117 rfl (lv_at hl 3 rfl) ?_
      refine gx_calli0 g (gx_runV (k := 5) (rest := []) C g mb_X0_kind ml_X0_65 rfl sh_5 (mX0_kind _ _ h) ⟨Nat.le_of_ble_eq_true rfl, Nat.le_of_ble_eq_true rfl⟩ ⟨Nat.le_refl _, Nat.le_refl _⟩ rfl hl.1 rfl (Nat.le_of_ble_eq_true rfl) dX0_heading_118) rfl rfl (fun r10 σ11 H locs h g => ?_)
      refine lv_bipush (v := 18) C.1 C.2.1 dX0_heading_121 (by decide) ?_
      refine lv_icmp_ne (tgt := 179) C.1 C.2.1 dX0_heading_123 (by decide) (fun c12 => ?_) (fun c12 => ?_)
      · have h := h.2 c12
        exact tX0_heading_179 C hr y2 x5_9 (-1 : Int32) _ _ _ _ (lv_sub hl [3, 4, 1, 0] rfl) g h
      · have h := h.1 c12
        refine lv_aload_n C.1 C.2.1 dX0_heading_126 rfl (lv_at hl 3 rfl) ?_
        refine gx_getI C g fl_X0_36 dX0_heading_127 sh_5 rfl ?_
        refine lv_iconst (v := 1) C.1 C.2.1 dX0_heading_130 (by decide) ?_
        refine lv_iadd C.1 C.2.1 dX0_heading_131 ?_
        refine lv_topi (fun x7_13 ex7_13 => ?_)
        have h := h x7_13 ex7_13
        refine lv_istore (lv' := [(7, .int x7_13), (6, .int (-1 : Int32)), (5, .int x5_9), (4, .int x4_1), (0, .ref (ga E 5)), (2, .long y2)]) C.1 C.2.1 dX0_heading_132 hl (by decide) rfl (fun ls hl => ?_)
        refine lv_aload_n C.1 C.2.1 dX0_heading_134 rfl (lv_at hl 4 rfl) ?_
        refine lv_bipush (v := 18) C.1 C.2.1 dX0_heading_135 (by decide) ?_
        refine gx_calli0 g (gx_runV (k := 5) (rest := []) C g mb_X0_take ml_X0_76 rfl sh_5 (mX0_take (18 : Int32) _ _ h) ⟨Nat.le_of_ble_eq_true rfl, Nat.le_of_ble_eq_true rfl⟩ ⟨Nat.le_refl _, Nat.le_refl _⟩ rfl hl.1 rfl (Nat.le_of_ble_eq_true rfl) dX0_heading_137) rfl rfl (fun r14 σ15 H locs h g => ?_)
        refine lv_if_eq (tgt := 151) C.1 C.2.1 dX0_heading_140 (by decide) (fun c16 => ?_) (fun c16 => ?_)
        · have h := h.1 c16
          refine lv_iconst (v := 0) C.1 C.2.1 dX0_heading_151 (by decide) ?_
          exact gx_zret C hr g dX0_heading_152 (by decide) h
        · have h := h.2 c16
          refine lv_aload_n C.1 C.2.1 dX0_heading_143 rfl (lv_at hl 4 rfl) ?_
          refine lv_iconst (v := 2) C.1 C.2.1 dX0_heading_144 (by decide) ?_
          refine gx_calli0 g (gx_runV (k := 5) (rest := []) C g mb_X0_take ml_X0_76 rfl sh_5 (mX0_take (2 : Int32) _ _ h) ⟨Nat.le_of_ble_eq_true rfl, Nat.le_of_ble_eq_true rfl⟩ ⟨Nat.le_refl _, Nat.le_refl _⟩ rfl hl.1 rfl (Nat.le_of_ble_eq_true rfl) dX0_heading_145) rfl rfl (fun r17 σ18 H locs h g => ?_)
          refine lv_if_ne (tgt := 153) C.1 C.2.1 dX0_heading_148 (by decide) (fun c19 => ?_) (fun c19 => ?_)
          · have h := h.2 c19
            refine lv_aload_n C.1 C.2.1 dX0_heading_153 rfl (lv_at hl 4 rfl) ?_
            refine gx_getR C g fl_X0_32 dX0_heading_154 sh_5 rfl (by decide) ?_
            refine gx_getR C g fl_X0_95 dX0_heading_157 sh_7 rfl (by decide) ?_
            refine lv_iload C.1 C.2.1 dX0_heading_160 (lv_at hl 0 rfl) ?_
            obtain ⟨i20, h⟩ := h
            refine gx_iald C g dX0_heading_162 sh_204 i20 ?_
            refine lv_topi (fun x6_21 ex6_21 => ?_)
            have h := h x6_21 ex6_21
            refine lv_istore (lv' := [(6, .int x6_21), (7, .int x7_13), (5, .int x5_9), (4, .int x4_1), (0, .ref (ga E 5)), (2, .long y2)]) C.1 C.2.1 dX0_heading_163 hl (by decide) rfl (fun ls hl => ?_)
            refine lv_iload C.1 C.2.1 dX0_heading_165 (lv_at hl 0 rfl) ?_
            refine lv_iload C.1 C.2.1 dX0_heading_167 (lv_at hl 2 rfl) ?_
            refine lv_icmp_gt (tgt := 179) C.1 C.2.1 dX0_heading_169 (by decide) (fun c22 => ?_) (fun c22 => ?_)
            · have h := h.1 c22
              exact tX0_heading_179 C hr y2 x5_9 x6_21 _ _ _ _ (lv_sub hl [4, 5, 2, 0] rfl) g h
            · have h := h.2 c22
              refine lv_aload_n C.1 C.2.1 dX0_heading_172 rfl (lv_at hl 4 rfl) ?_
              refine lv_iconst (v := 5) C.1 C.2.1 dX0_heading_173 (by decide) ?_
              refine lv_iload C.1 C.2.1 dX0_heading_174 (lv_at hl 1 rfl) ?_
              refine gx_callv0 g (gx_runV (k := 5) (rest := []) C g mb_X0_note ml_X0_91 rfl sh_5 (mX0_note (5 : Int32) x7_13 _ _ h) ⟨Nat.le_of_ble_eq_true rfl, Nat.le_of_ble_eq_true rfl⟩ ⟨Nat.le_refl _, Nat.le_refl _⟩ rfl hl.1 rfl (Nat.le_of_ble_eq_true rfl) dX0_heading_176) rfl rfl (fun σ24 H locs h g => ?_)
              exact tX0_heading_179 C hr y2 x5_9 x6_21 _ _ _ _ (lv_sub hl [4, 5, 2, 0] rfl) g h
          · have h := h.1 c19
            refine lv_iconst (v := 0) C.1 C.2.1 dX0_heading_151 (by decide) ?_
            exact gx_zret C hr g dX0_heading_152 (by decide) h
    · have h := h.1 c7
      refine lv_iconst (v := 0) C.1 C.2.1 dX0_heading_100 (by decide) ?_
      exact gx_zret C hr g dX0_heading_101 (by decide) h
set_option maxHeartbeats 4000000 in
set_option maxRecDepth 100000 in
theorem tX0_heading_e {p : Program} {l : Launch} {e : Env} {s : State} {m : MethodId} {args : Array Value} {below : List Frame} {meth : Method} {c : Code} {E : EE} {base : Nat} (C : Cx p E base s m args meth c cX0_heading 8 RX0) (hr : meth.sig.returnType = (some .boolean)) {Q : Int32 → St → Prop} : ∀ (σ : St) (H : Heap) (locs : List Loc) (ls : Array Slot), lv_has ls 8 [(0, .ref (ga E 5))] → GW E base s σ H locs → wX0_heading σ Q → W p l e rmX0_heading s m args below meth c H locs 0 0 (MQ below (QI E base Q) args s 0 0 (fun q => base ≤ q)) (F0 m 0 ls []) := by
  intro σ H locs ls hl g h
  refine lv_aload_n C.1 C.2.1 dX0_heading_0 rfl (lv_at hl 0 rfl) ?_
  refine gx_getR C g fl_X0_21 dX0_heading_1 sh_5 rfl (by decide) ?_
  refine gx_getI C g fl_X0_80 dX0_heading_4 sh_8 rfl ?_
  refine lv_bipush (v := 10) C.1 C.2.1 dX0_heading_7 (by decide) ?_
  refine lv_icmp_lt (tgt := 19) C.1 C.2.1 dX0_heading_9 (by decide) (fun c1 => ?_) (fun c1 => ?_)
  · have h := h.1 c1
    refine lv_aload_n C.1 C.2.1 dX0_heading_19 rfl (lv_at hl 0 rfl) ?_
    refine gx_getI C g fl_X0_36 dX0_heading_20 sh_5 rfl ?_
    refine lv_iconst (v := 1) C.1 C.2.1 dX0_heading_23 (by decide) ?_
    refine lv_iadd C.1 C.2.1 dX0_heading_24 ?_
    refine lv_topi (fun x1_2 ex1_2 => ?_)
    have h := h x1_2 ex1_2
    refine lv_istore_n (lv' := [(1, .int x1_2), (0, .ref (ga E 5))]) C.1 C.2.1 dX0_heading_25 rfl hl (by decide) rfl (fun ls hl => ?_)
    refine lv_aload_n C.1 C.2.1 dX0_heading_26 rfl (lv_at hl 1 rfl) ?_
    refine lv_bipush (v := 16) C.1 C.2.1 dX0_heading_27 (by decide) ?_
    refine gx_calli0 g (gx_runV (k := 5) (rest := []) C g mb_X0_take ml_X0_76 rfl sh_5 (mX0_take (16 : Int32) _ _ h) ⟨Nat.le_of_ble_eq_true rfl, Nat.le_of_ble_eq_true rfl⟩ ⟨Nat.le_refl _, Nat.le_refl _⟩ rfl hl.1 rfl (Nat.le_of_ble_eq_true rfl) dX0_heading_29) rfl rfl (fun r3 σ4 H locs h g => ?_)
    refine lv_if_eq (tgt := 43) C.1 C.2.1 dX0_heading_32 (by decide) (fun c5 => ?_) (fun c5 => ?_)
    · have h := h.1 c5
      refine lv_iconst (v := 0) C.1 C.2.1 dX0_heading_43 (by decide) ?_
      exact gx_zret C hr g dX0_heading_44 (by decide) h
    · have h := h.2 c5
      refine lv_aload_n C.1 C.2.1 dX0_heading_35 rfl (lv_at hl 1 rfl) ?_
      refine lv_iconst (v := 3) C.1 C.2.1 dX0_heading_36 (by decide) ?_
      refine gx_calli0 g (gx_runV (k := 5) (rest := []) C g mb_X0_take ml_X0_76 rfl sh_5 (mX0_take (3 : Int32) _ _ h) ⟨Nat.le_of_ble_eq_true rfl, Nat.le_of_ble_eq_true rfl⟩ ⟨Nat.le_refl _, Nat.le_refl _⟩ rfl hl.1 rfl (Nat.le_of_ble_eq_true rfl) dX0_heading_37) rfl rfl (fun r6 σ7 H locs h g => ?_)
      refine lv_if_ne (tgt := 45) C.1 C.2.1 dX0_heading_40 (by decide) (fun c8 => ?_) (fun c8 => ?_)
      · have h := h.2 c8
        refine lv_aload_n C.1 C.2.1 dX0_heading_45 rfl (lv_at hl 1 rfl) ?_
        refine gx_getR C g fl_X0_32 dX0_heading_46 sh_5 rfl (by decide) ?_
        refine lv_aload_n C.1 C.2.1 dX0_heading_49 rfl (lv_at hl 1 rfl) ?_
        refine gx_getR C g fl_X0_12 dX0_heading_50 sh_5 rfl (by decide) ?_
        refine lv_iload_n C.1 C.2.1 dX0_heading_53 rfl (lv_at hl 0 rfl) ?_
        refine gx_calll0 g (gx_runV (k := 7) (rest := []) C g mb_X9_name ml_X0_83 rfl sh_7 (mX9_name x1_2 _ _ h) ⟨Nat.le_of_ble_eq_true rfl, Nat.le_of_ble_eq_true rfl⟩ ⟨Nat.le_refl _, Nat.le_refl _⟩ rfl hl.1 rfl (Nat.le_of_ble_eq_true rfl) dX0_heading_54) rfl rfl (fun r9 σ10 H locs h g => ?_)
        refine lv_lstore_n (lv' := [(2, .long r9), (1, .int x1_2), (0, .ref (ga E 5))]) C.1 C.2.1 dX0_heading_57 rfl hl (by decide) rfl (fun ls hl => ?_)
        refine lv_aload_n C.1 C.2.1 dX0_heading_58 rfl (lv_at hl 2 rfl) ?_
        refine gx_getR C g fl_X0_21 dX0_heading_59 sh_5 rfl (by decide) ?_
        refine lv_lload_n C.1 C.2.1 dX0_heading_62 rfl (lv_at hl 0 rfl) ?_
        refine gx_calli0 g (gx_runV (k := 8) (rest := []) C g mb_X2_hasAct ml_X0_87 rfl sh_8 (mX2_hasAct r9 _ _ h) ⟨Nat.le_of_ble_eq_true rfl, Nat.le_of_ble_eq_true rfl⟩ ⟨Nat.le_refl _, Nat.le_refl _⟩ rfl hl.1 rfl (Nat.le_of_ble_eq_true rfl) dX0_heading_63) rfl rfl (fun r11 σ12 H locs h g => ?_)
        refine lv_if_eq (tgt := 75) C.1 C.2.1 dX0_heading_66 (by decide) (fun c13 => ?_) (fun c13 => ?_)
        · have h := h.1 c13
          exact tX0_heading_75 C hr r9 _ _ _ _ (lv_sub hl [2, 0] rfl) g h
        · have h := h.2 c13
          refine lv_aload_n C.1 C.2.1 dX0_heading_69 rfl (lv_at hl 2 rfl) ?_
          refine lv_iconst (v := 3) C.1 C.2.1 dX0_heading_70 (by decide) ?_
          refine lv_iload_n C.1 C.2.1 dX0_heading_71 rfl (lv_at hl 1 rfl) ?_
          refine gx_callv0 g (gx_runV (k := 5) (rest := []) C g mb_X0_note ml_X0_91 rfl sh_5 (mX0_note (3 : Int32) x1_2 _ _ h) ⟨Nat.le_of_ble_eq_true rfl, Nat.le_of_ble_eq_true rfl⟩ ⟨Nat.le_refl _, Nat.le_refl _⟩ rfl hl.1 rfl (Nat.le_of_ble_eq_true rfl) dX0_heading_72) rfl rfl (fun σ15 H locs h g => ?_)
          exact tX0_heading_75 C hr r9 _ _ _ _ (lv_sub hl [2, 0] rfl) g h
      · have h := h.1 c8
        refine lv_iconst (v := 0) C.1 C.2.1 dX0_heading_43 (by decide) ?_
        exact gx_zret C hr g dX0_heading_44 (by decide) h
  · have h := h.2 c1
    refine lv_aload_n C.1 C.2.1 dX0_heading_12 rfl (lv_at hl 0 rfl) ?_
    refine lv_iconst (v := 2) C.1 C.2.1 dX0_heading_13 (by decide) ?_
    refine gx_putI C g fi_X0_39 dX0_heading_14 sh_5 rfl (fun H locs σ16 eσ16 g => ?_)
    have h := h σ16 eσ16
    refine lv_iconst (v := 0) C.1 C.2.1 dX0_heading_17 (by decide) ?_
    exact gx_zret C hr g dX0_heading_18 (by decide) h
theorem mX0_heading {l : Launch} {E : EE} {base : Nat} (σ : St) (Q : Int32 → St → Prop) (h : wX0_heading σ Q) : Met l yX0_heading (wy yX0_heading cX0_heading 8 (some .boolean)) rmX0_heading (va_Pc [.ref (ga E 5)] (fun U => SW E base σ U)) (QI E base Q) (rmX0_heading).cells (rmX0_heading).slots (fun q => base ≤ q) :=
  met_of (by decide) (Nat.le_of_ble_eq_true rfl) (fun p e s m args below meth c C hr g ls hl => tX0_heading_e C hr  _ _ _ _ hl g h)
abbrev rmX0_who : Room := { frames := 1, cells := 0, slots := 0, locals := 22 }
def wX0_who (x1 : Int32) (σ : St) (Q : Int32 → St → Prop) : Prop := vp_in x1 30 ∧ ∀ σ2 : St, σ2 = pv σ 27 x1.toNatClampNeg (-1 : Int32) → wX0_kind σ2 (fun (r3 : Int32) (σ4 : St) => ((r3 = (24 : Int32) → wX0_take (24 : Int32) σ4 (fun (r20 : Int32) (σ21 : St) => narrow .boolean (.int r20) = .int r20 ∧ Q r20 σ21)) ∧ (¬ (r3 = (24 : Int32)) → ∀ x2_6 : Int32, x2_6 = (gv σ4 5 4) + (1 : Int32) → wX0_take (23 : Int32) σ4 (fun (r7 : Int32) (σ8 : St) => ((r7 = 0 → Q (0 : Int32) σ8) ∧ (¬ (r7 = 0) → wX0_take (2 : Int32) σ8 (fun (r10 : Int32) (σ11 : St) => ((r10 = 0 → Q (0 : Int32) σ11) ∧ (¬ (r10 = 0) → vp_in x2_6 601 ∧ vp_in x1 30 ∧ ∀ σ15 : St, σ15 = pv σ11 27 x1.toNatClampNeg (gv σ11 204 x2_6.toNatClampNeg) → vp_in x1 30 ∧ (((gv σ15 27 x1.toNatClampNeg) < (7 : Int32) → Q (1 : Int32) σ15) ∧ (¬ ((gv σ15 27 x1.toNatClampNeg) < (7 : Int32)) → wX0_note (5 : Int32) x2_6 σ15 (fun (σ19 : St) => Q (1 : Int32) σ19))))))))))))
set_option maxHeartbeats 4000000 in
set_option maxRecDepth 100000 in
theorem tX0_who_e {p : Program} {l : Launch} {e : Env} {s : State} {m : MethodId} {args : Array Value} {below : List Frame} {meth : Method} {c : Code} {E : EE} {base : Nat} (C : Cx p E base s m args meth c cX0_who 3 RX0) (hr : meth.sig.returnType = (some .boolean)) {Q : Int32 → St → Prop} : ∀ (x1 : Int32) (σ : St) (H : Heap) (locs : List Loc) (ls : Array Slot), lv_has ls 3 [(0, .ref (ga E 5)), (1, .int x1)] → GW E base s σ H locs → wX0_who x1 σ Q → W p l e rmX0_who s m args below meth c H locs 0 0 (MQ below (QI E base Q) args s 0 0 (fun q => base ≤ q)) (F0 m 0 ls []) := by
  intro x1 σ H locs ls hl g h
  refine lv_aload_n C.1 C.2.1 dX0_who_0 rfl (lv_at hl 0 rfl) ?_
  refine gx_getR C g fl_X0_21 dX0_who_1 sh_5 rfl (by decide) ?_
  refine gx_getR C g fl_X0_130 dX0_who_4 sh_8 rfl (by decide) ?_
  refine lv_iload_n C.1 C.2.1 dX0_who_7 rfl (lv_at hl 1 rfl) ?_
  refine lv_iconst (v := -1) C.1 C.2.1 dX0_who_8 (by decide) ?_
  obtain ⟨i1, h⟩ := h
  refine gx_iast C g dX0_who_9 sh_27 i1 (fun H locs σ2 eσ2 g => ?_)
  have h := h σ2 eσ2
  refine lv_aload_n C.1 C.2.1 dX0_who_10 rfl (lv_at hl 0 rfl) ?_
  refine gx_calli0 g (gx_runV (k := 5) (rest := []) C g mb_X0_kind ml_X0_65 rfl sh_5 (mX0_kind _ _ h) ⟨Nat.le_of_ble_eq_true rfl, Nat.le_of_ble_eq_true rfl⟩ ⟨Nat.le_refl _, Nat.le_refl _⟩ rfl hl.1 rfl (Nat.le_of_ble_eq_true rfl) dX0_who_11) rfl rfl (fun r3 σ4 H locs h g => ?_)
  refine lv_bipush (v := 24) C.1 C.2.1 dX0_who_14 (by decide) ?_
  refine lv_icmp_ne (tgt := 26) C.1 C.2.1 dX0_who_16 (by decide) (fun c5 => ?_) (fun c5 => ?_)
  · have h := h.2 c5
    refine lv_aload_n C.1 C.2.1 dX0_who_26 rfl (lv_at hl 0 rfl) ?_
    refine gx_getI C g fl_X0_36 dX0_who_27 sh_5 rfl ?_
    refine lv_iconst (v := 1) C.1 C.2.1 dX0_who_30 (by decide) ?_
    refine lv_iadd C.1 C.2.1 dX0_who_31 ?_
    refine lv_topi (fun x2_6 ex2_6 => ?_)
    have h := h x2_6 ex2_6
    refine lv_istore_n (lv' := [(2, .int x2_6), (0, .ref (ga E 5)), (1, .int x1)]) C.1 C.2.1 dX0_who_32 rfl hl (by decide) rfl (fun ls hl => ?_)
    refine lv_aload_n C.1 C.2.1 dX0_who_33 rfl (lv_at hl 1 rfl) ?_
    refine lv_bipush (v := 23) C.1 C.2.1 dX0_who_34 (by decide) ?_
    refine gx_calli0 g (gx_runV (k := 5) (rest := []) C g mb_X0_take ml_X0_76 rfl sh_5 (mX0_take (23 : Int32) _ _ h) ⟨Nat.le_of_ble_eq_true rfl, Nat.le_of_ble_eq_true rfl⟩ ⟨Nat.le_refl _, Nat.le_refl _⟩ rfl hl.1 rfl (Nat.le_of_ble_eq_true rfl) dX0_who_36) rfl rfl (fun r7 σ8 H locs h g => ?_)
    refine lv_if_eq (tgt := 50) C.1 C.2.1 dX0_who_39 (by decide) (fun c9 => ?_) (fun c9 => ?_)
    · have h := h.1 c9
      refine lv_iconst (v := 0) C.1 C.2.1 dX0_who_50 (by decide) ?_
      exact gx_zret C hr g dX0_who_51 (by decide) h
    · have h := h.2 c9
      refine lv_aload_n C.1 C.2.1 dX0_who_42 rfl (lv_at hl 1 rfl) ?_
      refine lv_iconst (v := 2) C.1 C.2.1 dX0_who_43 (by decide) ?_
      refine gx_calli0 g (gx_runV (k := 5) (rest := []) C g mb_X0_take ml_X0_76 rfl sh_5 (mX0_take (2 : Int32) _ _ h) ⟨Nat.le_of_ble_eq_true rfl, Nat.le_of_ble_eq_true rfl⟩ ⟨Nat.le_refl _, Nat.le_refl _⟩ rfl hl.1 rfl (Nat.le_of_ble_eq_true rfl) dX0_who_44) rfl rfl (fun r10 σ11 H locs h g => ?_)
      refine lv_if_ne (tgt := 52) C.1 C.2.1 dX0_who_47 (by decide) (fun c12 => ?_) (fun c12 => ?_)
      · have h := h.2 c12
        refine lv_aload_n C.1 C.2.1 dX0_who_52 rfl (lv_at hl 1 rfl) ?_
        refine gx_getR C g fl_X0_21 dX0_who_53 sh_5 rfl (by decide) ?_
        refine gx_getR C g fl_X0_130 dX0_who_56 sh_8 rfl (by decide) ?_
        refine lv_iload_n C.1 C.2.1 dX0_who_59 rfl (lv_at hl 2 rfl) ?_
        refine lv_aload_n C.1 C.2.1 dX0_who_60 rfl (lv_at hl 1 rfl) ?_
        refine gx_getR C g fl_X0_32 dX0_who_61 sh_5 rfl (by decide) ?_
        refine gx_getR C g fl_X0_95 dX0_who_64 sh_7 rfl (by decide) ?_
        refine lv_iload_n C.1 C.2.1 dX0_who_67 rfl (lv_at hl 0 rfl) ?_
        obtain ⟨i13, h⟩ := h
        refine gx_iald C g dX0_who_68 sh_204 i13 ?_
        obtain ⟨i14, h⟩ := h
        refine gx_iast C g dX0_who_69 sh_27 i14 (fun H locs σ15 eσ15 g => ?_)
        have h := h σ15 eσ15
        refine lv_aload_n C.1 C.2.1 dX0_who_70 rfl (lv_at hl 1 rfl) ?_
        refine gx_getR C g fl_X0_21 dX0_who_71 sh_5 rfl (by decide) ?_
        refine gx_getR C g fl_X0_130 dX0_who_74 sh_8 rfl (by decide) ?_
        refine lv_iload_n C.1 C.2.1 dX0_who_77 rfl (lv_at hl 2 rfl) ?_
        obtain ⟨i16, h⟩ := h
        refine gx_iald C g dX0_who_78 sh_27 i16 ?_
        refine lv_bipush (v := 7) C.1 C.2.1 dX0_who_79 (by decide) ?_
        refine lv_icmp_lt (tgt := 90) C.1 C.2.1 dX0_who_81 (by decide) (fun c17 => ?_) (fun c17 => ?_)
        · have h := h.1 c17
          refine lv_iconst (v := 1) C.1 C.2.1 dX0_who_90 (by decide) ?_
          exact gx_zret C hr g dX0_who_91 (by decide) h
        · have h := h.2 c17
          refine lv_aload_n C.1 C.2.1 dX0_who_84 rfl (lv_at hl 1 rfl) ?_
          refine lv_iconst (v := 5) C.1 C.2.1 dX0_who_85 (by decide) ?_
          refine lv_iload_n C.1 C.2.1 dX0_who_86 rfl (lv_at hl 0 rfl) ?_
          refine gx_callv0 g (gx_runV (k := 5) (rest := []) C g mb_X0_note ml_X0_91 rfl sh_5 (mX0_note (5 : Int32) x2_6 _ _ h) ⟨Nat.le_of_ble_eq_true rfl, Nat.le_of_ble_eq_true rfl⟩ ⟨Nat.le_refl _, Nat.le_refl _⟩ rfl hl.1 rfl (Nat.le_of_ble_eq_true rfl) dX0_who_87) rfl rfl (fun σ19 H locs h g => ?_)
          refine lv_iconst (v := 1) C.1 C.2.1 dX0_who_90 (by decide) ?_
          exact gx_zret C hr g dX0_who_91 (by decide) h
      · have h := h.1 c12
        refine lv_iconst (v := 0) C.1 C.2.1 dX0_who_50 (by decide) ?_
        exact gx_zret C hr g dX0_who_51 (by decide) h
  · have h := h.1 c5
    refine lv_aload_n C.1 C.2.1 dX0_who_19 rfl (lv_at hl 0 rfl) ?_
    refine lv_bipush (v := 24) C.1 C.2.1 dX0_who_20 (by decide) ?_
    refine gx_calli0 g (gx_runV (k := 5) (rest := []) C g mb_X0_take ml_X0_76 rfl sh_5 (mX0_take (24 : Int32) _ _ h) ⟨Nat.le_of_ble_eq_true rfl, Nat.le_of_ble_eq_true rfl⟩ ⟨Nat.le_refl _, Nat.le_refl _⟩ rfl hl.1 rfl (Nat.le_of_ble_eq_true rfl) dX0_who_22) rfl rfl (fun r20 σ21 H locs h g => ?_)
    exact gx_zret C hr g dX0_who_25 h.1 h.2
theorem mX0_who {l : Launch} {E : EE} {base : Nat} (x1 : Int32) (σ : St) (Q : Int32 → St → Prop) (h : wX0_who x1 σ Q) : Met l yX0_who (wy yX0_who cX0_who 3 (some .boolean)) rmX0_who (va_Pc [.ref (ga E 5), .int x1] (fun U => SW E base σ U)) (QI E base Q) (rmX0_who).cells (rmX0_who).slots (fun q => base ≤ q) :=
  met_of (by decide) (Nat.le_of_ble_eq_true rfl) (fun p e s m args below meth c C hr g ls hl => tX0_who_e C hr x1 _ _ _ _ hl g h)
def wX0_unit_42 (S : Int32 → St → (Int32 → St → Prop) → Prop) (Q : Int32 → St → Prop) (x2 : Int32) (xt1 : Int32) (σ : St) : Prop := wX2_emit xt1 σ (fun (σ2 : St) => wX0_take x2 σ2 (fun (r3 : Int32) (σ4 : St) => narrow .boolean (.int r3) = .int r3 ∧ Q r3 σ4))
def wX0_unit_16 (S : Int32 → St → (Int32 → St → Prop) → Prop) (Q : Int32 → St → Prop) (x2 : Int32) (σ : St) : Prop := ((x2 = (2 : Int32) → vp_in (gv σ 5 4) 601 ∧ wX0_unit_42 S Q x2 (gv σ 204 (gv σ 5 4).toNatClampNeg) σ) ∧ (¬ (x2 = (2 : Int32)) → wX0_unit_42 S Q x2 (-x2) σ))
def wX0_unit_70 (S : Int32 → St → (Int32 → St → Prop) → Prop) (Q : Int32 → St → Prop) (x1 : Int32) (σ : St) : Prop := wX0_take (6 : Int32) σ (fun (r1 : Int32) (σ2 : St) => ((r1 = 0 → Q (0 : Int32) σ2) ∧ (¬ (r1 = 0) → S (x1 + (1 : Int32)) σ2 (fun (r4 : Int32) (σ5 : St) => ((r4 = 0 → Q (0 : Int32) σ5) ∧ (¬ (r4 = 0) → wX0_take (7 : Int32) σ5 (fun (r7 : Int32) (σ8 : St) => ((r7 = 0 → Q (0 : Int32) σ8) ∧ (¬ (r7 = 0) → Q (1 : Int32) σ8)))))))))
def wX0_unit (S : Int32 → St → (Int32 → St → Prop) → Prop) (x1 : Int32) (σ : St) (Q : Int32 → St → Prop) : Prop := wX0_kind σ (fun (r1 : Int32) (σ2 : St) => ((r1 = (2 : Int32) → wX0_unit_16 S Q r1 σ2) ∧ (¬ (r1 = (2 : Int32)) → ((r1 < (27 : Int32) → ((r1 = (6 : Int32) → ((x1 < (8 : Int32) → wX0_unit_70 S Q x1 σ2) ∧ (¬ (x1 < (8 : Int32)) → ∀ σ7 : St, σ7 = pv σ2 5 5 (2 : Int32) → Q (0 : Int32) σ7))) ∧ (¬ (r1 = (6 : Int32)) → wX0_unit_70 S Q x1 σ2))) ∧ (¬ (r1 < (27 : Int32)) → wX0_unit_16 S Q r1 σ2)))))
set_option maxHeartbeats 4000000 in
set_option maxRecDepth 100000 in
theorem tX0_unit_42 {p : Program} {l : Launch} {e : Env} {s : State} {m : MethodId} {args : Array Value} {below : List Frame} {meth : Method} {c : Code} {E : EE} {base : Nat} (C : Cx p E base s m args meth c cX0_unit 3 RX0) (hr : meth.sig.returnType = (some .boolean)) {Q : Int32 → St → Prop} {S : Int32 → St → (Int32 → St → Prop) → Prop} {F Lo : Nat} (hS : ∀ (x1 : Int32) (σ : St) (Q : Int32 → St → Prop), S x1 σ Q → Met l yX0_sum (wy yX0_sum cX0_sum 5 (some .boolean)) ({ frames := F, cells := 0, slots := 0, locals := Lo }) (va_Pc [.ref (ga E 5), .int x1] (fun U => SW E base σ U)) (QI E base Q) 0 0 (fun q => base ≤ q)) : ∀ (x2 : Int32) (xt1 : Int32) (σ : St) (H : Heap) (locs : List Loc) (ls : Array Slot), lv_has ls 3 [(0, .ref (ga E 5)), (2, .int x2)] → GW E base s σ H locs → wX0_unit_42 S Q x2 xt1 σ → W p l e ({ frames := F + 10, cells := 0, slots := 0, locals := Lo + 300 } : Room) s m args below meth c H locs 0 0 (MQ below (QI E base Q) args s 0 0 (fun q => base ≤ q)) (F0 m 42 ls [.int xt1, .ref (ga E 8)]) := by
  intro x2 xt1 σ H locs ls hl g h
  refine gx_callv0 g (gx_runV (k := 8) (rest := []) C g mb_X2_emit ml_X0_135 rfl sh_8 (mX2_emit xt1 _ _ h) ⟨show 0 + 1 ≤ F + 10 by omega, show 8 + (2 + 11) + (0) ≤ Lo + 300 by omega⟩ ⟨Nat.le_refl _, Nat.le_refl _⟩ rfl hl.1 rfl (Nat.le_of_ble_eq_true rfl) dX0_unit_42) rfl rfl (fun σ2 H locs h g => ?_)
  refine lv_aload_n C.1 C.2.1 dX0_unit_45 rfl (lv_at hl 0 rfl) ?_
  refine lv_iload_n C.1 C.2.1 dX0_unit_46 rfl (lv_at hl 1 rfl) ?_
  refine gx_calli0 g (gx_runV (k := 5) (rest := []) C g mb_X0_take ml_X0_76 rfl sh_5 (mX0_take x2 _ _ h) ⟨show 0 + 1 ≤ F + 10 by omega, show 8 + (2 + 11) + (0) ≤ Lo + 300 by omega⟩ ⟨Nat.le_refl _, Nat.le_refl _⟩ rfl hl.1 rfl (Nat.le_of_ble_eq_true rfl) dX0_unit_47) rfl rfl (fun r3 σ4 H locs h g => ?_)
  exact gx_zret C hr g dX0_unit_50 h.1 h.2
set_option maxHeartbeats 4000000 in
set_option maxRecDepth 100000 in
theorem tX0_unit_16 {p : Program} {l : Launch} {e : Env} {s : State} {m : MethodId} {args : Array Value} {below : List Frame} {meth : Method} {c : Code} {E : EE} {base : Nat} (C : Cx p E base s m args meth c cX0_unit 3 RX0) (hr : meth.sig.returnType = (some .boolean)) {Q : Int32 → St → Prop} {S : Int32 → St → (Int32 → St → Prop) → Prop} {F Lo : Nat} (hS : ∀ (x1 : Int32) (σ : St) (Q : Int32 → St → Prop), S x1 σ Q → Met l yX0_sum (wy yX0_sum cX0_sum 5 (some .boolean)) ({ frames := F, cells := 0, slots := 0, locals := Lo }) (va_Pc [.ref (ga E 5), .int x1] (fun U => SW E base σ U)) (QI E base Q) 0 0 (fun q => base ≤ q)) : ∀ (x2 : Int32) (σ : St) (H : Heap) (locs : List Loc) (ls : Array Slot), lv_has ls 3 [(0, .ref (ga E 5)), (2, .int x2)] → GW E base s σ H locs → wX0_unit_16 S Q x2 σ → W p l e ({ frames := F + 10, cells := 0, slots := 0, locals := Lo + 300 } : Room) s m args below meth c H locs 0 0 (MQ below (QI E base Q) args s 0 0 (fun q => base ≤ q)) (F0 m 16 ls []) := by
  intro x2 σ H locs ls hl g h
  refine lv_aload_n C.1 C.2.1 dX0_unit_16 rfl (lv_at hl 0 rfl) ?_
  refine gx_getR C g fl_X0_21 dX0_unit_17 sh_5 rfl (by decide) ?_
  refine lv_iload_n C.1 C.2.1 dX0_unit_20 rfl (lv_at hl 1 rfl) ?_
  refine lv_iconst (v := 2) C.1 C.2.1 dX0_unit_21 (by decide) ?_
  refine lv_icmp_ne (tgt := 40) C.1 C.2.1 dX0_unit_22 (by decide) (fun c1 => ?_) (fun c1 => ?_)
  · have h := h.2 c1
    refine lv_iload_n C.1 C.2.1 dX0_unit_40 rfl (lv_at hl 1 rfl) ?_
    refine lv_ineg C.1 C.2.1 dX0_unit_41 ?_
    exact tX0_unit_42 C hr hS x2 (-x2) _ _ _ _ (lv_sub hl [0, 1] rfl) g h
  · have h := h.1 c1
    refine lv_aload_n C.1 C.2.1 dX0_unit_25 rfl (lv_at hl 0 rfl) ?_
    refine gx_getR C g fl_X0_32 dX0_unit_26 sh_5 rfl (by decide) ?_
    refine gx_getR C g fl_X0_95 dX0_unit_29 sh_7 rfl (by decide) ?_
    refine lv_aload_n C.1 C.2.1 dX0_unit_32 rfl (lv_at hl 0 rfl) ?_
    refine gx_getI C g fl_X0_36 dX0_unit_33 sh_5 rfl ?_
    obtain ⟨i2, h⟩ := h
    refine gx_iald C g dX0_unit_36 sh_204 i2 ?_
    refine lv_goto (tgt := 42) C.1 C.2.1 dX0_unit_37 (by decide) ?_
    exact tX0_unit_42 C hr hS x2 (gv σ 204 (gv σ 5 4).toNatClampNeg) _ _ _ _ (lv_sub hl [0, 1] rfl) g h
set_option maxHeartbeats 4000000 in
set_option maxRecDepth 100000 in
theorem tX0_unit_70 {p : Program} {l : Launch} {e : Env} {s : State} {m : MethodId} {args : Array Value} {below : List Frame} {meth : Method} {c : Code} {E : EE} {base : Nat} (C : Cx p E base s m args meth c cX0_unit 3 RX0) (hr : meth.sig.returnType = (some .boolean)) {Q : Int32 → St → Prop} {S : Int32 → St → (Int32 → St → Prop) → Prop} {F Lo : Nat} (hS : ∀ (x1 : Int32) (σ : St) (Q : Int32 → St → Prop), S x1 σ Q → Met l yX0_sum (wy yX0_sum cX0_sum 5 (some .boolean)) ({ frames := F, cells := 0, slots := 0, locals := Lo }) (va_Pc [.ref (ga E 5), .int x1] (fun U => SW E base σ U)) (QI E base Q) 0 0 (fun q => base ≤ q)) : ∀ (x1 : Int32) (σ : St) (H : Heap) (locs : List Loc) (ls : Array Slot), lv_has ls 3 [(0, .ref (ga E 5)), (1, .int x1)] → GW E base s σ H locs → wX0_unit_70 S Q x1 σ → W p l e ({ frames := F + 10, cells := 0, slots := 0, locals := Lo + 300 } : Room) s m args below meth c H locs 0 0 (MQ below (QI E base Q) args s 0 0 (fun q => base ≤ q)) (F0 m 70 ls []) := by
  intro x1 σ H locs ls hl g h
  refine lv_aload_n C.1 C.2.1 dX0_unit_70 rfl (lv_at hl 0 rfl) ?_
  refine lv_bipush (v := 6) C.1 C.2.1 dX0_unit_71 (by decide) ?_
  refine gx_calli0 g (gx_runV (k := 5) (rest := []) C g mb_X0_take ml_X0_76 rfl sh_5 (mX0_take (6 : Int32) _ _ h) ⟨show 0 + 1 ≤ F + 10 by omega, show 8 + (2 + 11) + (0) ≤ Lo + 300 by omega⟩ ⟨Nat.le_refl _, Nat.le_refl _⟩ rfl hl.1 rfl (Nat.le_of_ble_eq_true rfl) dX0_unit_73) rfl rfl (fun r1 σ2 H locs h g => ?_)
  refine lv_if_eq (tgt := 102) C.1 C.2.1 dX0_unit_76 (by decide) (fun c3 => ?_) (fun c3 => ?_)
  · have h := h.1 c3
    refine lv_iconst (v := 0) C.1 C.2.1 dX0_unit_102 (by decide) ?_
    exact gx_zret C hr g dX0_unit_103 (by decide) h
  · have h := h.2 c3
    refine lv_aload_n C.1 C.2.1 dX0_unit_79 rfl (lv_at hl 0 rfl) ?_
    refine lv_iload_n C.1 C.2.1 dX0_unit_80 rfl (lv_at hl 1 rfl) ?_
    refine lv_iconst (v := 1) C.1 C.2.1 dX0_unit_81 (by decide) ?_
    refine lv_iadd C.1 C.2.1 dX0_unit_82 ?_
    refine gx_calli0 g (gx_runV (k := 5) (rest := []) C g mb_X0_sum ml_X0_115 rfl sh_5 (hS (x1 + (1 : Int32)) _ _ h) ⟨show F + 1 ≤ F + 10 by omega, show 8 + (5 + 11) + (Lo) ≤ Lo + 300 by omega⟩ ⟨Nat.le_refl _, Nat.le_refl _⟩ rfl hl.1 rfl (Nat.le_of_ble_eq_true rfl) dX0_unit_83) rfl rfl (fun r4 σ5 H locs h g => ?_)
    refine lv_if_eq (tgt := 102) C.1 C.2.1 dX0_unit_86 (by decide) (fun c6 => ?_) (fun c6 => ?_)
    · have h := h.1 c6
      refine lv_iconst (v := 0) C.1 C.2.1 dX0_unit_102 (by decide) ?_
      exact gx_zret C hr g dX0_unit_103 (by decide) h
    · have h := h.2 c6
      refine lv_aload_n C.1 C.2.1 dX0_unit_89 rfl (lv_at hl 0 rfl) ?_
      refine lv_bipush (v := 7) C.1 C.2.1 dX0_unit_90 (by decide) ?_
      refine gx_calli0 g (gx_runV (k := 5) (rest := []) C g mb_X0_take ml_X0_76 rfl sh_5 (mX0_take (7 : Int32) _ _ h) ⟨show 0 + 1 ≤ F + 10 by omega, show 8 + (2 + 11) + (0) ≤ Lo + 300 by omega⟩ ⟨Nat.le_refl _, Nat.le_refl _⟩ rfl hl.1 rfl (Nat.le_of_ble_eq_true rfl) dX0_unit_92) rfl rfl (fun r7 σ8 H locs h g => ?_)
      refine lv_if_eq (tgt := 102) C.1 C.2.1 dX0_unit_95 (by decide) (fun c9 => ?_) (fun c9 => ?_)
      · have h := h.1 c9
        refine lv_iconst (v := 0) C.1 C.2.1 dX0_unit_102 (by decide) ?_
        exact gx_zret C hr g dX0_unit_103 (by decide) h
      · have h := h.2 c9
        refine lv_iconst (v := 1) C.1 C.2.1 dX0_unit_98 (by decide) ?_
        refine lv_goto (tgt := 103) C.1 C.2.1 dX0_unit_99 (by decide) ?_
        exact gx_zret C hr g dX0_unit_103 (by decide) h
set_option maxHeartbeats 4000000 in
set_option maxRecDepth 100000 in
theorem tX0_unit_e {p : Program} {l : Launch} {e : Env} {s : State} {m : MethodId} {args : Array Value} {below : List Frame} {meth : Method} {c : Code} {E : EE} {base : Nat} (C : Cx p E base s m args meth c cX0_unit 3 RX0) (hr : meth.sig.returnType = (some .boolean)) {Q : Int32 → St → Prop} {S : Int32 → St → (Int32 → St → Prop) → Prop} {F Lo : Nat} (hS : ∀ (x1 : Int32) (σ : St) (Q : Int32 → St → Prop), S x1 σ Q → Met l yX0_sum (wy yX0_sum cX0_sum 5 (some .boolean)) ({ frames := F, cells := 0, slots := 0, locals := Lo }) (va_Pc [.ref (ga E 5), .int x1] (fun U => SW E base σ U)) (QI E base Q) 0 0 (fun q => base ≤ q)) : ∀ (x1 : Int32) (σ : St) (H : Heap) (locs : List Loc) (ls : Array Slot), lv_has ls 3 [(0, .ref (ga E 5)), (1, .int x1)] → GW E base s σ H locs → wX0_unit S x1 σ Q → W p l e ({ frames := F + 10, cells := 0, slots := 0, locals := Lo + 300 } : Room) s m args below meth c H locs 0 0 (MQ below (QI E base Q) args s 0 0 (fun q => base ≤ q)) (F0 m 0 ls []) := by
  intro x1 σ H locs ls hl g h
  refine lv_aload_n C.1 C.2.1 dX0_unit_0 rfl (lv_at hl 0 rfl) ?_
  refine gx_calli0 g (gx_runV (k := 5) (rest := []) C g mb_X0_kind ml_X0_65 rfl sh_5 (mX0_kind _ _ h) ⟨show 0 + 1 ≤ F + 10 by omega, show 8 + (1 + 11) + (0) ≤ Lo + 300 by omega⟩ ⟨Nat.le_refl _, Nat.le_refl _⟩ rfl hl.1 rfl (Nat.le_of_ble_eq_true rfl) dX0_unit_1) rfl rfl (fun r1 σ2 H locs h g => ?_)
  refine lv_istore_n (lv' := [(2, .int r1), (0, .ref (ga E 5)), (1, .int x1)]) C.1 C.2.1 dX0_unit_4 rfl hl (by decide) rfl (fun ls hl => ?_)
  refine lv_iload_n C.1 C.2.1 dX0_unit_5 rfl (lv_at hl 0 rfl) ?_
  refine lv_iconst (v := 2) C.1 C.2.1 dX0_unit_6 (by decide) ?_
  refine lv_icmp_eq (tgt := 16) C.1 C.2.1 dX0_unit_7 (by decide) (fun c3 => ?_) (fun c3 => ?_)
  · have h := h.1 c3
    exact tX0_unit_16 C hr hS r1 _ _ _ _ (lv_sub hl [1, 0] rfl) g h
  · have h := h.2 c3
    refine lv_iload_n C.1 C.2.1 dX0_unit_10 rfl (lv_at hl 0 rfl) ?_
    refine lv_bipush (v := 27) C.1 C.2.1 dX0_unit_11 (by decide) ?_
    refine lv_icmp_lt (tgt := 51) C.1 C.2.1 dX0_unit_13 (by decide) (fun c4 => ?_) (fun c4 => ?_)
    · have h := h.1 c4
      refine lv_iload_n C.1 C.2.1 dX0_unit_51 rfl (lv_at hl 0 rfl) ?_
      refine lv_bipush (v := 6) C.1 C.2.1 dX0_unit_52 (by decide) ?_
      refine lv_icmp_ne (tgt := 70) C.1 C.2.1 dX0_unit_54 (by decide) (fun c5 => ?_) (fun c5 => ?_)
      · have h := h.2 c5
        exact tX0_unit_70 C hr hS x1 _ _ _ _ (lv_sub hl [1, 2] rfl) g h
      · have h := h.1 c5
        refine lv_iload_n C.1 C.2.1 dX0_unit_57 rfl (lv_at hl 2 rfl) ?_
        refine lv_bipush (v := 8) C.1 C.2.1 dX0_unit_58 (by decide) ?_
        refine lv_icmp_lt (tgt := 70) C.1 C.2.1 dX0_unit_60 (by decide) (fun c6 => ?_) (fun c6 => ?_)
        · have h := h.1 c6
          exact tX0_unit_70 C hr hS x1 _ _ _ _ (lv_sub hl [1, 2] rfl) g h
        · have h := h.2 c6
          refine lv_aload_n C.1 C.2.1 dX0_unit_63 rfl (lv_at hl 1 rfl) ?_
          refine lv_iconst (v := 2) C.1 C.2.1 dX0_unit_64 (by decide) ?_
          refine gx_putI C g fi_X0_39 dX0_unit_65 sh_5 rfl (fun H locs σ7 eσ7 g => ?_)
          have h := h σ7 eσ7
          refine lv_iconst (v := 0) C.1 C.2.1 dX0_unit_68 (by decide) ?_
          exact gx_zret C hr g dX0_unit_69 (by decide) h
    · have h := h.2 c4
      exact tX0_unit_16 C hr hS r1 _ _ _ _ (lv_sub hl [1, 0] rfl) g h
theorem mX0_unit {l : Launch} {E : EE} {base : Nat} {S : Int32 → St → (Int32 → St → Prop) → Prop} {F Lo : Nat} (hS : ∀ (x1 : Int32) (σ : St) (Q : Int32 → St → Prop), S x1 σ Q → Met l yX0_sum (wy yX0_sum cX0_sum 5 (some .boolean)) ({ frames := F, cells := 0, slots := 0, locals := Lo }) (va_Pc [.ref (ga E 5), .int x1] (fun U => SW E base σ U)) (QI E base Q) 0 0 (fun q => base ≤ q)) (x1 : Int32) (σ : St) (Q : Int32 → St → Prop) (h : wX0_unit S x1 σ Q) : Met l yX0_unit (wy yX0_unit cX0_unit 3 (some .boolean)) ({ frames := F + 10, cells := 0, slots := 0, locals := Lo + 300 } : Room) (va_Pc [.ref (ga E 5), .int x1] (fun U => SW E base σ U)) (QI E base Q) (({ frames := F + 10, cells := 0, slots := 0, locals := Lo + 300 } : Room)).cells (({ frames := F + 10, cells := 0, slots := 0, locals := Lo + 300 } : Room)).slots (fun q => base ≤ q) :=
  met_of (by decide) (Nat.le_of_ble_eq_true rfl) (fun p e s m args below meth c C hr g ls hl => tX0_unit_e C hr hS x1 _ _ _ _ hl g h)
def wX0_sum_137 (S : Int32 → St → (Int32 → St → Prop) → Prop) (Q : Int32 → St → Prop) (x2 : Int32) (σ : St) : Prop := ((x2 = 0 → Q (1 : Int32) σ) ∧ (¬ (x2 = 0) → wX2_emit (-x2) σ (fun (σ3 : St) => Q (1 : Int32) σ3)))
def wX0_sum_131 (S : Int32 → St → (Int32 → St → Prop) → Prop) (Q : Int32 → St → Prop) (K41 : Int32 → Int32 → Int32 → St → Prop) (x1 : Int32) (x2 : Int32) (x3 : Int32) (σ : St) : Prop := ∀ x3_1 : Int32, x3_1 = x3 + 1 → K41 x1 x2 x3_1 σ
def wX0_sum_95 (S : Int32 → St → (Int32 → St → Prop) → Prop) (Q : Int32 → St → Prop) (K41 : Int32 → Int32 → Int32 → St → Prop) (x1 : Int32) (x2 : Int32) (x3 : Int32) (x4 : Int32) (σ : St) : Prop := wX0_take x4 σ (fun (r1 : Int32) (σ2 : St) => ((r1 = 0 → Q (0 : Int32) σ2) ∧ (¬ (r1 = 0) → wX0_unit S x1 σ2 (fun (r4 : Int32) (σ5 : St) => ((r4 = 0 → Q (0 : Int32) σ5) ∧ (¬ (r4 = 0) → ((x4 = (10 : Int32) → wX2_emit (-x4) σ5 (fun (σ9 : St) => wX0_sum_131 S Q K41 x1 x2 x3 σ9)) ∧ (¬ (x4 = (10 : Int32)) → wX0_sum_131 S Q K41 x1 x2 x3 σ5))))))))
def wX0_sum_92 (S : Int32 → St → (Int32 → St → Prop) → Prop) (Q : Int32 → St → Prop) (K41 : Int32 → Int32 → Int32 → St → Prop) (x1 : Int32) (x3 : Int32) (x4 : Int32) (σ : St) : Prop := wX0_sum_95 S Q K41 x1 x4 x3 x4 σ
def wX0_sum_41 (S : Int32 → St → (Int32 → St → Prop) → Prop) (Q : Int32 → St → Prop) : Nat → Int32 → Int32 → Int32 → St → Prop
  | 0, _, _, _, _ => False
  | n + 1, x1, x2, x3, σ => (((600 : Int32) ≤ x3 → wX0_sum_137 S Q x2 σ) ∧ (¬ ((600 : Int32) ≤ x3) → wX0_kind σ (fun (r2 : Int32) (σ3 : St) => ((r2 < (8 : Int32) → wX0_sum_137 S Q x2 σ3) ∧ (¬ (r2 < (8 : Int32)) → wX0_kind σ3 (fun (r5 : Int32) (σ6 : St) => (((10 : Int32) < r5 → wX0_sum_137 S Q x2 σ6) ∧ (¬ ((10 : Int32) < r5) → wX0_kind σ6 (fun (r8 : Int32) (σ9 : St) => ((r8 = (10 : Int32) → wX0_sum_95 S Q (fun x1' x2' x3' σ' => wX0_sum_41 S Q n x1' x2' x3' σ') x1 x2 x3 r8 σ9) ∧ (¬ (r8 = (10 : Int32)) → ((x2 = 0 → wX0_sum_92 S Q (fun x1' x2' x3' σ' => wX0_sum_41 S Q n x1' x2' x3' σ') x1 x3 r8 σ9) ∧ (¬ (x2 = 0) → wX2_emit (-x2) σ9 (fun (σ13 : St) => wX0_sum_92 S Q (fun x1' x2' x3' σ' => wX0_sum_41 S Q n x1' x2' x3' σ') x1 x3 r8 σ13))))))))))))))
def wX0_sum_29 (S : Int32 → St → (Int32 → St → Prop) → Prop) (Q : Int32 → St → Prop) (x1 : Int32) (x2 : Int32) (σ : St) : Prop := wX0_unit S x1 σ (fun (r1 : Int32) (σ2 : St) => ((r1 = 0 → Q (0 : Int32) σ2) ∧ (¬ (r1 = 0) → ∃ j : Nat, wX0_sum_41 S Q j x1 x2 (0 : Int32) σ2)))
def wX0_sum_15 (S : Int32 → St → (Int32 → St → Prop) → Prop) (Q : Int32 → St → Prop) (x1 : Int32) (xt0 : Int32) (σ : St) : Prop := ((xt0 = 0 → wX0_sum_29 S Q x1 xt0 σ) ∧ (¬ (xt0 = 0) → wX0_take (9 : Int32) σ (fun (r2 : Int32) (σ3 : St) => ((r2 = 0 → Q (0 : Int32) σ3) ∧ (¬ (r2 = 0) → wX0_sum_29 S Q x1 xt0 σ3)))))
def wX0_sum (S : Int32 → St → (Int32 → St → Prop) → Prop) (x1 : Int32) (σ : St) (Q : Int32 → St → Prop) : Prop := wX0_kind σ (fun (r1 : Int32) (σ2 : St) => ((r1 = (9 : Int32) → wX0_sum_15 S Q x1 (15 : Int32) σ2) ∧ (¬ (r1 = (9 : Int32)) → wX0_sum_15 S Q x1 (0 : Int32) σ2)))
set_option maxHeartbeats 4000000 in
set_option maxRecDepth 100000 in
theorem tX0_sum_137 {p : Program} {l : Launch} {e : Env} {s : State} {m : MethodId} {args : Array Value} {below : List Frame} {meth : Method} {c : Code} {E : EE} {base : Nat} (C : Cx p E base s m args meth c cX0_sum 5 RX0) (hr : meth.sig.returnType = (some .boolean)) {Q : Int32 → St → Prop} {S : Int32 → St → (Int32 → St → Prop) → Prop} {F Lo : Nat} (hS : ∀ (x1 : Int32) (σ : St) (Q : Int32 → St → Prop), S x1 σ Q → Met l yX0_sum (wy yX0_sum cX0_sum 5 (some .boolean)) ({ frames := F, cells := 0, slots := 0, locals := Lo }) (va_Pc [.ref (ga E 5), .int x1] (fun U => SW E base σ U)) (QI E base Q) 0 0 (fun q => base ≤ q)) : ∀ (x2 : Int32) (σ : St) (H : Heap) (locs : List Loc) (ls : Array Slot), lv_has ls 5 [(0, .ref (ga E 5)), (2, .int x2)] → GW E base s σ H locs → wX0_sum_137 S Q x2 σ → W p l e ({ frames := F + 30, cells := 0, slots := 0, locals := Lo + 900 } : Room) s m args below meth c H locs 0 0 (MQ below (QI E base Q) args s 0 0 (fun q => base ≤ q)) (F0 m 137 ls []) := by
  intro x2 σ H locs ls hl g h
  refine lv_iload_n C.1 C.2.1 dX0_sum_137 rfl (lv_at hl 1 rfl) ?_
  refine lv_if_eq (tgt := 150) C.1 C.2.1 dX0_sum_138 (by decide) (fun c1 => ?_) (fun c1 => ?_)
  · have h := h.1 c1
    refine lv_iconst (v := 1) C.1 C.2.1 dX0_sum_150 (by decide) ?_
    exact gx_zret C hr g dX0_sum_151 (by decide) h
  · have h := h.2 c1
    refine lv_aload_n C.1 C.2.1 dX0_sum_141 rfl (lv_at hl 0 rfl) ?_
    refine gx_getR C g fl_X0_21 dX0_sum_142 sh_5 rfl (by decide) ?_
    refine lv_iload_n C.1 C.2.1 dX0_sum_145 rfl (lv_at hl 1 rfl) ?_
    refine lv_ineg C.1 C.2.1 dX0_sum_146 ?_
    refine gx_callv0 g (gx_runV (k := 8) (rest := []) C g mb_X2_emit ml_X0_135 rfl sh_8 (mX2_emit (-x2) _ _ h) ⟨show 0 + 1 ≤ F + 30 by omega, show 8 + (2 + 11) + (0) ≤ Lo + 900 by omega⟩ ⟨Nat.le_refl _, Nat.le_refl _⟩ rfl hl.1 rfl (Nat.le_of_ble_eq_true rfl) dX0_sum_147) rfl rfl (fun σ3 H locs h g => ?_)
    refine lv_iconst (v := 1) C.1 C.2.1 dX0_sum_150 (by decide) ?_
    exact gx_zret C hr g dX0_sum_151 (by decide) h
set_option maxHeartbeats 4000000 in
set_option maxRecDepth 100000 in
theorem tX0_sum_131 {p : Program} {l : Launch} {e : Env} {s : State} {m : MethodId} {args : Array Value} {below : List Frame} {meth : Method} {c : Code} {E : EE} {base : Nat} (C : Cx p E base s m args meth c cX0_sum 5 RX0) (hr : meth.sig.returnType = (some .boolean)) {Q : Int32 → St → Prop} {S : Int32 → St → (Int32 → St → Prop) → Prop} {F Lo : Nat} (hS : ∀ (x1 : Int32) (σ : St) (Q : Int32 → St → Prop), S x1 σ Q → Met l yX0_sum (wy yX0_sum cX0_sum 5 (some .boolean)) ({ frames := F, cells := 0, slots := 0, locals := Lo }) (va_Pc [.ref (ga E 5), .int x1] (fun U => SW E base σ U)) (QI E base Q) 0 0 (fun q => base ≤ q)) {K41 : Int32 → Int32 → Int32 → St → Prop} (hK41 : ∀ (x1 : Int32) (x2 : Int32) (x3 : Int32) (σ : St) (H : Heap) (locs : List Loc) (ls : Array Slot), lv_has ls 5 [(0, .ref (ga E 5)), (1, .int x1), (2, .int x2), (3, .int x3)] → GW E base s σ H locs → K41 x1 x2 x3 σ → W p l e ({ frames := F + 30, cells := 0, slots := 0, locals := Lo + 900 } : Room) s m args below meth c H locs 0 0 (MQ below (QI E base Q) args s 0 0 (fun q => base ≤ q)) (F0 m 41 ls [])) : ∀ (x1 : Int32) (x2 : Int32) (x3 : Int32) (σ : St) (H : Heap) (locs : List Loc) (ls : Array Slot), lv_has ls 5 [(0, .ref (ga E 5)), (1, .int x1), (2, .int x2), (3, .int x3)] → GW E base s σ H locs → wX0_sum_131 S Q K41 x1 x2 x3 σ → W p l e ({ frames := F + 30, cells := 0, slots := 0, locals := Lo + 900 } : Room) s m args below meth c H locs 0 0 (MQ below (QI E base Q) args s 0 0 (fun q => base ≤ q)) (F0 m 131 ls []) := by
  intro x1 x2 x3 σ H locs ls hl g h
  obtain ⟨x3_1, ex3_1⟩ : ∃ y : Int32, y = x3 + 1 := ⟨_, rfl⟩
  have h := h x3_1 ex3_1
  refine lv_iinc (v := x3_1) (lv' := [(3, .int x3_1), (0, .ref (ga E 5)), (1, .int x1), (2, .int x2)]) C.1 C.2.1 dX0_sum_131 hl (k := 3) rfl (by rw [ex3_1]; rfl) (by decide) rfl (fun ls hl => ?_)
  refine lv_goto (tgt := 41) C.1 C.2.1 dX0_sum_134 (by decide) ?_
  exact hK41 x1 x2 x3_1 _ _ _ _ (lv_sub hl [1, 2, 3, 0] rfl) g h
set_option maxHeartbeats 4000000 in
set_option maxRecDepth 100000 in
theorem tX0_sum_95 {p : Program} {l : Launch} {e : Env} {s : State} {m : MethodId} {args : Array Value} {below : List Frame} {meth : Method} {c : Code} {E : EE} {base : Nat} (C : Cx p E base s m args meth c cX0_sum 5 RX0) (hr : meth.sig.returnType = (some .boolean)) {Q : Int32 → St → Prop} {S : Int32 → St → (Int32 → St → Prop) → Prop} {F Lo : Nat} (hS : ∀ (x1 : Int32) (σ : St) (Q : Int32 → St → Prop), S x1 σ Q → Met l yX0_sum (wy yX0_sum cX0_sum 5 (some .boolean)) ({ frames := F, cells := 0, slots := 0, locals := Lo }) (va_Pc [.ref (ga E 5), .int x1] (fun U => SW E base σ U)) (QI E base Q) 0 0 (fun q => base ≤ q)) {K41 : Int32 → Int32 → Int32 → St → Prop} (hK41 : ∀ (x1 : Int32) (x2 : Int32) (x3 : Int32) (σ : St) (H : Heap) (locs : List Loc) (ls : Array Slot), lv_has ls 5 [(0, .ref (ga E 5)), (1, .int x1), (2, .int x2), (3, .int x3)] → GW E base s σ H locs → K41 x1 x2 x3 σ → W p l e ({ frames := F + 30, cells := 0, slots := 0, locals := Lo + 900 } : Room) s m args below meth c H locs 0 0 (MQ below (QI E base Q) args s 0 0 (fun q => base ≤ q)) (F0 m 41 ls [])) : ∀ (x1 : Int32) (x2 : Int32) (x3 : Int32) (x4 : Int32) (σ : St) (H : Heap) (locs : List Loc) (ls : Array Slot), lv_has ls 5 [(0, .ref (ga E 5)), (1, .int x1), (2, .int x2), (3, .int x3), (4, .int x4)] → GW E base s σ H locs → wX0_sum_95 S Q K41 x1 x2 x3 x4 σ → W p l e ({ frames := F + 30, cells := 0, slots := 0, locals := Lo + 900 } : Room) s m args below meth c H locs 0 0 (MQ below (QI E base Q) args s 0 0 (fun q => base ≤ q)) (F0 m 95 ls []) := by
  intro x1 x2 x3 x4 σ H locs ls hl g h
  refine lv_aload_n C.1 C.2.1 dX0_sum_95 rfl (lv_at hl 0 rfl) ?_
  refine lv_iload C.1 C.2.1 dX0_sum_96 (lv_at hl 4 rfl) ?_
  refine gx_calli0 g (gx_runV (k := 5) (rest := []) C g mb_X0_take ml_X0_76 rfl sh_5 (mX0_take x4 _ _ h) ⟨show 0 + 1 ≤ F + 30 by omega, show 8 + (2 + 11) + (0) ≤ Lo + 900 by omega⟩ ⟨Nat.le_refl _, Nat.le_refl _⟩ rfl hl.1 rfl (Nat.le_of_ble_eq_true rfl) dX0_sum_98) rfl rfl (fun r1 σ2 H locs h g => ?_)
  refine lv_if_eq (tgt := 112) C.1 C.2.1 dX0_sum_101 (by decide) (fun c3 => ?_) (fun c3 => ?_)
  · have h := h.1 c3
    refine lv_iconst (v := 0) C.1 C.2.1 dX0_sum_112 (by decide) ?_
    exact gx_zret C hr g dX0_sum_113 (by decide) h
  · have h := h.2 c3
    refine lv_aload_n C.1 C.2.1 dX0_sum_104 rfl (lv_at hl 0 rfl) ?_
    refine lv_iload_n C.1 C.2.1 dX0_sum_105 rfl (lv_at hl 1 rfl) ?_
    refine gx_calli0 g (gx_runV (k := 5) (rest := []) C g mb_X0_unit ml_X0_139 rfl sh_5 (mX0_unit hS x1 _ _ h) ⟨show (F + 10) + 1 ≤ F + 30 by omega, show 8 + (3 + 11) + ((Lo + 300)) ≤ Lo + 900 by omega⟩ ⟨Nat.le_refl _, Nat.le_refl _⟩ rfl hl.1 rfl (Nat.le_of_ble_eq_true rfl) dX0_sum_106) rfl rfl (fun r4 σ5 H locs h g => ?_)
    refine lv_if_ne (tgt := 114) C.1 C.2.1 dX0_sum_109 (by decide) (fun c6 => ?_) (fun c6 => ?_)
    · have h := h.2 c6
      refine lv_iload C.1 C.2.1 dX0_sum_114 (lv_at hl 4 rfl) ?_
      refine lv_bipush (v := 10) C.1 C.2.1 dX0_sum_116 (by decide) ?_
      refine lv_icmp_ne (tgt := 131) C.1 C.2.1 dX0_sum_118 (by decide) (fun c7 => ?_) (fun c7 => ?_)
      · have h := h.2 c7
        exact tX0_sum_131 C hr hS hK41 x1 x2 x3 _ _ _ _ (lv_sub hl [0, 1, 2, 3] rfl) g h
      · have h := h.1 c7
        refine lv_aload_n C.1 C.2.1 dX0_sum_121 rfl (lv_at hl 0 rfl) ?_
        refine gx_getR C g fl_X0_21 dX0_sum_122 sh_5 rfl (by decide) ?_
        refine lv_iload C.1 C.2.1 dX0_sum_125 (lv_at hl 4 rfl) ?_
        refine lv_ineg C.1 C.2.1 dX0_sum_127 ?_
        refine gx_callv0 g (gx_runV (k := 8) (rest := []) C g mb_X2_emit ml_X0_135 rfl sh_8 (mX2_emit (-x4) _ _ h) ⟨show 0 + 1 ≤ F + 30 by omega, show 8 + (2 + 11) + (0) ≤ Lo + 900 by omega⟩ ⟨Nat.le_refl _, Nat.le_refl _⟩ rfl hl.1 rfl (Nat.le_of_ble_eq_true rfl) dX0_sum_128) rfl rfl (fun σ9 H locs h g => ?_)
        exact tX0_sum_131 C hr hS hK41 x1 x2 x3 _ _ _ _ (lv_sub hl [0, 1, 2, 3] rfl) g h
    · have h := h.1 c6
      refine lv_iconst (v := 0) C.1 C.2.1 dX0_sum_112 (by decide) ?_
      exact gx_zret C hr g dX0_sum_113 (by decide) h
set_option maxHeartbeats 4000000 in
set_option maxRecDepth 100000 in
theorem tX0_sum_92 {p : Program} {l : Launch} {e : Env} {s : State} {m : MethodId} {args : Array Value} {below : List Frame} {meth : Method} {c : Code} {E : EE} {base : Nat} (C : Cx p E base s m args meth c cX0_sum 5 RX0) (hr : meth.sig.returnType = (some .boolean)) {Q : Int32 → St → Prop} {S : Int32 → St → (Int32 → St → Prop) → Prop} {F Lo : Nat} (hS : ∀ (x1 : Int32) (σ : St) (Q : Int32 → St → Prop), S x1 σ Q → Met l yX0_sum (wy yX0_sum cX0_sum 5 (some .boolean)) ({ frames := F, cells := 0, slots := 0, locals := Lo }) (va_Pc [.ref (ga E 5), .int x1] (fun U => SW E base σ U)) (QI E base Q) 0 0 (fun q => base ≤ q)) {K41 : Int32 → Int32 → Int32 → St → Prop} (hK41 : ∀ (x1 : Int32) (x2 : Int32) (x3 : Int32) (σ : St) (H : Heap) (locs : List Loc) (ls : Array Slot), lv_has ls 5 [(0, .ref (ga E 5)), (1, .int x1), (2, .int x2), (3, .int x3)] → GW E base s σ H locs → K41 x1 x2 x3 σ → W p l e ({ frames := F + 30, cells := 0, slots := 0, locals := Lo + 900 } : Room) s m args below meth c H locs 0 0 (MQ below (QI E base Q) args s 0 0 (fun q => base ≤ q)) (F0 m 41 ls [])) : ∀ (x1 : Int32) (x3 : Int32) (x4 : Int32) (σ : St) (H : Heap) (locs : List Loc) (ls : Array Slot), lv_has ls 5 [(0, .ref (ga E 5)), (1, .int x1), (3, .int x3), (4, .int x4)] → GW E base s σ H locs → wX0_sum_92 S Q K41 x1 x3 x4 σ → W p l e ({ frames := F + 30, cells := 0, slots := 0, locals := Lo + 900 } : Room) s m args below meth c H locs 0 0 (MQ below (QI E base Q) args s 0 0 (fun q => base ≤ q)) (F0 m 92 ls []) := by
  intro x1 x3 x4 σ H locs ls hl g h
  refine lv_iload C.1 C.2.1 dX0_sum_92 (lv_at hl 3 rfl) ?_
  refine lv_istore_n (lv' := [(2, .int x4), (0, .ref (ga E 5)), (1, .int x1), (3, .int x3), (4, .int x4)]) C.1 C.2.1 dX0_sum_94 rfl hl (by decide) rfl (fun ls hl => ?_)
  exact tX0_sum_95 C hr hS hK41 x1 x4 x3 x4 _ _ _ _ (lv_sub hl [1, 2, 0, 3, 4] rfl) g h
set_option maxHeartbeats 4000000 in
set_option maxRecDepth 100000 in
theorem tX0_sum_41 {p : Program} {l : Launch} {e : Env} {s : State} {m : MethodId} {args : Array Value} {below : List Frame} {meth : Method} {c : Code} {E : EE} {base : Nat} (C : Cx p E base s m args meth c cX0_sum 5 RX0) (hr : meth.sig.returnType = (some .boolean)) {Q : Int32 → St → Prop} {S : Int32 → St → (Int32 → St → Prop) → Prop} {F Lo : Nat} (hS : ∀ (x1 : Int32) (σ : St) (Q : Int32 → St → Prop), S x1 σ Q → Met l yX0_sum (wy yX0_sum cX0_sum 5 (some .boolean)) ({ frames := F, cells := 0, slots := 0, locals := Lo }) (va_Pc [.ref (ga E 5), .int x1] (fun U => SW E base σ U)) (QI E base Q) 0 0 (fun q => base ≤ q)) : ∀ (n : Nat) (x1 : Int32) (x2 : Int32) (x3 : Int32) (σ : St) (H : Heap) (locs : List Loc) (ls : Array Slot), lv_has ls 5 [(0, .ref (ga E 5)), (1, .int x1), (2, .int x2), (3, .int x3)] → GW E base s σ H locs → wX0_sum_41 S Q n x1 x2 x3 σ → W p l e ({ frames := F + 30, cells := 0, slots := 0, locals := Lo + 900 } : Room) s m args below meth c H locs 0 0 (MQ below (QI E base Q) args s 0 0 (fun q => base ≤ q)) (F0 m 41 ls []) := by
  intro n
  induction n with
  | zero => intro _ _ _; intros; exact False.elim (by assumption)
  | succ n ih =>
    intro x1 x2 x3 σ H locs ls hl g h
    refine lv_iload_n C.1 C.2.1 dX0_sum_41 rfl (lv_at hl 3 rfl) ?_
    refine lv_sipush (v := 600) C.1 C.2.1 dX0_sum_42 (by decide) ?_
    refine lv_icmp_ge (tgt := 137) C.1 C.2.1 dX0_sum_45 (by decide) (fun c1 => ?_) (fun c1 => ?_)
    · have h := h.1 c1
      exact tX0_sum_137 C hr hS x2 _ _ _ _ (lv_sub hl [0, 2] rfl) g h
    · have h := h.2 c1
      refine lv_aload_n C.1 C.2.1 dX0_sum_48 rfl (lv_at hl 0 rfl) ?_
      refine gx_calli0 g (gx_runV (k := 5) (rest := []) C g mb_X0_kind ml_X0_65 rfl sh_5 (mX0_kind _ _ h) ⟨show 0 + 1 ≤ F + 30 by omega, show 8 + (1 + 11) + (0) ≤ Lo + 900 by omega⟩ ⟨Nat.le_refl _, Nat.le_refl _⟩ rfl hl.1 rfl (Nat.le_of_ble_eq_true rfl) dX0_sum_49) rfl rfl (fun r2 σ3 H locs h g => ?_)
      refine lv_bipush (v := 8) C.1 C.2.1 dX0_sum_52 (by decide) ?_
      refine lv_icmp_lt (tgt := 137) C.1 C.2.1 dX0_sum_54 (by decide) (fun c4 => ?_) (fun c4 => ?_)
      · have h := h.1 c4
        exact tX0_sum_137 C hr hS x2 _ _ _ _ (lv_sub hl [0, 2] rfl) g h
      · have h := h.2 c4
        refine lv_aload_n C.1 C.2.1 dX0_sum_57 rfl (lv_at hl 0 rfl) ?_
        refine gx_calli0 g (gx_runV (k := 5) (rest := []) C g mb_X0_kind ml_X0_65 rfl sh_5 (mX0_kind _ _ h) ⟨show 0 + 1 ≤ F + 30 by omega, show 8 + (1 + 11) + (0) ≤ Lo + 900 by omega⟩ ⟨Nat.le_refl _, Nat.le_refl _⟩ rfl hl.1 rfl (Nat.le_of_ble_eq_true rfl) dX0_sum_58) rfl rfl (fun r5 σ6 H locs h g => ?_)
        refine lv_bipush (v := 10) C.1 C.2.1 dX0_sum_61 (by decide) ?_
        refine lv_icmp_gt (tgt := 137) C.1 C.2.1 dX0_sum_63 (by decide) (fun c7 => ?_) (fun c7 => ?_)
        · have h := h.1 c7
          exact tX0_sum_137 C hr hS x2 _ _ _ _ (lv_sub hl [0, 2] rfl) g h
        · have h := h.2 c7
          refine lv_aload_n C.1 C.2.1 dX0_sum_66 rfl (lv_at hl 0 rfl) ?_
          refine gx_calli0 g (gx_runV (k := 5) (rest := []) C g mb_X0_kind ml_X0_65 rfl sh_5 (mX0_kind _ _ h) ⟨show 0 + 1 ≤ F + 30 by omega, show 8 + (1 + 11) + (0) ≤ Lo + 900 by omega⟩ ⟨Nat.le_refl _, Nat.le_refl _⟩ rfl hl.1 rfl (Nat.le_of_ble_eq_true rfl) dX0_sum_67) rfl rfl (fun r8 σ9 H locs h g => ?_)
          refine lv_istore (lv' := [(4, .int r8), (0, .ref (ga E 5)), (1, .int x1), (2, .int x2), (3, .int x3)]) C.1 C.2.1 dX0_sum_70 hl (by decide) rfl (fun ls hl => ?_)
          refine lv_iload C.1 C.2.1 dX0_sum_72 (lv_at hl 0 rfl) ?_
          refine lv_bipush (v := 10) C.1 C.2.1 dX0_sum_74 (by decide) ?_
          refine lv_icmp_eq (tgt := 95) C.1 C.2.1 dX0_sum_76 (by decide) (fun c10 => ?_) (fun c10 => ?_)
          · have h := h.1 c10
            exact tX0_sum_95 C hr hS ih x1 x2 x3 r8 _ _ _ _ (lv_sub hl [1, 2, 3, 4, 0] rfl) g h
          · have h := h.2 c10
            refine lv_iload_n C.1 C.2.1 dX0_sum_79 rfl (lv_at hl 3 rfl) ?_
            refine lv_if_eq (tgt := 92) C.1 C.2.1 dX0_sum_80 (by decide) (fun c11 => ?_) (fun c11 => ?_)
            · have h := h.1 c11
              exact tX0_sum_92 C hr hS ih x1 x3 r8 _ _ _ _ (lv_sub hl [1, 2, 4, 0] rfl) g h
            · have h := h.2 c11
              refine lv_aload_n C.1 C.2.1 dX0_sum_83 rfl (lv_at hl 1 rfl) ?_
              refine gx_getR C g fl_X0_21 dX0_sum_84 sh_5 rfl (by decide) ?_
              refine lv_iload_n C.1 C.2.1 dX0_sum_87 rfl (lv_at hl 3 rfl) ?_
              refine lv_ineg C.1 C.2.1 dX0_sum_88 ?_
              refine gx_callv0 g (gx_runV (k := 8) (rest := []) C g mb_X2_emit ml_X0_135 rfl sh_8 (mX2_emit (-x2) _ _ h) ⟨show 0 + 1 ≤ F + 30 by omega, show 8 + (2 + 11) + (0) ≤ Lo + 900 by omega⟩ ⟨Nat.le_refl _, Nat.le_refl _⟩ rfl hl.1 rfl (Nat.le_of_ble_eq_true rfl) dX0_sum_89) rfl rfl (fun σ13 H locs h g => ?_)
              exact tX0_sum_92 C hr hS ih x1 x3 r8 _ _ _ _ (lv_sub hl [1, 2, 4, 0] rfl) g h
set_option maxHeartbeats 4000000 in
set_option maxRecDepth 100000 in
theorem tX0_sum_29 {p : Program} {l : Launch} {e : Env} {s : State} {m : MethodId} {args : Array Value} {below : List Frame} {meth : Method} {c : Code} {E : EE} {base : Nat} (C : Cx p E base s m args meth c cX0_sum 5 RX0) (hr : meth.sig.returnType = (some .boolean)) {Q : Int32 → St → Prop} {S : Int32 → St → (Int32 → St → Prop) → Prop} {F Lo : Nat} (hS : ∀ (x1 : Int32) (σ : St) (Q : Int32 → St → Prop), S x1 σ Q → Met l yX0_sum (wy yX0_sum cX0_sum 5 (some .boolean)) ({ frames := F, cells := 0, slots := 0, locals := Lo }) (va_Pc [.ref (ga E 5), .int x1] (fun U => SW E base σ U)) (QI E base Q) 0 0 (fun q => base ≤ q)) : ∀ (x1 : Int32) (x2 : Int32) (σ : St) (H : Heap) (locs : List Loc) (ls : Array Slot), lv_has ls 5 [(0, .ref (ga E 5)), (1, .int x1), (2, .int x2)] → GW E base s σ H locs → wX0_sum_29 S Q x1 x2 σ → W p l e ({ frames := F + 30, cells := 0, slots := 0, locals := Lo + 900 } : Room) s m args below meth c H locs 0 0 (MQ below (QI E base Q) args s 0 0 (fun q => base ≤ q)) (F0 m 29 ls []) := by
  intro x1 x2 σ H locs ls hl g h
  refine lv_aload_n C.1 C.2.1 dX0_sum_29 rfl (lv_at hl 0 rfl) ?_
  refine lv_iload_n C.1 C.2.1 dX0_sum_30 rfl (lv_at hl 1 rfl) ?_
  refine gx_calli0 g (gx_runV (k := 5) (rest := []) C g mb_X0_unit ml_X0_139 rfl sh_5 (mX0_unit hS x1 _ _ h) ⟨show (F + 10) + 1 ≤ F + 30 by omega, show 8 + (3 + 11) + ((Lo + 300)) ≤ Lo + 900 by omega⟩ ⟨Nat.le_refl _, Nat.le_refl _⟩ rfl hl.1 rfl (Nat.le_of_ble_eq_true rfl) dX0_sum_31) rfl rfl (fun r1 σ2 H locs h g => ?_)
  refine lv_if_ne (tgt := 39) C.1 C.2.1 dX0_sum_34 (by decide) (fun c3 => ?_) (fun c3 => ?_)
  · have h := h.2 c3
    refine lv_iconst (v := 0) C.1 C.2.1 dX0_sum_39 (by decide) ?_
    refine lv_istore_n (lv' := [(3, .int (0 : Int32)), (0, .ref (ga E 5)), (1, .int x1), (2, .int x2)]) C.1 C.2.1 dX0_sum_40 rfl hl (by decide) rfl (fun ls hl => ?_)
    obtain ⟨j, h⟩ := h
    exact tX0_sum_41 C hr hS j x1 x2 (0 : Int32) _ _ _ _ (lv_sub hl [1, 2, 3, 0] rfl) g h
  · have h := h.1 c3
    refine lv_iconst (v := 0) C.1 C.2.1 dX0_sum_37 (by decide) ?_
    exact gx_zret C hr g dX0_sum_38 (by decide) h
set_option maxHeartbeats 4000000 in
set_option maxRecDepth 100000 in
theorem tX0_sum_15 {p : Program} {l : Launch} {e : Env} {s : State} {m : MethodId} {args : Array Value} {below : List Frame} {meth : Method} {c : Code} {E : EE} {base : Nat} (C : Cx p E base s m args meth c cX0_sum 5 RX0) (hr : meth.sig.returnType = (some .boolean)) {Q : Int32 → St → Prop} {S : Int32 → St → (Int32 → St → Prop) → Prop} {F Lo : Nat} (hS : ∀ (x1 : Int32) (σ : St) (Q : Int32 → St → Prop), S x1 σ Q → Met l yX0_sum (wy yX0_sum cX0_sum 5 (some .boolean)) ({ frames := F, cells := 0, slots := 0, locals := Lo }) (va_Pc [.ref (ga E 5), .int x1] (fun U => SW E base σ U)) (QI E base Q) 0 0 (fun q => base ≤ q)) : ∀ (x1 : Int32) (xt0 : Int32) (σ : St) (H : Heap) (locs : List Loc) (ls : Array Slot), lv_has ls 5 [(0, .ref (ga E 5)), (1, .int x1)] → GW E base s σ H locs → wX0_sum_15 S Q x1 xt0 σ → W p l e ({ frames := F + 30, cells := 0, slots := 0, locals := Lo + 900 } : Room) s m args below meth c H locs 0 0 (MQ below (QI E base Q) args s 0 0 (fun q => base ≤ q)) (F0 m 15 ls [.int xt0]) := by
  intro x1 xt0 σ H locs ls hl g h
  refine lv_istore_n (lv' := [(2, .int xt0), (0, .ref (ga E 5)), (1, .int x1)]) C.1 C.2.1 dX0_sum_15 rfl hl (by decide) rfl (fun ls hl => ?_)
  refine lv_iload_n C.1 C.2.1 dX0_sum_16 rfl (lv_at hl 0 rfl) ?_
  refine lv_if_eq (tgt := 29) C.1 C.2.1 dX0_sum_17 (by decide) (fun c1 => ?_) (fun c1 => ?_)
  · have h := h.1 c1
    exact tX0_sum_29 C hr hS x1 xt0 _ _ _ _ (lv_sub hl [1, 2, 0] rfl) g h
  · have h := h.2 c1
    refine lv_aload_n C.1 C.2.1 dX0_sum_20 rfl (lv_at hl 1 rfl) ?_
    refine lv_bipush (v := 9) C.1 C.2.1 dX0_sum_21 (by decide) ?_
    refine gx_calli0 g (gx_runV (k := 5) (rest := []) C g mb_X0_take ml_X0_76 rfl sh_5 (mX0_take (9 : Int32) _ _ h) ⟨show 0 + 1 ≤ F + 30 by omega, show 8 + (2 + 11) + (0) ≤ Lo + 900 by omega⟩ ⟨Nat.le_refl _, Nat.le_refl _⟩ rfl hl.1 rfl (Nat.le_of_ble_eq_true rfl) dX0_sum_23) rfl rfl (fun r2 σ3 H locs h g => ?_)
    refine lv_if_eq (tgt := 37) C.1 C.2.1 dX0_sum_26 (by decide) (fun c4 => ?_) (fun c4 => ?_)
    · have h := h.1 c4
      refine lv_iconst (v := 0) C.1 C.2.1 dX0_sum_37 (by decide) ?_
      exact gx_zret C hr g dX0_sum_38 (by decide) h
    · have h := h.2 c4
      exact tX0_sum_29 C hr hS x1 xt0 _ _ _ _ (lv_sub hl [1, 2, 0] rfl) g h
set_option maxHeartbeats 4000000 in
set_option maxRecDepth 100000 in
theorem tX0_sum_e {p : Program} {l : Launch} {e : Env} {s : State} {m : MethodId} {args : Array Value} {below : List Frame} {meth : Method} {c : Code} {E : EE} {base : Nat} (C : Cx p E base s m args meth c cX0_sum 5 RX0) (hr : meth.sig.returnType = (some .boolean)) {Q : Int32 → St → Prop} {S : Int32 → St → (Int32 → St → Prop) → Prop} {F Lo : Nat} (hS : ∀ (x1 : Int32) (σ : St) (Q : Int32 → St → Prop), S x1 σ Q → Met l yX0_sum (wy yX0_sum cX0_sum 5 (some .boolean)) ({ frames := F, cells := 0, slots := 0, locals := Lo }) (va_Pc [.ref (ga E 5), .int x1] (fun U => SW E base σ U)) (QI E base Q) 0 0 (fun q => base ≤ q)) : ∀ (x1 : Int32) (σ : St) (H : Heap) (locs : List Loc) (ls : Array Slot), lv_has ls 5 [(0, .ref (ga E 5)), (1, .int x1)] → GW E base s σ H locs → wX0_sum S x1 σ Q → W p l e ({ frames := F + 30, cells := 0, slots := 0, locals := Lo + 900 } : Room) s m args below meth c H locs 0 0 (MQ below (QI E base Q) args s 0 0 (fun q => base ≤ q)) (F0 m 0 ls []) := by
  intro x1 σ H locs ls hl g h
  refine lv_aload_n C.1 C.2.1 dX0_sum_0 rfl (lv_at hl 0 rfl) ?_
  refine gx_calli0 g (gx_runV (k := 5) (rest := []) C g mb_X0_kind ml_X0_65 rfl sh_5 (mX0_kind _ _ h) ⟨show 0 + 1 ≤ F + 30 by omega, show 8 + (1 + 11) + (0) ≤ Lo + 900 by omega⟩ ⟨Nat.le_refl _, Nat.le_refl _⟩ rfl hl.1 rfl (Nat.le_of_ble_eq_true rfl) dX0_sum_1) rfl rfl (fun r1 σ2 H locs h g => ?_)
  refine lv_bipush (v := 9) C.1 C.2.1 dX0_sum_4 (by decide) ?_
  refine lv_icmp_ne (tgt := 14) C.1 C.2.1 dX0_sum_6 (by decide) (fun c3 => ?_) (fun c3 => ?_)
  · have h := h.2 c3
    refine lv_iconst (v := 0) C.1 C.2.1 dX0_sum_14 (by decide) ?_
    exact tX0_sum_15 C hr hS x1 (0 : Int32) _ _ _ _ (lv_sub hl [0, 1] rfl) g h
  · have h := h.1 c3
    refine lv_bipush (v := 15) C.1 C.2.1 dX0_sum_9 (by decide) ?_
    refine lv_goto (tgt := 15) C.1 C.2.1 dX0_sum_11 (by decide) ?_
    exact tX0_sum_15 C hr hS x1 (15 : Int32) _ _ _ _ (lv_sub hl [0, 1] rfl) g h
theorem mX0_sum {l : Launch} {E : EE} {base : Nat} {S : Int32 → St → (Int32 → St → Prop) → Prop} {F Lo : Nat} (hS : ∀ (x1 : Int32) (σ : St) (Q : Int32 → St → Prop), S x1 σ Q → Met l yX0_sum (wy yX0_sum cX0_sum 5 (some .boolean)) ({ frames := F, cells := 0, slots := 0, locals := Lo }) (va_Pc [.ref (ga E 5), .int x1] (fun U => SW E base σ U)) (QI E base Q) 0 0 (fun q => base ≤ q)) (x1 : Int32) (σ : St) (Q : Int32 → St → Prop) (h : wX0_sum S x1 σ Q) : Met l yX0_sum (wy yX0_sum cX0_sum 5 (some .boolean)) ({ frames := F + 30, cells := 0, slots := 0, locals := Lo + 900 } : Room) (va_Pc [.ref (ga E 5), .int x1] (fun U => SW E base σ U)) (QI E base Q) (({ frames := F + 30, cells := 0, slots := 0, locals := Lo + 900 } : Room)).cells (({ frames := F + 30, cells := 0, slots := 0, locals := Lo + 900 } : Room)).slots (fun q => base ≤ q) :=
  met_of (by decide) (Nat.le_of_ble_eq_true rfl) (fun p e s m args below meth c C hr g ls hl => tX0_sum_e C hr hS x1 _ _ _ _ hl g h)
def wX0_sumN : Nat → Int32 → St → (Int32 → St → Prop) → Prop
  | 0 => fun _ _ _ => False
  | d + 1 => wX0_sum (wX0_sumN d)
theorem mX0_sumN {l : Launch} {E : EE} {base : Nat} : ∀ (d : Nat) (x1 : Int32) (σ : St) (Q : Int32 → St → Prop) (h : wX0_sumN d x1 σ Q), Met l yX0_sum (wy yX0_sum cX0_sum 5 (some .boolean)) ({ frames := 30 * d, cells := 0, slots := 0, locals := 900 * d } : Room) (va_Pc [.ref (ga E 5), .int x1] (fun U => SW E base σ U)) (QI E base Q) 0 0 (fun q => base ≤ q) := by
  intro d
  induction d with
  | zero => intro _ _ _ h; exact False.elim h
  | succ d ih => intro x1 σ Q h; exact mX0_sum ih x1 σ Q h
abbrev rmX0_relation : Room := { frames := 301, cells := 0, slots := 0, locals := 9024 }
def wX0_relation (σ : St) (Q : Int32 → St → Prop) : Prop := wX0_sumN 10 (0 : Int32) σ (fun (r1 : Int32) (σ2 : St) => ((r1 = 0 → Q (0 : Int32) σ2) ∧ (¬ (r1 = 0) → wX0_kind σ2 (fun (r4 : Int32) (σ5 : St) => ((r4 < (11 : Int32) → Q (0 : Int32) σ5) ∧ (¬ (r4 < (11 : Int32)) → (((14 : Int32) < r4 → Q (0 : Int32) σ5) ∧ (¬ ((14 : Int32) < r4) → wX0_take r4 σ5 (fun (r8 : Int32) (σ9 : St) => ((r8 = 0 → Q (0 : Int32) σ9) ∧ (¬ (r8 = 0) → wX0_sumN 10 (0 : Int32) σ9 (fun (r11 : Int32) (σ12 : St) => ((r11 = 0 → Q (0 : Int32) σ12) ∧ (¬ (r11 = 0) → wX2_emit (-r4) σ12 (fun (σ15 : St) => Q (1 : Int32) σ15)))))))))))))))
set_option maxHeartbeats 4000000 in
set_option maxRecDepth 100000 in
theorem tX0_relation_e {p : Program} {l : Launch} {e : Env} {s : State} {m : MethodId} {args : Array Value} {below : List Frame} {meth : Method} {c : Code} {E : EE} {base : Nat} (C : Cx p E base s m args meth c cX0_relation 2 RX0) (hr : meth.sig.returnType = (some .boolean)) {Q : Int32 → St → Prop} : ∀ (σ : St) (H : Heap) (locs : List Loc) (ls : Array Slot), lv_has ls 2 [(0, .ref (ga E 5))] → GW E base s σ H locs → wX0_relation σ Q → W p l e rmX0_relation s m args below meth c H locs 0 0 (MQ below (QI E base Q) args s 0 0 (fun q => base ≤ q)) (F0 m 0 ls []) := by
  intro σ H locs ls hl g h
  refine lv_aload_n C.1 C.2.1 dX0_relation_0 rfl (lv_at hl 0 rfl) ?_
  refine lv_iconst (v := 0) C.1 C.2.1 dX0_relation_1 (by decide) ?_
  refine gx_calli0 g (gx_runV (k := 5) (rest := []) C g mb_X0_sum ml_X0_115 rfl sh_5 (mX0_sumN 10 (0 : Int32) _ _ h) ⟨Nat.le_of_ble_eq_true rfl, Nat.le_of_ble_eq_true rfl⟩ ⟨Nat.le_refl _, Nat.le_refl _⟩ rfl hl.1 rfl (Nat.le_of_ble_eq_true rfl) dX0_relation_2) rfl rfl (fun r1 σ2 H locs h g => ?_)
  refine lv_if_ne (tgt := 10) C.1 C.2.1 dX0_relation_5 (by decide) (fun c3 => ?_) (fun c3 => ?_)
  · have h := h.2 c3
    refine lv_aload_n C.1 C.2.1 dX0_relation_10 rfl (lv_at hl 0 rfl) ?_
    refine gx_calli0 g (gx_runV (k := 5) (rest := []) C g mb_X0_kind ml_X0_65 rfl sh_5 (mX0_kind _ _ h) ⟨Nat.le_of_ble_eq_true rfl, Nat.le_of_ble_eq_true rfl⟩ ⟨Nat.le_refl _, Nat.le_refl _⟩ rfl hl.1 rfl (Nat.le_of_ble_eq_true rfl) dX0_relation_11) rfl rfl (fun r4 σ5 H locs h g => ?_)
    refine lv_istore_n (lv' := [(1, .int r4), (0, .ref (ga E 5))]) C.1 C.2.1 dX0_relation_14 rfl hl (by decide) rfl (fun ls hl => ?_)
    refine lv_iload_n C.1 C.2.1 dX0_relation_15 rfl (lv_at hl 0 rfl) ?_
    refine lv_bipush (v := 11) C.1 C.2.1 dX0_relation_16 (by decide) ?_
    refine lv_icmp_lt (tgt := 43) C.1 C.2.1 dX0_relation_18 (by decide) (fun c6 => ?_) (fun c6 => ?_)
    · have h := h.1 c6
      refine lv_iconst (v := 0) C.1 C.2.1 dX0_relation_43 (by decide) ?_
      exact gx_zret C hr g dX0_relation_44 (by decide) h
    · have h := h.2 c6
      refine lv_iload_n C.1 C.2.1 dX0_relation_21 rfl (lv_at hl 0 rfl) ?_
      refine lv_bipush (v := 14) C.1 C.2.1 dX0_relation_22 (by decide) ?_
      refine lv_icmp_gt (tgt := 43) C.1 C.2.1 dX0_relation_24 (by decide) (fun c7 => ?_) (fun c7 => ?_)
      · have h := h.1 c7
        refine lv_iconst (v := 0) C.1 C.2.1 dX0_relation_43 (by decide) ?_
        exact gx_zret C hr g dX0_relation_44 (by decide) h
      · have h := h.2 c7
        refine lv_aload_n C.1 C.2.1 dX0_relation_27 rfl (lv_at hl 1 rfl) ?_
        refine lv_iload_n C.1 C.2.1 dX0_relation_28 rfl (lv_at hl 0 rfl) ?_
        refine gx_calli0 g (gx_runV (k := 5) (rest := []) C g mb_X0_take ml_X0_76 rfl sh_5 (mX0_take r4 _ _ h) ⟨Nat.le_of_ble_eq_true rfl, Nat.le_of_ble_eq_true rfl⟩ ⟨Nat.le_refl _, Nat.le_refl _⟩ rfl hl.1 rfl (Nat.le_of_ble_eq_true rfl) dX0_relation_29) rfl rfl (fun r8 σ9 H locs h g => ?_)
        refine lv_if_eq (tgt := 43) C.1 C.2.1 dX0_relation_32 (by decide) (fun c10 => ?_) (fun c10 => ?_)
        · have h := h.1 c10
          refine lv_iconst (v := 0) C.1 C.2.1 dX0_relation_43 (by decide) ?_
          exact gx_zret C hr g dX0_relation_44 (by decide) h
        · have h := h.2 c10
          refine lv_aload_n C.1 C.2.1 dX0_relation_35 rfl (lv_at hl 1 rfl) ?_
          refine lv_iconst (v := 0) C.1 C.2.1 dX0_relation_36 (by decide) ?_
          refine gx_calli0 g (gx_runV (k := 5) (rest := []) C g mb_X0_sum ml_X0_115 rfl sh_5 (mX0_sumN 10 (0 : Int32) _ _ h) ⟨Nat.le_of_ble_eq_true rfl, Nat.le_of_ble_eq_true rfl⟩ ⟨Nat.le_refl _, Nat.le_refl _⟩ rfl hl.1 rfl (Nat.le_of_ble_eq_true rfl) dX0_relation_37) rfl rfl (fun r11 σ12 H locs h g => ?_)
          refine lv_if_ne (tgt := 45) C.1 C.2.1 dX0_relation_40 (by decide) (fun c13 => ?_) (fun c13 => ?_)
          · have h := h.2 c13
            refine lv_aload_n C.1 C.2.1 dX0_relation_45 rfl (lv_at hl 1 rfl) ?_
            refine gx_getR C g fl_X0_21 dX0_relation_46 sh_5 rfl (by decide) ?_
            refine lv_iload_n C.1 C.2.1 dX0_relation_49 rfl (lv_at hl 0 rfl) ?_
            refine lv_ineg C.1 C.2.1 dX0_relation_50 ?_
            refine gx_callv0 g (gx_runV (k := 8) (rest := []) C g mb_X2_emit ml_X0_135 rfl sh_8 (mX2_emit (-r4) _ _ h) ⟨Nat.le_of_ble_eq_true rfl, Nat.le_of_ble_eq_true rfl⟩ ⟨Nat.le_refl _, Nat.le_refl _⟩ rfl hl.1 rfl (Nat.le_of_ble_eq_true rfl) dX0_relation_51) rfl rfl (fun σ15 H locs h g => ?_)
            refine lv_iconst (v := 1) C.1 C.2.1 dX0_relation_54 (by decide) ?_
            exact gx_zret C hr g dX0_relation_55 (by decide) h
          · have h := h.1 c13
            refine lv_iconst (v := 0) C.1 C.2.1 dX0_relation_43 (by decide) ?_
            exact gx_zret C hr g dX0_relation_44 (by decide) h
  · have h := h.1 c3
    refine lv_iconst (v := 0) C.1 C.2.1 dX0_relation_8 (by decide) ?_
    exact gx_zret C hr g dX0_relation_9 (by decide) h
theorem mX0_relation {l : Launch} {E : EE} {base : Nat} (σ : St) (Q : Int32 → St → Prop) (h : wX0_relation σ Q) : Met l yX0_relation (wy yX0_relation cX0_relation 2 (some .boolean)) rmX0_relation (va_Pc [.ref (ga E 5)] (fun U => SW E base σ U)) (QI E base Q) (rmX0_relation).cells (rmX0_relation).slots (fun q => base ≤ q) :=
  met_of (by decide) (Nat.le_of_ble_eq_true rfl) (fun p e s m args below meth c C hr g ls hl => tX0_relation_e C hr  _ _ _ _ hl g h)
abbrev rmX0_condition : Room := { frames := 302, cells := 0, slots := 0, locals := 9045 }
def wX0_condition_116 (Q : Int32 → St → Prop) (x1 : Int32) (σ : St) : Prop := ((x1 = 0 → Q (1 : Int32) σ) ∧ (¬ (x1 = 0) → wX2_emit (-25 : Int32) σ (fun (σ3 : St) => Q (1 : Int32) σ3)))
def wX0_condition_110 (Q : Int32 → St → Prop) (K13 : Int32 → Int32 → St → Prop) (x1 : Int32) (x2 : Int32) (σ : St) : Prop := ∀ x2_1 : Int32, x2_1 = x2 + 1 → K13 x1 x2_1 σ
def wX0_condition_77 (Q : Int32 → St → Prop) (K13 : Int32 → Int32 → St → Prop) (x2 : Int32) (x3 : Int32) (xt0 : Int32) (σ : St) : Prop := wX0_take x3 σ (fun (r1 : Int32) (σ2 : St) => ((r1 = 0 → Q (0 : Int32) σ2) ∧ (¬ (r1 = 0) → wX0_relation σ2 (fun (r4 : Int32) (σ5 : St) => ((r4 = 0 → Q (0 : Int32) σ5) ∧ (¬ (r4 = 0) → ((x3 = (26 : Int32) → wX2_emit (-26 : Int32) σ5 (fun (σ9 : St) => wX0_condition_110 Q K13 xt0 x2 σ9)) ∧ (¬ (x3 = (26 : Int32)) → wX0_condition_110 Q K13 xt0 x2 σ5))))))))
def wX0_condition_72 (Q : Int32 → St → Prop) (K13 : Int32 → Int32 → St → Prop) (x2 : Int32) (x3 : Int32) (σ : St) : Prop := wX0_condition_77 Q K13 x2 x3 (1 : Int32) σ
def wX0_condition_62 (Q : Int32 → St → Prop) (K13 : Int32 → Int32 → St → Prop) (x1 : Int32) (x2 : Int32) (x3 : Int32) (σ : St) : Prop := ((x1 = 0 → ((x3 = (25 : Int32) → wX0_condition_72 Q K13 x2 x3 σ) ∧ (¬ (x3 = (25 : Int32)) → wX0_condition_77 Q K13 x2 x3 (0 : Int32) σ))) ∧ (¬ (x1 = 0) → wX0_condition_72 Q K13 x2 x3 σ))
def wX0_condition_38 (Q : Int32 → St → Prop) (K13 : Int32 → Int32 → St → Prop) (x1 : Int32) (x2 : Int32) (σ : St) : Prop := wX0_kind σ (fun (r1 : Int32) (σ2 : St) => ((r1 = (25 : Int32) → ((x1 = 0 → wX0_condition_62 Q K13 x1 x2 r1 σ2) ∧ (¬ (x1 = 0) → wX2_emit (-25 : Int32) σ2 (fun (σ6 : St) => wX0_condition_62 Q K13 x1 x2 r1 σ6)))) ∧ (¬ (r1 = (25 : Int32)) → wX0_condition_62 Q K13 x1 x2 r1 σ2)))
def wX0_condition_13 (Q : Int32 → St → Prop) : Nat → Int32 → Int32 → St → Prop
  | 0, _, _, _ => False
  | n + 1, x1, x2, σ => (((600 : Int32) ≤ x2 → wX0_condition_116 Q x1 σ) ∧ (¬ ((600 : Int32) ≤ x2) → wX0_kind σ (fun (r2 : Int32) (σ3 : St) => ((r2 = (26 : Int32) → wX0_condition_38 Q (fun x1' x2' σ' => wX0_condition_13 Q n x1' x2' σ') x1 x2 σ3) ∧ (¬ (r2 = (26 : Int32)) → wX0_kind σ3 (fun (r5 : Int32) (σ6 : St) => ((r5 = (25 : Int32) → wX0_condition_38 Q (fun x1' x2' σ' => wX0_condition_13 Q n x1' x2' σ') x1 x2 σ6) ∧ (¬ (r5 = (25 : Int32)) → wX0_condition_116 Q x1 σ6))))))))
def wX0_condition (σ : St) (Q : Int32 → St → Prop) : Prop := wX0_relation σ (fun (r1 : Int32) (σ2 : St) => ((r1 = 0 → Q (0 : Int32) σ2) ∧ (¬ (r1 = 0) → ∃ j : Nat, wX0_condition_13 Q j (0 : Int32) (0 : Int32) σ2)))
set_option maxHeartbeats 4000000 in
set_option maxRecDepth 100000 in
theorem tX0_condition_116 {p : Program} {l : Launch} {e : Env} {s : State} {m : MethodId} {args : Array Value} {below : List Frame} {meth : Method} {c : Code} {E : EE} {base : Nat} (C : Cx p E base s m args meth c cX0_condition 4 RX0) (hr : meth.sig.returnType = (some .boolean)) {Q : Int32 → St → Prop} : ∀ (x1 : Int32) (σ : St) (H : Heap) (locs : List Loc) (ls : Array Slot), lv_has ls 4 [(0, .ref (ga E 5)), (1, .int x1)] → GW E base s σ H locs → wX0_condition_116 Q x1 σ → W p l e rmX0_condition s m args below meth c H locs 0 0 (MQ below (QI E base Q) args s 0 0 (fun q => base ≤ q)) (F0 m 116 ls []) := by
  intro x1 σ H locs ls hl g h
  refine lv_iload_n C.1 C.2.1 dX0_condition_116 rfl (lv_at hl 1 rfl) ?_
  refine lv_if_eq (tgt := 129) C.1 C.2.1 dX0_condition_117 (by decide) (fun c1 => ?_) (fun c1 => ?_)
  · have h := h.1 c1
    refine lv_iconst (v := 1) C.1 C.2.1 dX0_condition_129 (by decide) ?_
    exact gx_zret C hr g dX0_condition_130 (by decide) h
  · have h := h.2 c1
    refine lv_aload_n C.1 C.2.1 dX0_condition_120 rfl (lv_at hl 0 rfl) ?_
    refine gx_getR C g fl_X0_21 dX0_condition_121 sh_5 rfl (by decide) ?_
    refine lv_bipush (v := -25) C.1 C.2.1 dX0_condition_124 (by decide) ?_
    refine gx_callv0 g (gx_runV (k := 8) (rest := []) C g mb_X2_emit ml_X0_135 rfl sh_8 (mX2_emit (-25 : Int32) _ _ h) ⟨Nat.le_of_ble_eq_true rfl, Nat.le_of_ble_eq_true rfl⟩ ⟨Nat.le_refl _, Nat.le_refl _⟩ rfl hl.1 rfl (Nat.le_of_ble_eq_true rfl) dX0_condition_126) rfl rfl (fun σ3 H locs h g => ?_)
    refine lv_iconst (v := 1) C.1 C.2.1 dX0_condition_129 (by decide) ?_
    exact gx_zret C hr g dX0_condition_130 (by decide) h
set_option maxHeartbeats 4000000 in
set_option maxRecDepth 100000 in
theorem tX0_condition_110 {p : Program} {l : Launch} {e : Env} {s : State} {m : MethodId} {args : Array Value} {below : List Frame} {meth : Method} {c : Code} {E : EE} {base : Nat} (C : Cx p E base s m args meth c cX0_condition 4 RX0) (hr : meth.sig.returnType = (some .boolean)) {Q : Int32 → St → Prop} {K13 : Int32 → Int32 → St → Prop} (hK13 : ∀ (x1 : Int32) (x2 : Int32) (σ : St) (H : Heap) (locs : List Loc) (ls : Array Slot), lv_has ls 4 [(0, .ref (ga E 5)), (1, .int x1), (2, .int x2)] → GW E base s σ H locs → K13 x1 x2 σ → W p l e rmX0_condition s m args below meth c H locs 0 0 (MQ below (QI E base Q) args s 0 0 (fun q => base ≤ q)) (F0 m 13 ls [])) : ∀ (x1 : Int32) (x2 : Int32) (σ : St) (H : Heap) (locs : List Loc) (ls : Array Slot), lv_has ls 4 [(0, .ref (ga E 5)), (1, .int x1), (2, .int x2)] → GW E base s σ H locs → wX0_condition_110 Q K13 x1 x2 σ → W p l e rmX0_condition s m args below meth c H locs 0 0 (MQ below (QI E base Q) args s 0 0 (fun q => base ≤ q)) (F0 m 110 ls []) := by
  intro x1 x2 σ H locs ls hl g h
  obtain ⟨x2_1, ex2_1⟩ : ∃ y : Int32, y = x2 + 1 := ⟨_, rfl⟩
  have h := h x2_1 ex2_1
  refine lv_iinc (v := x2_1) (lv' := [(2, .int x2_1), (0, .ref (ga E 5)), (1, .int x1)]) C.1 C.2.1 dX0_condition_110 hl (k := 2) rfl (by rw [ex2_1]; rfl) (by decide) rfl (fun ls hl => ?_)
  refine lv_goto (tgt := 13) C.1 C.2.1 dX0_condition_113 (by decide) ?_
  exact hK13 x1 x2_1 _ _ _ _ (lv_sub hl [1, 2, 0] rfl) g h
set_option maxHeartbeats 4000000 in
set_option maxRecDepth 100000 in
theorem tX0_condition_77 {p : Program} {l : Launch} {e : Env} {s : State} {m : MethodId} {args : Array Value} {below : List Frame} {meth : Method} {c : Code} {E : EE} {base : Nat} (C : Cx p E base s m args meth c cX0_condition 4 RX0) (hr : meth.sig.returnType = (some .boolean)) {Q : Int32 → St → Prop} {K13 : Int32 → Int32 → St → Prop} (hK13 : ∀ (x1 : Int32) (x2 : Int32) (σ : St) (H : Heap) (locs : List Loc) (ls : Array Slot), lv_has ls 4 [(0, .ref (ga E 5)), (1, .int x1), (2, .int x2)] → GW E base s σ H locs → K13 x1 x2 σ → W p l e rmX0_condition s m args below meth c H locs 0 0 (MQ below (QI E base Q) args s 0 0 (fun q => base ≤ q)) (F0 m 13 ls [])) : ∀ (x2 : Int32) (x3 : Int32) (xt0 : Int32) (σ : St) (H : Heap) (locs : List Loc) (ls : Array Slot), lv_has ls 4 [(0, .ref (ga E 5)), (2, .int x2), (3, .int x3)] → GW E base s σ H locs → wX0_condition_77 Q K13 x2 x3 xt0 σ → W p l e rmX0_condition s m args below meth c H locs 0 0 (MQ below (QI E base Q) args s 0 0 (fun q => base ≤ q)) (F0 m 77 ls [.int xt0]) := by
  intro x2 x3 xt0 σ H locs ls hl g h
  refine lv_istore_n (lv' := [(1, .int xt0), (0, .ref (ga E 5)), (2, .int x2), (3, .int x3)]) C.1 C.2.1 dX0_condition_77 rfl hl (by decide) rfl (fun ls hl => ?_)
  refine lv_aload_n C.1 C.2.1 dX0_condition_78 rfl (lv_at hl 1 rfl) ?_
  refine lv_iload_n C.1 C.2.1 dX0_condition_79 rfl (lv_at hl 3 rfl) ?_
  refine gx_calli0 g (gx_runV (k := 5) (rest := []) C g mb_X0_take ml_X0_76 rfl sh_5 (mX0_take x3 _ _ h) ⟨Nat.le_of_ble_eq_true rfl, Nat.le_of_ble_eq_true rfl⟩ ⟨Nat.le_refl _, Nat.le_refl _⟩ rfl hl.1 rfl (Nat.le_of_ble_eq_true rfl) dX0_condition_80) rfl rfl (fun r1 σ2 H locs h g => ?_)
  refine lv_if_eq (tgt := 93) C.1 C.2.1 dX0_condition_83 (by decide) (fun c3 => ?_) (fun c3 => ?_)
  · have h := h.1 c3
    refine lv_iconst (v := 0) C.1 C.2.1 dX0_condition_93 (by decide) ?_
    exact gx_zret C hr g dX0_condition_94 (by decide) h
  · have h := h.2 c3
    refine lv_aload_n C.1 C.2.1 dX0_condition_86 rfl (lv_at hl 1 rfl) ?_
    refine gx_calli0 g (gx_runV (k := 5) (rest := []) C g mb_X0_relation ml_X0_132 rfl sh_5 (mX0_relation _ _ h) ⟨Nat.le_of_ble_eq_true rfl, Nat.le_of_ble_eq_true rfl⟩ ⟨Nat.le_refl _, Nat.le_refl _⟩ rfl hl.1 rfl (Nat.le_of_ble_eq_true rfl) dX0_condition_87) rfl rfl (fun r4 σ5 H locs h g => ?_)
    refine lv_if_ne (tgt := 95) C.1 C.2.1 dX0_condition_90 (by decide) (fun c6 => ?_) (fun c6 => ?_)
    · have h := h.2 c6
      refine lv_iload_n C.1 C.2.1 dX0_condition_95 rfl (lv_at hl 3 rfl) ?_
      refine lv_bipush (v := 26) C.1 C.2.1 dX0_condition_96 (by decide) ?_
      refine lv_icmp_ne (tgt := 110) C.1 C.2.1 dX0_condition_98 (by decide) (fun c7 => ?_) (fun c7 => ?_)
      · have h := h.2 c7
        exact tX0_condition_110 C hr hK13 xt0 x2 _ _ _ _ (lv_sub hl [1, 0, 2] rfl) g h
      · have h := h.1 c7
        refine lv_aload_n C.1 C.2.1 dX0_condition_101 rfl (lv_at hl 1 rfl) ?_
        refine gx_getR C g fl_X0_21 dX0_condition_102 sh_5 rfl (by decide) ?_
        refine lv_bipush (v := -26) C.1 C.2.1 dX0_condition_105 (by decide) ?_
        refine gx_callv0 g (gx_runV (k := 8) (rest := []) C g mb_X2_emit ml_X0_135 rfl sh_8 (mX2_emit (-26 : Int32) _ _ h) ⟨Nat.le_of_ble_eq_true rfl, Nat.le_of_ble_eq_true rfl⟩ ⟨Nat.le_refl _, Nat.le_refl _⟩ rfl hl.1 rfl (Nat.le_of_ble_eq_true rfl) dX0_condition_107) rfl rfl (fun σ9 H locs h g => ?_)
        exact tX0_condition_110 C hr hK13 xt0 x2 _ _ _ _ (lv_sub hl [1, 0, 2] rfl) g h
    · have h := h.1 c6
      refine lv_iconst (v := 0) C.1 C.2.1 dX0_condition_93 (by decide) ?_
      exact gx_zret C hr g dX0_condition_94 (by decide) h
set_option maxHeartbeats 4000000 in
set_option maxRecDepth 100000 in
theorem tX0_condition_72 {p : Program} {l : Launch} {e : Env} {s : State} {m : MethodId} {args : Array Value} {below : List Frame} {meth : Method} {c : Code} {E : EE} {base : Nat} (C : Cx p E base s m args meth c cX0_condition 4 RX0) (hr : meth.sig.returnType = (some .boolean)) {Q : Int32 → St → Prop} {K13 : Int32 → Int32 → St → Prop} (hK13 : ∀ (x1 : Int32) (x2 : Int32) (σ : St) (H : Heap) (locs : List Loc) (ls : Array Slot), lv_has ls 4 [(0, .ref (ga E 5)), (1, .int x1), (2, .int x2)] → GW E base s σ H locs → K13 x1 x2 σ → W p l e rmX0_condition s m args below meth c H locs 0 0 (MQ below (QI E base Q) args s 0 0 (fun q => base ≤ q)) (F0 m 13 ls [])) : ∀ (x2 : Int32) (x3 : Int32) (σ : St) (H : Heap) (locs : List Loc) (ls : Array Slot), lv_has ls 4 [(0, .ref (ga E 5)), (2, .int x2), (3, .int x3)] → GW E base s σ H locs → wX0_condition_72 Q K13 x2 x3 σ → W p l e rmX0_condition s m args below meth c H locs 0 0 (MQ below (QI E base Q) args s 0 0 (fun q => base ≤ q)) (F0 m 72 ls []) := by
  intro x2 x3 σ H locs ls hl g h
  refine lv_iconst (v := 1) C.1 C.2.1 dX0_condition_72 (by decide) ?_
  refine lv_goto (tgt := 77) C.1 C.2.1 dX0_condition_73 (by decide) ?_
  exact tX0_condition_77 C hr hK13 x2 x3 (1 : Int32) _ _ _ _ (lv_sub hl [0, 1, 2] rfl) g h
set_option maxHeartbeats 4000000 in
set_option maxRecDepth 100000 in
theorem tX0_condition_62 {p : Program} {l : Launch} {e : Env} {s : State} {m : MethodId} {args : Array Value} {below : List Frame} {meth : Method} {c : Code} {E : EE} {base : Nat} (C : Cx p E base s m args meth c cX0_condition 4 RX0) (hr : meth.sig.returnType = (some .boolean)) {Q : Int32 → St → Prop} {K13 : Int32 → Int32 → St → Prop} (hK13 : ∀ (x1 : Int32) (x2 : Int32) (σ : St) (H : Heap) (locs : List Loc) (ls : Array Slot), lv_has ls 4 [(0, .ref (ga E 5)), (1, .int x1), (2, .int x2)] → GW E base s σ H locs → K13 x1 x2 σ → W p l e rmX0_condition s m args below meth c H locs 0 0 (MQ below (QI E base Q) args s 0 0 (fun q => base ≤ q)) (F0 m 13 ls [])) : ∀ (x1 : Int32) (x2 : Int32) (x3 : Int32) (σ : St) (H : Heap) (locs : List Loc) (ls : Array Slot), lv_has ls 4 [(0, .ref (ga E 5)), (1, .int x1), (2, .int x2), (3, .int x3)] → GW E base s σ H locs → wX0_condition_62 Q K13 x1 x2 x3 σ → W p l e rmX0_condition s m args below meth c H locs 0 0 (MQ below (QI E base Q) args s 0 0 (fun q => base ≤ q)) (F0 m 62 ls []) := by
  intro x1 x2 x3 σ H locs ls hl g h
  refine lv_iload_n C.1 C.2.1 dX0_condition_62 rfl (lv_at hl 1 rfl) ?_
  refine lv_if_ne (tgt := 72) C.1 C.2.1 dX0_condition_63 (by decide) (fun c1 => ?_) (fun c1 => ?_)
  · have h := h.2 c1
    exact tX0_condition_72 C hr hK13 x2 x3 _ _ _ _ (lv_sub hl [0, 2, 3] rfl) g h
  · have h := h.1 c1
    refine lv_iload_n C.1 C.2.1 dX0_condition_66 rfl (lv_at hl 3 rfl) ?_
    refine lv_bipush (v := 25) C.1 C.2.1 dX0_condition_67 (by decide) ?_
    refine lv_icmp_ne (tgt := 76) C.1 C.2.1 dX0_condition_69 (by decide) (fun c2 => ?_) (fun c2 => ?_)
    · have h := h.2 c2
      refine lv_iconst (v := 0) C.1 C.2.1 dX0_condition_76 (by decide) ?_
      exact tX0_condition_77 C hr hK13 x2 x3 (0 : Int32) _ _ _ _ (lv_sub hl [0, 2, 3] rfl) g h
    · have h := h.1 c2
      exact tX0_condition_72 C hr hK13 x2 x3 _ _ _ _ (lv_sub hl [0, 2, 3] rfl) g h
set_option maxHeartbeats 4000000 in
set_option maxRecDepth 100000 in
theorem tX0_condition_38 {p : Program} {l : Launch} {e : Env} {s : State} {m : MethodId} {args : Array Value} {below : List Frame} {meth : Method} {c : Code} {E : EE} {base : Nat} (C : Cx p E base s m args meth c cX0_condition 4 RX0) (hr : meth.sig.returnType = (some .boolean)) {Q : Int32 → St → Prop} {K13 : Int32 → Int32 → St → Prop} (hK13 : ∀ (x1 : Int32) (x2 : Int32) (σ : St) (H : Heap) (locs : List Loc) (ls : Array Slot), lv_has ls 4 [(0, .ref (ga E 5)), (1, .int x1), (2, .int x2)] → GW E base s σ H locs → K13 x1 x2 σ → W p l e rmX0_condition s m args below meth c H locs 0 0 (MQ below (QI E base Q) args s 0 0 (fun q => base ≤ q)) (F0 m 13 ls [])) : ∀ (x1 : Int32) (x2 : Int32) (σ : St) (H : Heap) (locs : List Loc) (ls : Array Slot), lv_has ls 4 [(0, .ref (ga E 5)), (1, .int x1), (2, .int x2)] → GW E base s σ H locs → wX0_condition_38 Q K13 x1 x2 σ → W p l e rmX0_condition s m args below meth c H locs 0 0 (MQ below (QI E base Q) args s 0 0 (fun q => base ≤ q)) (F0 m 38 ls []) := by
  intro x1 x2 σ H locs ls hl g h
  refine lv_aload_n C.1 C.2.1 dX0_condition_38 rfl (lv_at hl 0 rfl) ?_
  refine gx_calli0 g (gx_runV (k := 5) (rest := []) C g mb_X0_kind ml_X0_65 rfl sh_5 (mX0_kind _ _ h) ⟨Nat.le_of_ble_eq_true rfl, Nat.le_of_ble_eq_true rfl⟩ ⟨Nat.le_refl _, Nat.le_refl _⟩ rfl hl.1 rfl (Nat.le_of_ble_eq_true rfl) dX0_condition_39) rfl rfl (fun r1 σ2 H locs h g => ?_)
  refine lv_istore_n (lv' := [(3, .int r1), (0, .ref (ga E 5)), (1, .int x1), (2, .int x2)]) C.1 C.2.1 dX0_condition_42 rfl hl (by decide) rfl (fun ls hl => ?_)
  refine lv_iload_n C.1 C.2.1 dX0_condition_43 rfl (lv_at hl 0 rfl) ?_
  refine lv_bipush (v := 25) C.1 C.2.1 dX0_condition_44 (by decide) ?_
  refine lv_icmp_ne (tgt := 62) C.1 C.2.1 dX0_condition_46 (by decide) (fun c3 => ?_) (fun c3 => ?_)
  · have h := h.2 c3
    exact tX0_condition_62 C hr hK13 x1 x2 r1 _ _ _ _ (lv_sub hl [1, 2, 3, 0] rfl) g h
  · have h := h.1 c3
    refine lv_iload_n C.1 C.2.1 dX0_condition_49 rfl (lv_at hl 2 rfl) ?_
    refine lv_if_eq (tgt := 62) C.1 C.2.1 dX0_condition_50 (by decide) (fun c4 => ?_) (fun c4 => ?_)
    · have h := h.1 c4
      exact tX0_condition_62 C hr hK13 x1 x2 r1 _ _ _ _ (lv_sub hl [1, 2, 3, 0] rfl) g h
    · have h := h.2 c4
      refine lv_aload_n C.1 C.2.1 dX0_condition_53 rfl (lv_at hl 1 rfl) ?_
      refine gx_getR C g fl_X0_21 dX0_condition_54 sh_5 rfl (by decide) ?_
      refine lv_bipush (v := -25) C.1 C.2.1 dX0_condition_57 (by decide) ?_
      refine gx_callv0 g (gx_runV (k := 8) (rest := []) C g mb_X2_emit ml_X0_135 rfl sh_8 (mX2_emit (-25 : Int32) _ _ h) ⟨Nat.le_of_ble_eq_true rfl, Nat.le_of_ble_eq_true rfl⟩ ⟨Nat.le_refl _, Nat.le_refl _⟩ rfl hl.1 rfl (Nat.le_of_ble_eq_true rfl) dX0_condition_59) rfl rfl (fun σ6 H locs h g => ?_)
      exact tX0_condition_62 C hr hK13 x1 x2 r1 _ _ _ _ (lv_sub hl [1, 2, 3, 0] rfl) g h
set_option maxHeartbeats 4000000 in
set_option maxRecDepth 100000 in
theorem tX0_condition_13 {p : Program} {l : Launch} {e : Env} {s : State} {m : MethodId} {args : Array Value} {below : List Frame} {meth : Method} {c : Code} {E : EE} {base : Nat} (C : Cx p E base s m args meth c cX0_condition 4 RX0) (hr : meth.sig.returnType = (some .boolean)) {Q : Int32 → St → Prop} : ∀ (n : Nat) (x1 : Int32) (x2 : Int32) (σ : St) (H : Heap) (locs : List Loc) (ls : Array Slot), lv_has ls 4 [(0, .ref (ga E 5)), (1, .int x1), (2, .int x2)] → GW E base s σ H locs → wX0_condition_13 Q n x1 x2 σ → W p l e rmX0_condition s m args below meth c H locs 0 0 (MQ below (QI E base Q) args s 0 0 (fun q => base ≤ q)) (F0 m 13 ls []) := by
  intro n
  induction n with
  | zero => intro _ _; intros; exact False.elim (by assumption)
  | succ n ih =>
    intro x1 x2 σ H locs ls hl g h
    refine lv_iload_n C.1 C.2.1 dX0_condition_13 rfl (lv_at hl 2 rfl) ?_
    refine lv_sipush (v := 600) C.1 C.2.1 dX0_condition_14 (by decide) ?_
    refine lv_icmp_ge (tgt := 116) C.1 C.2.1 dX0_condition_17 (by decide) (fun c1 => ?_) (fun c1 => ?_)
    · have h := h.1 c1
      exact tX0_condition_116 C hr x1 _ _ _ _ (lv_sub hl [0, 1] rfl) g h
    · have h := h.2 c1
      refine lv_aload_n C.1 C.2.1 dX0_condition_20 rfl (lv_at hl 0 rfl) ?_
      refine gx_calli0 g (gx_runV (k := 5) (rest := []) C g mb_X0_kind ml_X0_65 rfl sh_5 (mX0_kind _ _ h) ⟨Nat.le_of_ble_eq_true rfl, Nat.le_of_ble_eq_true rfl⟩ ⟨Nat.le_refl _, Nat.le_refl _⟩ rfl hl.1 rfl (Nat.le_of_ble_eq_true rfl) dX0_condition_21) rfl rfl (fun r2 σ3 H locs h g => ?_)
      refine lv_bipush (v := 26) C.1 C.2.1 dX0_condition_24 (by decide) ?_
      refine lv_icmp_eq (tgt := 38) C.1 C.2.1 dX0_condition_26 (by decide) (fun c4 => ?_) (fun c4 => ?_)
      · have h := h.1 c4
        exact tX0_condition_38 C hr ih x1 x2 _ _ _ _ (lv_sub hl [0, 1, 2] rfl) g h
      · have h := h.2 c4
        refine lv_aload_n C.1 C.2.1 dX0_condition_29 rfl (lv_at hl 0 rfl) ?_
        refine gx_calli0 g (gx_runV (k := 5) (rest := []) C g mb_X0_kind ml_X0_65 rfl sh_5 (mX0_kind _ _ h) ⟨Nat.le_of_ble_eq_true rfl, Nat.le_of_ble_eq_true rfl⟩ ⟨Nat.le_refl _, Nat.le_refl _⟩ rfl hl.1 rfl (Nat.le_of_ble_eq_true rfl) dX0_condition_30) rfl rfl (fun r5 σ6 H locs h g => ?_)
        refine lv_bipush (v := 25) C.1 C.2.1 dX0_condition_33 (by decide) ?_
        refine lv_icmp_ne (tgt := 116) C.1 C.2.1 dX0_condition_35 (by decide) (fun c7 => ?_) (fun c7 => ?_)
        · have h := h.2 c7
          exact tX0_condition_116 C hr x1 _ _ _ _ (lv_sub hl [0, 1] rfl) g h
        · have h := h.1 c7
          exact tX0_condition_38 C hr ih x1 x2 _ _ _ _ (lv_sub hl [0, 1, 2] rfl) g h
set_option maxHeartbeats 4000000 in
set_option maxRecDepth 100000 in
theorem tX0_condition_e {p : Program} {l : Launch} {e : Env} {s : State} {m : MethodId} {args : Array Value} {below : List Frame} {meth : Method} {c : Code} {E : EE} {base : Nat} (C : Cx p E base s m args meth c cX0_condition 4 RX0) (hr : meth.sig.returnType = (some .boolean)) {Q : Int32 → St → Prop} : ∀ (σ : St) (H : Heap) (locs : List Loc) (ls : Array Slot), lv_has ls 4 [(0, .ref (ga E 5))] → GW E base s σ H locs → wX0_condition σ Q → W p l e rmX0_condition s m args below meth c H locs 0 0 (MQ below (QI E base Q) args s 0 0 (fun q => base ≤ q)) (F0 m 0 ls []) := by
  intro σ H locs ls hl g h
  refine lv_iconst (v := 0) C.1 C.2.1 dX0_condition_0 (by decide) ?_
  refine lv_istore_n (lv' := [(1, .int (0 : Int32)), (0, .ref (ga E 5))]) C.1 C.2.1 dX0_condition_1 rfl hl (by decide) rfl (fun ls hl => ?_)
  refine lv_aload_n C.1 C.2.1 dX0_condition_2 rfl (lv_at hl 1 rfl) ?_
  refine gx_calli0 g (gx_runV (k := 5) (rest := []) C g mb_X0_relation ml_X0_132 rfl sh_5 (mX0_relation _ _ h) ⟨Nat.le_of_ble_eq_true rfl, Nat.le_of_ble_eq_true rfl⟩ ⟨Nat.le_refl _, Nat.le_refl _⟩ rfl hl.1 rfl (Nat.le_of_ble_eq_true rfl) dX0_condition_3) rfl rfl (fun r1 σ2 H locs h g => ?_)
  refine lv_if_ne (tgt := 11) C.1 C.2.1 dX0_condition_6 (by decide) (fun c3 => ?_) (fun c3 => ?_)
  · have h := h.2 c3
    refine lv_iconst (v := 0) C.1 C.2.1 dX0_condition_11 (by decide) ?_
    refine lv_istore_n (lv' := [(2, .int (0 : Int32)), (1, .int (0 : Int32)), (0, .ref (ga E 5))]) C.1 C.2.1 dX0_condition_12 rfl hl (by decide) rfl (fun ls hl => ?_)
    obtain ⟨j, h⟩ := h
    exact tX0_condition_13 C hr j (0 : Int32) (0 : Int32) _ _ _ _ (lv_sub hl [2, 1, 0] rfl) g h
  · have h := h.1 c3
    refine lv_iconst (v := 0) C.1 C.2.1 dX0_condition_9 (by decide) ?_
    exact gx_zret C hr g dX0_condition_10 (by decide) h
theorem mX0_condition {l : Launch} {E : EE} {base : Nat} (σ : St) (Q : Int32 → St → Prop) (h : wX0_condition σ Q) : Met l yX0_condition (wy yX0_condition cX0_condition 4 (some .boolean)) rmX0_condition (va_Pc [.ref (ga E 5)] (fun U => SW E base σ U)) (QI E base Q) (rmX0_condition).cells (rmX0_condition).slots (fun q => base ≤ q) :=
  met_of (by decide) (Nat.le_of_ble_eq_true rfl) (fun p e s m args below meth c C hr g ls hl => tX0_condition_e C hr  _ _ _ _ hl g h)
abbrev rmX0_rule : Room := { frames := 303, cells := 0, slots := 0, locals := 9068 }
def wX0_rule_169 (Q : Int32 → St → Prop) (x1 : Int32) (σ : St) : Prop := vp_in x1 30 ∧ ∀ σ2 : St, σ2 = pv σ 30 x1.toNatClampNeg (gv σ 8 4) → wX0_take (4 : Int32) σ2 (fun (r3 : Int32) (σ4 : St) => narrow .boolean (.int r3) = .int r3 ∧ Q r3 σ4)
def wX0_rule_119 (Q : Int32 → St → Prop) (x1 : Int32) (xt0 : Int32) (σ : St) : Prop := vp_in x1 30 ∧ ∀ σ2 : St, σ2 = pv σ 29 x1.toNatClampNeg (gv σ 8 4) → ((xt0 = 0 → Q (0 : Int32) σ2) ∧ (¬ (xt0 = 0) → wX0_kind σ2 (fun (r4 : Int32) (σ5 : St) => ((r4 = (21 : Int32) → wX0_take (21 : Int32) σ5 (fun (r7 : Int32) (σ8 : St) => ((r7 = 0 → Q (0 : Int32) σ8) ∧ (¬ (r7 = 0) → wX0_condition σ8 (fun (r10 : Int32) (σ11 : St) => ((r10 = 0 → Q (0 : Int32) σ11) ∧ (¬ (r10 = 0) → wX0_rule_169 Q x1 σ11))))))) ∧ (¬ (r4 = (21 : Int32)) → wX0_rule_169 Q x1 σ5)))))
def wX0_rule_118 (Q : Int32 → St → Prop) (x1 : Int32) (σ : St) : Prop := wX0_rule_119 Q x1 (0 : Int32) σ
def wX0_rule_94 (Q : Int32 → St → Prop) (x1 : Int32) (σ : St) : Prop := wX0_rule_119 Q x1 (0 : Int32) σ
def wX0_rule_60 (Q : Int32 → St → Prop) (x1 : Int32) (xt1 : Int32) (xt2 : Int32) (σ : St) : Prop := vp_in xt1 30 ∧ ∀ σ2 : St, σ2 = pv σ 28 xt1.toNatClampNeg (vp_nar .boolean xt2) → vp_in x1 30 ∧ (((gv σ2 28 x1.toNatClampNeg) = 0 → wX0_take (20 : Int32) σ2 (fun (r5 : Int32) (σ6 : St) => ((r5 = 0 → wX0_rule_118 Q x1 σ6) ∧ (¬ (r5 = 0) → wX0_condition σ6 (fun (r8 : Int32) (σ9 : St) => ((r8 = 0 → wX0_rule_118 Q x1 σ9) ∧ (¬ (r8 = 0) → wX0_rule_119 Q x1 (1 : Int32) σ9))))))) ∧ (¬ ((gv σ2 28 x1.toNatClampNeg) = 0) → wX0_take (22 : Int32) σ2 (fun (r11 : Int32) (σ12 : St) => ((r11 = 0 → wX0_rule_94 Q x1 σ12) ∧ (¬ (r11 = 0) → wX0_sumN 10 (0 : Int32) σ12 (fun (r14 : Int32) (σ15 : St) => ((r14 = 0 → wX0_rule_94 Q x1 σ15) ∧ (¬ (r14 = 0) → wX0_rule_119 Q x1 (1 : Int32) σ15))))))))
def wX0_rule (σ : St) (Q : Int32 → St → Prop) : Prop := ∀ x1_1 : Int32, x1_1 = gv σ 8 3 → ((x1_1 < (30 : Int32) → wX2_draftRule σ (fun (σ4 : St) => wX0_who x1_1 σ4 (fun (r5 : Int32) (σ6 : St) => ((r5 = 0 → Q (0 : Int32) σ6) ∧ (¬ (r5 = 0) → wX0_kind σ6 (fun (r8 : Int32) (σ9 : St) => ((r8 = (22 : Int32) → wX0_rule_60 Q x1_1 x1_1 (1 : Int32) σ9) ∧ (¬ (r8 = (22 : Int32)) → wX0_rule_60 Q x1_1 x1_1 (0 : Int32) σ9)))))))) ∧ (¬ (x1_1 < (30 : Int32)) → ∀ σ11 : St, σ11 = pv σ 5 5 (2 : Int32) → Q (0 : Int32) σ11))
set_option maxHeartbeats 4000000 in
set_option maxRecDepth 100000 in
theorem tX0_rule_169 {p : Program} {l : Launch} {e : Env} {s : State} {m : MethodId} {args : Array Value} {below : List Frame} {meth : Method} {c : Code} {E : EE} {base : Nat} (C : Cx p E base s m args meth c cX0_rule 3 RX0) (hr : meth.sig.returnType = (some .boolean)) {Q : Int32 → St → Prop} : ∀ (x1 : Int32) (σ : St) (H : Heap) (locs : List Loc) (ls : Array Slot), lv_has ls 3 [(0, .ref (ga E 5)), (1, .int x1)] → GW E base s σ H locs → wX0_rule_169 Q x1 σ → W p l e rmX0_rule s m args below meth c H locs 0 0 (MQ below (QI E base Q) args s 0 0 (fun q => base ≤ q)) (F0 m 169 ls []) := by
  intro x1 σ H locs ls hl g h
  refine lv_aload_n C.1 C.2.1 dX0_rule_169 rfl (lv_at hl 0 rfl) ?_
  refine gx_getR C g fl_X0_21 dX0_rule_170 sh_5 rfl (by decide) ?_
  refine gx_getR C g fl_X0_127 dX0_rule_173 sh_8 rfl (by decide) ?_
  refine lv_iload_n C.1 C.2.1 dX0_rule_176 rfl (lv_at hl 1 rfl) ?_
  refine lv_aload_n C.1 C.2.1 dX0_rule_177 rfl (lv_at hl 0 rfl) ?_
  refine gx_getR C g fl_X0_21 dX0_rule_178 sh_5 rfl (by decide) ?_
  refine gx_getI C g fl_X0_124 dX0_rule_181 sh_8 rfl ?_
  obtain ⟨i1, h⟩ := h
  refine gx_iast C g dX0_rule_184 sh_30 i1 (fun H locs σ2 eσ2 g => ?_)
  have h := h σ2 eσ2
  refine lv_aload_n C.1 C.2.1 dX0_rule_185 rfl (lv_at hl 0 rfl) ?_
  refine lv_iconst (v := 4) C.1 C.2.1 dX0_rule_186 (by decide) ?_
  refine gx_calli0 g (gx_runV (k := 5) (rest := []) C g mb_X0_take ml_X0_76 rfl sh_5 (mX0_take (4 : Int32) _ _ h) ⟨Nat.le_of_ble_eq_true rfl, Nat.le_of_ble_eq_true rfl⟩ ⟨Nat.le_refl _, Nat.le_refl _⟩ rfl hl.1 rfl (Nat.le_of_ble_eq_true rfl) dX0_rule_187) rfl rfl (fun r3 σ4 H locs h g => ?_)
  exact gx_zret C hr g dX0_rule_190 h.1 h.2
set_option maxHeartbeats 4000000 in
set_option maxRecDepth 100000 in
theorem tX0_rule_119 {p : Program} {l : Launch} {e : Env} {s : State} {m : MethodId} {args : Array Value} {below : List Frame} {meth : Method} {c : Code} {E : EE} {base : Nat} (C : Cx p E base s m args meth c cX0_rule 3 RX0) (hr : meth.sig.returnType = (some .boolean)) {Q : Int32 → St → Prop} : ∀ (x1 : Int32) (xt0 : Int32) (σ : St) (H : Heap) (locs : List Loc) (ls : Array Slot), lv_has ls 3 [(0, .ref (ga E 5)), (1, .int x1)] → GW E base s σ H locs → wX0_rule_119 Q x1 xt0 σ → W p l e rmX0_rule s m args below meth c H locs 0 0 (MQ below (QI E base Q) args s 0 0 (fun q => base ≤ q)) (F0 m 119 ls [.int xt0]) := by
  intro x1 xt0 σ H locs ls hl g h
  refine lv_istore_n (lv' := [(2, .int xt0), (0, .ref (ga E 5)), (1, .int x1)]) C.1 C.2.1 dX0_rule_119 rfl hl (by decide) rfl (fun ls hl => ?_)
  refine lv_aload_n C.1 C.2.1 dX0_rule_120 rfl (lv_at hl 1 rfl) ?_
  refine gx_getR C g fl_X0_21 dX0_rule_121 sh_5 rfl (by decide) ?_
  refine gx_getR C g fl_X0_121 dX0_rule_124 sh_8 rfl (by decide) ?_
  refine lv_iload_n C.1 C.2.1 dX0_rule_127 rfl (lv_at hl 2 rfl) ?_
  refine lv_aload_n C.1 C.2.1 dX0_rule_128 rfl (lv_at hl 1 rfl) ?_
  refine gx_getR C g fl_X0_21 dX0_rule_129 sh_5 rfl (by decide) ?_
  refine gx_getI C g fl_X0_124 dX0_rule_132 sh_8 rfl ?_
  obtain ⟨i1, h⟩ := h
  refine gx_iast C g dX0_rule_135 sh_29 i1 (fun H locs σ2 eσ2 g => ?_)
  have h := h σ2 eσ2
  refine lv_iload_n C.1 C.2.1 dX0_rule_136 rfl (lv_at hl 0 rfl) ?_
  refine lv_if_ne (tgt := 142) C.1 C.2.1 dX0_rule_137 (by decide) (fun c3 => ?_) (fun c3 => ?_)
  · have h := h.2 c3
    refine lv_aload_n C.1 C.2.1 dX0_rule_142 rfl (lv_at hl 1 rfl) ?_
    refine gx_calli0 g (gx_runV (k := 5) (rest := []) C g mb_X0_kind ml_X0_65 rfl sh_5 (mX0_kind _ _ h) ⟨Nat.le_of_ble_eq_true rfl, Nat.le_of_ble_eq_true rfl⟩ ⟨Nat.le_refl _, Nat.le_refl _⟩ rfl hl.1 rfl (Nat.le_of_ble_eq_true rfl) dX0_rule_143) rfl rfl (fun r4 σ5 H locs h g => ?_)
    refine lv_bipush (v := 21) C.1 C.2.1 dX0_rule_146 (by decide) ?_
    refine lv_icmp_ne (tgt := 169) C.1 C.2.1 dX0_rule_148 (by decide) (fun c6 => ?_) (fun c6 => ?_)
    · have h := h.2 c6
      exact tX0_rule_169 C hr x1 _ _ _ _ (lv_sub hl [1, 2] rfl) g h
    · have h := h.1 c6
      refine lv_aload_n C.1 C.2.1 dX0_rule_151 rfl (lv_at hl 1 rfl) ?_
      refine lv_bipush (v := 21) C.1 C.2.1 dX0_rule_152 (by decide) ?_
      refine gx_calli0 g (gx_runV (k := 5) (rest := []) C g mb_X0_take ml_X0_76 rfl sh_5 (mX0_take (21 : Int32) _ _ h) ⟨Nat.le_of_ble_eq_true rfl, Nat.le_of_ble_eq_true rfl⟩ ⟨Nat.le_refl _, Nat.le_refl _⟩ rfl hl.1 rfl (Nat.le_of_ble_eq_true rfl) dX0_rule_154) rfl rfl (fun r7 σ8 H locs h g => ?_)
      refine lv_if_eq (tgt := 167) C.1 C.2.1 dX0_rule_157 (by decide) (fun c9 => ?_) (fun c9 => ?_)
      · have h := h.1 c9
        refine lv_iconst (v := 0) C.1 C.2.1 dX0_rule_167 (by decide) ?_
        exact gx_zret C hr g dX0_rule_168 (by decide) h
      · have h := h.2 c9
        refine lv_aload_n C.1 C.2.1 dX0_rule_160 rfl (lv_at hl 1 rfl) ?_
        refine gx_calli0 g (gx_runV (k := 5) (rest := []) C g mb_X0_condition ml_X0_118 rfl sh_5 (mX0_condition _ _ h) ⟨Nat.le_of_ble_eq_true rfl, Nat.le_of_ble_eq_true rfl⟩ ⟨Nat.le_refl _, Nat.le_refl _⟩ rfl hl.1 rfl (Nat.le_of_ble_eq_true rfl) dX0_rule_161) rfl rfl (fun r10 σ11 H locs h g => ?_)
        refine lv_if_ne (tgt := 169) C.1 C.2.1 dX0_rule_164 (by decide) (fun c12 => ?_) (fun c12 => ?_)
        · have h := h.2 c12
          exact tX0_rule_169 C hr x1 _ _ _ _ (lv_sub hl [1, 2] rfl) g h
        · have h := h.1 c12
          refine lv_iconst (v := 0) C.1 C.2.1 dX0_rule_167 (by decide) ?_
          exact gx_zret C hr g dX0_rule_168 (by decide) h
  · have h := h.1 c3
    refine lv_iconst (v := 0) C.1 C.2.1 dX0_rule_140 (by decide) ?_
    exact gx_zret C hr g dX0_rule_141 (by decide) h
set_option maxHeartbeats 4000000 in
set_option maxRecDepth 100000 in
theorem tX0_rule_118 {p : Program} {l : Launch} {e : Env} {s : State} {m : MethodId} {args : Array Value} {below : List Frame} {meth : Method} {c : Code} {E : EE} {base : Nat} (C : Cx p E base s m args meth c cX0_rule 3 RX0) (hr : meth.sig.returnType = (some .boolean)) {Q : Int32 → St → Prop} : ∀ (x1 : Int32) (σ : St) (H : Heap) (locs : List Loc) (ls : Array Slot), lv_has ls 3 [(0, .ref (ga E 5)), (1, .int x1)] → GW E base s σ H locs → wX0_rule_118 Q x1 σ → W p l e rmX0_rule s m args below meth c H locs 0 0 (MQ below (QI E base Q) args s 0 0 (fun q => base ≤ q)) (F0 m 118 ls []) := by
  intro x1 σ H locs ls hl g h
  refine lv_iconst (v := 0) C.1 C.2.1 dX0_rule_118 (by decide) ?_
  exact tX0_rule_119 C hr x1 (0 : Int32) _ _ _ _ (lv_sub hl [0, 1] rfl) g h
set_option maxHeartbeats 4000000 in
set_option maxRecDepth 100000 in
theorem tX0_rule_94 {p : Program} {l : Launch} {e : Env} {s : State} {m : MethodId} {args : Array Value} {below : List Frame} {meth : Method} {c : Code} {E : EE} {base : Nat} (C : Cx p E base s m args meth c cX0_rule 3 RX0) (hr : meth.sig.returnType = (some .boolean)) {Q : Int32 → St → Prop} : ∀ (x1 : Int32) (σ : St) (H : Heap) (locs : List Loc) (ls : Array Slot), lv_has ls 3 [(0, .ref (ga E 5)), (1, .int x1)] → GW E base s σ H locs → wX0_rule_94 Q x1 σ → W p l e rmX0_rule s m args below meth c H locs 0 0 (MQ below (QI E base Q) args s 0 0 (fun q => base ≤ q)) (F0 m 94 ls []) := by
  intro x1 σ H locs ls hl g h
  refine lv_iconst (v := 0) C.1 C.2.1 dX0_rule_94 (by decide) ?_
  refine lv_goto (tgt := 119) C.1 C.2.1 dX0_rule_95 (by decide) ?_
  exact tX0_rule_119 C hr x1 (0 : Int32) _ _ _ _ (lv_sub hl [0, 1] rfl) g h
set_option maxHeartbeats 4000000 in
set_option maxRecDepth 100000 in
theorem tX0_rule_60 {p : Program} {l : Launch} {e : Env} {s : State} {m : MethodId} {args : Array Value} {below : List Frame} {meth : Method} {c : Code} {E : EE} {base : Nat} (C : Cx p E base s m args meth c cX0_rule 3 RX0) (hr : meth.sig.returnType = (some .boolean)) {Q : Int32 → St → Prop} : ∀ (x1 : Int32) (xt1 : Int32) (xt2 : Int32) (σ : St) (H : Heap) (locs : List Loc) (ls : Array Slot), lv_has ls 3 [(0, .ref (ga E 5)), (1, .int x1)] → GW E base s σ H locs → wX0_rule_60 Q x1 xt1 xt2 σ → W p l e rmX0_rule s m args below meth c H locs 0 0 (MQ below (QI E base Q) args s 0 0 (fun q => base ≤ q)) (F0 m 60 ls [.int xt2, .int xt1, .ref (ga E 28)]) := by
  intro x1 xt1 xt2 σ H locs ls hl g h
  obtain ⟨i1, h⟩ := h
  refine gx_zast C g dX0_rule_60 sh_28 i1 (fun H locs σ2 eσ2 g => ?_)
  have h := h σ2 eσ2
  refine lv_aload_n C.1 C.2.1 dX0_rule_61 rfl (lv_at hl 0 rfl) ?_
  refine gx_getR C g fl_X0_21 dX0_rule_62 sh_5 rfl (by decide) ?_
  refine gx_getR C g fl_X0_111 dX0_rule_65 sh_8 rfl (by decide) ?_
  refine lv_iload_n C.1 C.2.1 dX0_rule_68 rfl (lv_at hl 1 rfl) ?_
  obtain ⟨i3, h⟩ := h
  refine gx_zald C g dX0_rule_69 sh_28 i3 ?_
  refine lv_if_eq (tgt := 98) C.1 C.2.1 dX0_rule_70 (by decide) (fun c4 => ?_) (fun c4 => ?_)
  · have h := h.1 c4
    refine lv_aload_n C.1 C.2.1 dX0_rule_98 rfl (lv_at hl 0 rfl) ?_
    refine lv_bipush (v := 20) C.1 C.2.1 dX0_rule_99 (by decide) ?_
    refine gx_calli0 g (gx_runV (k := 5) (rest := []) C g mb_X0_take ml_X0_76 rfl sh_5 (mX0_take (20 : Int32) _ _ h) ⟨Nat.le_of_ble_eq_true rfl, Nat.le_of_ble_eq_true rfl⟩ ⟨Nat.le_refl _, Nat.le_refl _⟩ rfl hl.1 rfl (Nat.le_of_ble_eq_true rfl) dX0_rule_101) rfl rfl (fun r5 σ6 H locs h g => ?_)
    refine lv_if_eq (tgt := 118) C.1 C.2.1 dX0_rule_104 (by decide) (fun c7 => ?_) (fun c7 => ?_)
    · have h := h.1 c7
      exact tX0_rule_118 C hr x1 _ _ _ _ (lv_sub hl [0, 1] rfl) g h
    · have h := h.2 c7
      refine lv_aload_n C.1 C.2.1 dX0_rule_107 rfl (lv_at hl 0 rfl) ?_
      refine gx_calli0 g (gx_runV (k := 5) (rest := []) C g mb_X0_condition ml_X0_118 rfl sh_5 (mX0_condition _ _ h) ⟨Nat.le_of_ble_eq_true rfl, Nat.le_of_ble_eq_true rfl⟩ ⟨Nat.le_refl _, Nat.le_refl _⟩ rfl hl.1 rfl (Nat.le_of_ble_eq_true rfl) dX0_rule_108) rfl rfl (fun r8 σ9 H locs h g => ?_)
      refine lv_if_eq (tgt := 118) C.1 C.2.1 dX0_rule_111 (by decide) (fun c10 => ?_) (fun c10 => ?_)
      · have h := h.1 c10
        exact tX0_rule_118 C hr x1 _ _ _ _ (lv_sub hl [0, 1] rfl) g h
      · have h := h.2 c10
        refine lv_iconst (v := 1) C.1 C.2.1 dX0_rule_114 (by decide) ?_
        refine lv_goto (tgt := 119) C.1 C.2.1 dX0_rule_115 (by decide) ?_
        exact tX0_rule_119 C hr x1 (1 : Int32) _ _ _ _ (lv_sub hl [0, 1] rfl) g h
  · have h := h.2 c4
    refine lv_aload_n C.1 C.2.1 dX0_rule_73 rfl (lv_at hl 0 rfl) ?_
    refine lv_bipush (v := 22) C.1 C.2.1 dX0_rule_74 (by decide) ?_
    refine gx_calli0 g (gx_runV (k := 5) (rest := []) C g mb_X0_take ml_X0_76 rfl sh_5 (mX0_take (22 : Int32) _ _ h) ⟨Nat.le_of_ble_eq_true rfl, Nat.le_of_ble_eq_true rfl⟩ ⟨Nat.le_refl _, Nat.le_refl _⟩ rfl hl.1 rfl (Nat.le_of_ble_eq_true rfl) dX0_rule_76) rfl rfl (fun r11 σ12 H locs h g => ?_)
    refine lv_if_eq (tgt := 94) C.1 C.2.1 dX0_rule_79 (by decide) (fun c13 => ?_) (fun c13 => ?_)
    · have h := h.1 c13
      exact tX0_rule_94 C hr x1 _ _ _ _ (lv_sub hl [0, 1] rfl) g h
    · have h := h.2 c13
      refine lv_aload_n C.1 C.2.1 dX0_rule_82 rfl (lv_at hl 0 rfl) ?_
      refine lv_iconst (v := 0) C.1 C.2.1 dX0_rule_83 (by decide) ?_
      refine gx_calli0 g (gx_runV (k := 5) (rest := []) C g mb_X0_sum ml_X0_115 rfl sh_5 (mX0_sumN 10 (0 : Int32) _ _ h) ⟨Nat.le_of_ble_eq_true rfl, Nat.le_of_ble_eq_true rfl⟩ ⟨Nat.le_refl _, Nat.le_refl _⟩ rfl hl.1 rfl (Nat.le_of_ble_eq_true rfl) dX0_rule_84) rfl rfl (fun r14 σ15 H locs h g => ?_)
      refine lv_if_eq (tgt := 94) C.1 C.2.1 dX0_rule_87 (by decide) (fun c16 => ?_) (fun c16 => ?_)
      · have h := h.1 c16
        exact tX0_rule_94 C hr x1 _ _ _ _ (lv_sub hl [0, 1] rfl) g h
      · have h := h.2 c16
        refine lv_iconst (v := 1) C.1 C.2.1 dX0_rule_90 (by decide) ?_
        refine lv_goto (tgt := 119) C.1 C.2.1 dX0_rule_91 (by decide) ?_
        exact tX0_rule_119 C hr x1 (1 : Int32) _ _ _ _ (lv_sub hl [0, 1] rfl) g h
set_option maxHeartbeats 4000000 in
set_option maxRecDepth 100000 in
theorem tX0_rule_e {p : Program} {l : Launch} {e : Env} {s : State} {m : MethodId} {args : Array Value} {below : List Frame} {meth : Method} {c : Code} {E : EE} {base : Nat} (C : Cx p E base s m args meth c cX0_rule 3 RX0) (hr : meth.sig.returnType = (some .boolean)) {Q : Int32 → St → Prop} : ∀ (σ : St) (H : Heap) (locs : List Loc) (ls : Array Slot), lv_has ls 3 [(0, .ref (ga E 5))] → GW E base s σ H locs → wX0_rule σ Q → W p l e rmX0_rule s m args below meth c H locs 0 0 (MQ below (QI E base Q) args s 0 0 (fun q => base ≤ q)) (F0 m 0 ls []) := by
  intro σ H locs ls hl g h
  refine lv_aload_n C.1 C.2.1 dX0_rule_0 rfl (lv_at hl 0 rfl) ?_
  refine gx_getR C g fl_X0_21 dX0_rule_1 sh_5 rfl (by decide) ?_
  refine gx_getI C g fl_X0_102 dX0_rule_4 sh_8 rfl ?_
  refine lv_topi (fun x1_1 ex1_1 => ?_)
  have h := h x1_1 ex1_1
  refine lv_istore_n (lv' := [(1, .int x1_1), (0, .ref (ga E 5))]) C.1 C.2.1 dX0_rule_7 rfl hl (by decide) rfl (fun ls hl => ?_)
  refine lv_iload_n C.1 C.2.1 dX0_rule_8 rfl (lv_at hl 0 rfl) ?_
  refine lv_bipush (v := 30) C.1 C.2.1 dX0_rule_9 (by decide) ?_
  refine lv_icmp_lt (tgt := 21) C.1 C.2.1 dX0_rule_11 (by decide) (fun c2 => ?_) (fun c2 => ?_)
  · have h := h.1 c2
    refine lv_aload_n C.1 C.2.1 dX0_rule_21 rfl (lv_at hl 1 rfl) ?_
    refine gx_getR C g fl_X0_21 dX0_rule_22 sh_5 rfl (by decide) ?_
    refine gx_callv0 g (gx_runV (k := 8) (rest := []) C g mb_X2_draftRule ml_X0_105 rfl sh_8 (mX2_draftRule _ _ h) ⟨Nat.le_of_ble_eq_true rfl, Nat.le_of_ble_eq_true rfl⟩ ⟨Nat.le_refl _, Nat.le_refl _⟩ rfl hl.1 rfl (Nat.le_of_ble_eq_true rfl) dX0_rule_25) rfl rfl (fun σ4 H locs h g => ?_)
    refine lv_aload_n C.1 C.2.1 dX0_rule_28 rfl (lv_at hl 1 rfl) ?_
    refine lv_iload_n C.1 C.2.1 dX0_rule_29 rfl (lv_at hl 0 rfl) ?_
    refine gx_calli0 g (gx_runV (k := 5) (rest := []) C g mb_X0_who ml_X0_108 rfl sh_5 (mX0_who x1_1 _ _ h) ⟨Nat.le_of_ble_eq_true rfl, Nat.le_of_ble_eq_true rfl⟩ ⟨Nat.le_refl _, Nat.le_refl _⟩ rfl hl.1 rfl (Nat.le_of_ble_eq_true rfl) dX0_rule_30) rfl rfl (fun r5 σ6 H locs h g => ?_)
    refine lv_if_ne (tgt := 38) C.1 C.2.1 dX0_rule_33 (by decide) (fun c7 => ?_) (fun c7 => ?_)
    · have h := h.2 c7
      refine lv_aload_n C.1 C.2.1 dX0_rule_38 rfl (lv_at hl 1 rfl) ?_
      refine gx_getR C g fl_X0_21 dX0_rule_39 sh_5 rfl (by decide) ?_
      refine gx_getR C g fl_X0_111 dX0_rule_42 sh_8 rfl (by decide) ?_
      refine lv_iload_n C.1 C.2.1 dX0_rule_45 rfl (lv_at hl 0 rfl) ?_
      refine lv_aload_n C.1 C.2.1 dX0_rule_46 rfl (lv_at hl 1 rfl) ?_
      refine gx_calli0 g (gx_runV (k := 5) (rest := [.int x1_1, .ref (ga E 28)]) C g mb_X0_kind ml_X0_65 rfl sh_5 (mX0_kind _ _ h) ⟨Nat.le_of_ble_eq_true rfl, Nat.le_of_ble_eq_true rfl⟩ ⟨Nat.le_refl _, Nat.le_refl _⟩ rfl hl.1 rfl (Nat.le_of_ble_eq_true rfl) dX0_rule_47) rfl rfl (fun r8 σ9 H locs h g => ?_)
      refine lv_bipush (v := 22) C.1 C.2.1 dX0_rule_50 (by decide) ?_
      refine lv_icmp_ne (tgt := 59) C.1 C.2.1 dX0_rule_52 (by decide) (fun c10 => ?_) (fun c10 => ?_)
      · have h := h.2 c10
        refine lv_iconst (v := 0) C.1 C.2.1 dX0_rule_59 (by decide) ?_
        exact tX0_rule_60 C hr x1_1 x1_1 (0 : Int32) _ _ _ _ (lv_sub hl [1, 0] rfl) g h
      · have h := h.1 c10
        refine lv_iconst (v := 1) C.1 C.2.1 dX0_rule_55 (by decide) ?_
        refine lv_goto (tgt := 60) C.1 C.2.1 dX0_rule_56 (by decide) ?_
        exact tX0_rule_60 C hr x1_1 x1_1 (1 : Int32) _ _ _ _ (lv_sub hl [1, 0] rfl) g h
    · have h := h.1 c7
      refine lv_iconst (v := 0) C.1 C.2.1 dX0_rule_36 (by decide) ?_
      exact gx_zret C hr g dX0_rule_37 (by decide) h
  · have h := h.2 c2
    refine lv_aload_n C.1 C.2.1 dX0_rule_14 rfl (lv_at hl 1 rfl) ?_
    refine lv_iconst (v := 2) C.1 C.2.1 dX0_rule_15 (by decide) ?_
    refine gx_putI C g fi_X0_39 dX0_rule_16 sh_5 rfl (fun H locs σ11 eσ11 g => ?_)
    have h := h σ11 eσ11
    refine lv_iconst (v := 0) C.1 C.2.1 dX0_rule_19 (by decide) ?_
    exact gx_zret C hr g dX0_rule_20 (by decide) h
theorem mX0_rule {l : Launch} {E : EE} {base : Nat} (σ : St) (Q : Int32 → St → Prop) (h : wX0_rule σ Q) : Met l yX0_rule (wy yX0_rule cX0_rule 3 (some .boolean)) rmX0_rule (va_Pc [.ref (ga E 5)] (fun U => SW E base σ U)) (QI E base Q) (rmX0_rule).cells (rmX0_rule).slots (fun q => base ≤ q) :=
  met_of (by decide) (Nat.le_of_ble_eq_true rfl) (fun p e s m args below meth c C hr g ls hl => tX0_rule_e C hr  _ _ _ _ hl g h)
abbrev rmX0_text : Room := { frames := 304, cells := 0, slots := 0, locals := 9090 }
def wX0_text_84 (Q : Int32 → St → Prop) (σ : St) : Prop := wX0_kind σ (fun (r1 : Int32) (σ2 : St) => ((r1 = 0 → Q (1 : Int32) σ2) ∧ (¬ (r1 = 0) → Q (0 : Int32) σ2)))
def wX0_text_67 (Q : Int32 → St → Prop) (K2 : Int32 → St → Prop) (x1 : Int32) (σ : St) : Prop := wX0_take (19 : Int32) σ (fun (r1 : Int32) (σ2 : St) => ((r1 = 0 → Q (0 : Int32) σ2) ∧ (¬ (r1 = 0) → ∀ x1_4 : Int32, x1_4 = x1 + 1 → K2 x1_4 σ2)))
def wX0_text_52 (Q : Int32 → St → Prop) (K2 : Int32 → St → Prop) (K28 : Int32 → Int32 → St → Prop) (x1 : Int32) (x2 : Int32) (σ : St) : Prop := wX0_rule σ (fun (r1 : Int32) (σ2 : St) => ((r1 = 0 → Q (0 : Int32) σ2) ∧ (¬ (r1 = 0) → ∀ x2_4 : Int32, x2_4 = x2 + 1 → K28 x1 x2_4 σ2)))
def wX0_text_28 (Q : Int32 → St → Prop) (K2 : Int32 → St → Prop) : Nat → Int32 → Int32 → St → Prop
  | 0, _, _, _ => False
  | n + 1, x1, x2, σ => (((30 : Int32) < x2 → wX0_text_67 Q K2 x1 σ) ∧ (¬ ((30 : Int32) < x2) → wX0_kind σ (fun (r2 : Int32) (σ3 : St) => ((r2 = (23 : Int32) → wX0_text_52 Q K2 (fun x1' x2' σ' => wX0_text_28 Q K2 n x1' x2' σ') x1 x2 σ3) ∧ (¬ (r2 = (23 : Int32)) → wX0_kind σ3 (fun (r5 : Int32) (σ6 : St) => ((r5 = (24 : Int32) → wX0_text_52 Q K2 (fun x1' x2' σ' => wX0_text_28 Q K2 n x1' x2' σ') x1 x2 σ6) ∧ (¬ (r5 = (24 : Int32)) → wX0_text_67 Q K2 x1 σ6))))))))
def wX0_text_2 (Q : Int32 → St → Prop) : Nat → Int32 → St → Prop
  | 0, _, _ => False
  | n + 1, x1, σ => (((10 : Int32) < x1 → wX0_text_84 Q σ) ∧ (¬ ((10 : Int32) < x1) → wX0_kind σ (fun (r2 : Int32) (σ3 : St) => ((r2 = (16 : Int32) → wX0_heading σ3 (fun (r5 : Int32) (σ6 : St) => ((r5 = 0 → Q (0 : Int32) σ6) ∧ (¬ (r5 = 0) → ∃ j : Nat, wX0_text_28 Q (fun x1' σ' => wX0_text_2 Q n x1' σ') j x1 (0 : Int32) σ6)))) ∧ (¬ (r2 = (16 : Int32)) → wX0_text_84 Q σ3)))))
def wX0_text (σ : St) (Q : Int32 → St → Prop) : Prop := ∃ j : Nat, wX0_text_2 Q j (0 : Int32) σ
set_option maxHeartbeats 4000000 in
set_option maxRecDepth 100000 in
theorem tX0_text_84 {p : Program} {l : Launch} {e : Env} {s : State} {m : MethodId} {args : Array Value} {below : List Frame} {meth : Method} {c : Code} {E : EE} {base : Nat} (C : Cx p E base s m args meth c cX0_text 3 RX0) (hr : meth.sig.returnType = (some .boolean)) {Q : Int32 → St → Prop} : ∀ (σ : St) (H : Heap) (locs : List Loc) (ls : Array Slot), lv_has ls 3 [(0, .ref (ga E 5))] → GW E base s σ H locs → wX0_text_84 Q σ → W p l e rmX0_text s m args below meth c H locs 0 0 (MQ below (QI E base Q) args s 0 0 (fun q => base ≤ q)) (F0 m 84 ls []) := by
  intro σ H locs ls hl g h
  refine lv_aload_n C.1 C.2.1 dX0_text_84 rfl (lv_at hl 0 rfl) ?_
  refine gx_calli0 g (gx_runV (k := 5) (rest := []) C g mb_X0_kind ml_X0_65 rfl sh_5 (mX0_kind _ _ h) ⟨Nat.le_of_ble_eq_true rfl, Nat.le_of_ble_eq_true rfl⟩ ⟨Nat.le_refl _, Nat.le_refl _⟩ rfl hl.1 rfl (Nat.le_of_ble_eq_true rfl) dX0_text_85) rfl rfl (fun r1 σ2 H locs h g => ?_)
  refine lv_if_ne (tgt := 95) C.1 C.2.1 dX0_text_88 (by decide) (fun c3 => ?_) (fun c3 => ?_)
  · have h := h.2 c3
    refine lv_iconst (v := 0) C.1 C.2.1 dX0_text_95 (by decide) ?_
    exact gx_zret C hr g dX0_text_96 (by decide) h
  · have h := h.1 c3
    refine lv_iconst (v := 1) C.1 C.2.1 dX0_text_91 (by decide) ?_
    refine lv_goto (tgt := 96) C.1 C.2.1 dX0_text_92 (by decide) ?_
    exact gx_zret C hr g dX0_text_96 (by decide) h
set_option maxHeartbeats 4000000 in
set_option maxRecDepth 100000 in
theorem tX0_text_67 {p : Program} {l : Launch} {e : Env} {s : State} {m : MethodId} {args : Array Value} {below : List Frame} {meth : Method} {c : Code} {E : EE} {base : Nat} (C : Cx p E base s m args meth c cX0_text 3 RX0) (hr : meth.sig.returnType = (some .boolean)) {Q : Int32 → St → Prop} {K2 : Int32 → St → Prop} (hK2 : ∀ (x1 : Int32) (σ : St) (H : Heap) (locs : List Loc) (ls : Array Slot), lv_has ls 3 [(0, .ref (ga E 5)), (1, .int x1)] → GW E base s σ H locs → K2 x1 σ → W p l e rmX0_text s m args below meth c H locs 0 0 (MQ below (QI E base Q) args s 0 0 (fun q => base ≤ q)) (F0 m 2 ls [])) : ∀ (x1 : Int32) (σ : St) (H : Heap) (locs : List Loc) (ls : Array Slot), lv_has ls 3 [(0, .ref (ga E 5)), (1, .int x1)] → GW E base s σ H locs → wX0_text_67 Q K2 x1 σ → W p l e rmX0_text s m args below meth c H locs 0 0 (MQ below (QI E base Q) args s 0 0 (fun q => base ≤ q)) (F0 m 67 ls []) := by
  intro x1 σ H locs ls hl g h
  refine lv_aload_n C.1 C.2.1 dX0_text_67 rfl (lv_at hl 0 rfl) ?_
  refine lv_bipush (v := 19) C.1 C.2.1 dX0_text_68 (by decide) ?_
  refine gx_calli0 g (gx_runV (k := 5) (rest := []) C g mb_X0_take ml_X0_76 rfl sh_5 (mX0_take (19 : Int32) _ _ h) ⟨Nat.le_of_ble_eq_true rfl, Nat.le_of_ble_eq_true rfl⟩ ⟨Nat.le_refl _, Nat.le_refl _⟩ rfl hl.1 rfl (Nat.le_of_ble_eq_true rfl) dX0_text_70) rfl rfl (fun r1 σ2 H locs h g => ?_)
  refine lv_if_ne (tgt := 78) C.1 C.2.1 dX0_text_73 (by decide) (fun c3 => ?_) (fun c3 => ?_)
  · have h := h.2 c3
    obtain ⟨x1_4, ex1_4⟩ : ∃ y : Int32, y = x1 + 1 := ⟨_, rfl⟩
    have h := h x1_4 ex1_4
    refine lv_iinc (v := x1_4) (lv' := [(1, .int x1_4), (0, .ref (ga E 5))]) C.1 C.2.1 dX0_text_78 hl (k := 1) rfl (by rw [ex1_4]; rfl) (by decide) rfl (fun ls hl => ?_)
    refine lv_goto (tgt := 2) C.1 C.2.1 dX0_text_81 (by decide) ?_
    exact hK2 x1_4 _ _ _ _ (lv_sub hl [1, 0] rfl) g h
  · have h := h.1 c3
    refine lv_iconst (v := 0) C.1 C.2.1 dX0_text_76 (by decide) ?_
    exact gx_zret C hr g dX0_text_77 (by decide) h
set_option maxHeartbeats 4000000 in
set_option maxRecDepth 100000 in
theorem tX0_text_52 {p : Program} {l : Launch} {e : Env} {s : State} {m : MethodId} {args : Array Value} {below : List Frame} {meth : Method} {c : Code} {E : EE} {base : Nat} (C : Cx p E base s m args meth c cX0_text 3 RX0) (hr : meth.sig.returnType = (some .boolean)) {Q : Int32 → St → Prop} {K2 : Int32 → St → Prop} (hK2 : ∀ (x1 : Int32) (σ : St) (H : Heap) (locs : List Loc) (ls : Array Slot), lv_has ls 3 [(0, .ref (ga E 5)), (1, .int x1)] → GW E base s σ H locs → K2 x1 σ → W p l e rmX0_text s m args below meth c H locs 0 0 (MQ below (QI E base Q) args s 0 0 (fun q => base ≤ q)) (F0 m 2 ls [])) {K28 : Int32 → Int32 → St → Prop} (hK28 : ∀ (x1 : Int32) (x2 : Int32) (σ : St) (H : Heap) (locs : List Loc) (ls : Array Slot), lv_has ls 3 [(0, .ref (ga E 5)), (1, .int x1), (2, .int x2)] → GW E base s σ H locs → K28 x1 x2 σ → W p l e rmX0_text s m args below meth c H locs 0 0 (MQ below (QI E base Q) args s 0 0 (fun q => base ≤ q)) (F0 m 28 ls [])) : ∀ (x1 : Int32) (x2 : Int32) (σ : St) (H : Heap) (locs : List Loc) (ls : Array Slot), lv_has ls 3 [(0, .ref (ga E 5)), (1, .int x1), (2, .int x2)] → GW E base s σ H locs → wX0_text_52 Q K2 K28 x1 x2 σ → W p l e rmX0_text s m args below meth c H locs 0 0 (MQ below (QI E base Q) args s 0 0 (fun q => base ≤ q)) (F0 m 52 ls []) := by
  intro x1 x2 σ H locs ls hl g h
  refine lv_aload_n C.1 C.2.1 dX0_text_52 rfl (lv_at hl 0 rfl) ?_
  refine gx_calli0 g (gx_runV (k := 5) (rest := []) C g mb_X0_rule ml_X0_73 rfl sh_5 (mX0_rule _ _ h) ⟨Nat.le_of_ble_eq_true rfl, Nat.le_of_ble_eq_true rfl⟩ ⟨Nat.le_refl _, Nat.le_refl _⟩ rfl hl.1 rfl (Nat.le_of_ble_eq_true rfl) dX0_text_53) rfl rfl (fun r1 σ2 H locs h g => ?_)
  refine lv_if_ne (tgt := 61) C.1 C.2.1 dX0_text_56 (by decide) (fun c3 => ?_) (fun c3 => ?_)
  · have h := h.2 c3
    obtain ⟨x2_4, ex2_4⟩ : ∃ y : Int32, y = x2 + 1 := ⟨_, rfl⟩
    have h := h x2_4 ex2_4
    refine lv_iinc (v := x2_4) (lv' := [(2, .int x2_4), (0, .ref (ga E 5)), (1, .int x1)]) C.1 C.2.1 dX0_text_61 hl (k := 2) rfl (by rw [ex2_4]; rfl) (by decide) rfl (fun ls hl => ?_)
    refine lv_goto (tgt := 28) C.1 C.2.1 dX0_text_64 (by decide) ?_
    exact hK28 x1 x2_4 _ _ _ _ (lv_sub hl [1, 2, 0] rfl) g h
  · have h := h.1 c3
    refine lv_iconst (v := 0) C.1 C.2.1 dX0_text_59 (by decide) ?_
    exact gx_zret C hr g dX0_text_60 (by decide) h
set_option maxHeartbeats 4000000 in
set_option maxRecDepth 100000 in
theorem tX0_text_28 {p : Program} {l : Launch} {e : Env} {s : State} {m : MethodId} {args : Array Value} {below : List Frame} {meth : Method} {c : Code} {E : EE} {base : Nat} (C : Cx p E base s m args meth c cX0_text 3 RX0) (hr : meth.sig.returnType = (some .boolean)) {Q : Int32 → St → Prop} {K2 : Int32 → St → Prop} (hK2 : ∀ (x1 : Int32) (σ : St) (H : Heap) (locs : List Loc) (ls : Array Slot), lv_has ls 3 [(0, .ref (ga E 5)), (1, .int x1)] → GW E base s σ H locs → K2 x1 σ → W p l e rmX0_text s m args below meth c H locs 0 0 (MQ below (QI E base Q) args s 0 0 (fun q => base ≤ q)) (F0 m 2 ls [])) : ∀ (n : Nat) (x1 : Int32) (x2 : Int32) (σ : St) (H : Heap) (locs : List Loc) (ls : Array Slot), lv_has ls 3 [(0, .ref (ga E 5)), (1, .int x1), (2, .int x2)] → GW E base s σ H locs → wX0_text_28 Q K2 n x1 x2 σ → W p l e rmX0_text s m args below meth c H locs 0 0 (MQ below (QI E base Q) args s 0 0 (fun q => base ≤ q)) (F0 m 28 ls []) := by
  intro n
  induction n with
  | zero => intro _ _; intros; exact False.elim (by assumption)
  | succ n ih =>
    intro x1 x2 σ H locs ls hl g h
    refine lv_iload_n C.1 C.2.1 dX0_text_28 rfl (lv_at hl 2 rfl) ?_
    refine lv_bipush (v := 30) C.1 C.2.1 dX0_text_29 (by decide) ?_
    refine lv_icmp_gt (tgt := 67) C.1 C.2.1 dX0_text_31 (by decide) (fun c1 => ?_) (fun c1 => ?_)
    · have h := h.1 c1
      exact tX0_text_67 C hr hK2 x1 _ _ _ _ (lv_sub hl [0, 1] rfl) g h
    · have h := h.2 c1
      refine lv_aload_n C.1 C.2.1 dX0_text_34 rfl (lv_at hl 0 rfl) ?_
      refine gx_calli0 g (gx_runV (k := 5) (rest := []) C g mb_X0_kind ml_X0_65 rfl sh_5 (mX0_kind _ _ h) ⟨Nat.le_of_ble_eq_true rfl, Nat.le_of_ble_eq_true rfl⟩ ⟨Nat.le_refl _, Nat.le_refl _⟩ rfl hl.1 rfl (Nat.le_of_ble_eq_true rfl) dX0_text_35) rfl rfl (fun r2 σ3 H locs h g => ?_)
      refine lv_bipush (v := 23) C.1 C.2.1 dX0_text_38 (by decide) ?_
      refine lv_icmp_eq (tgt := 52) C.1 C.2.1 dX0_text_40 (by decide) (fun c4 => ?_) (fun c4 => ?_)
      · have h := h.1 c4
        exact tX0_text_52 C hr hK2 ih x1 x2 _ _ _ _ (lv_sub hl [0, 1, 2] rfl) g h
      · have h := h.2 c4
        refine lv_aload_n C.1 C.2.1 dX0_text_43 rfl (lv_at hl 0 rfl) ?_
        refine gx_calli0 g (gx_runV (k := 5) (rest := []) C g mb_X0_kind ml_X0_65 rfl sh_5 (mX0_kind _ _ h) ⟨Nat.le_of_ble_eq_true rfl, Nat.le_of_ble_eq_true rfl⟩ ⟨Nat.le_refl _, Nat.le_refl _⟩ rfl hl.1 rfl (Nat.le_of_ble_eq_true rfl) dX0_text_44) rfl rfl (fun r5 σ6 H locs h g => ?_)
        refine lv_bipush (v := 24) C.1 C.2.1 dX0_text_47 (by decide) ?_
        refine lv_icmp_ne (tgt := 67) C.1 C.2.1 dX0_text_49 (by decide) (fun c7 => ?_) (fun c7 => ?_)
        · have h := h.2 c7
          exact tX0_text_67 C hr hK2 x1 _ _ _ _ (lv_sub hl [0, 1] rfl) g h
        · have h := h.1 c7
          exact tX0_text_52 C hr hK2 ih x1 x2 _ _ _ _ (lv_sub hl [0, 1, 2] rfl) g h
set_option maxHeartbeats 4000000 in
set_option maxRecDepth 100000 in
theorem tX0_text_2 {p : Program} {l : Launch} {e : Env} {s : State} {m : MethodId} {args : Array Value} {below : List Frame} {meth : Method} {c : Code} {E : EE} {base : Nat} (C : Cx p E base s m args meth c cX0_text 3 RX0) (hr : meth.sig.returnType = (some .boolean)) {Q : Int32 → St → Prop} : ∀ (n : Nat) (x1 : Int32) (σ : St) (H : Heap) (locs : List Loc) (ls : Array Slot), lv_has ls 3 [(0, .ref (ga E 5)), (1, .int x1)] → GW E base s σ H locs → wX0_text_2 Q n x1 σ → W p l e rmX0_text s m args below meth c H locs 0 0 (MQ below (QI E base Q) args s 0 0 (fun q => base ≤ q)) (F0 m 2 ls []) := by
  intro n
  induction n with
  | zero => intro _; intros; exact False.elim (by assumption)
  | succ n ih =>
    intro x1 σ H locs ls hl g h
    refine lv_iload_n C.1 C.2.1 dX0_text_2 rfl (lv_at hl 1 rfl) ?_
    refine lv_bipush (v := 10) C.1 C.2.1 dX0_text_3 (by decide) ?_
    refine lv_icmp_gt (tgt := 84) C.1 C.2.1 dX0_text_5 (by decide) (fun c1 => ?_) (fun c1 => ?_)
    · have h := h.1 c1
      exact tX0_text_84 C hr _ _ _ _ (lv_sub hl [0] rfl) g h
    · have h := h.2 c1
      refine lv_aload_n C.1 C.2.1 dX0_text_8 rfl (lv_at hl 0 rfl) ?_
      refine gx_calli0 g (gx_runV (k := 5) (rest := []) C g mb_X0_kind ml_X0_65 rfl sh_5 (mX0_kind _ _ h) ⟨Nat.le_of_ble_eq_true rfl, Nat.le_of_ble_eq_true rfl⟩ ⟨Nat.le_refl _, Nat.le_refl _⟩ rfl hl.1 rfl (Nat.le_of_ble_eq_true rfl) dX0_text_9) rfl rfl (fun r2 σ3 H locs h g => ?_)
      refine lv_bipush (v := 16) C.1 C.2.1 dX0_text_12 (by decide) ?_
      refine lv_icmp_ne (tgt := 84) C.1 C.2.1 dX0_text_14 (by decide) (fun c4 => ?_) (fun c4 => ?_)
      · have h := h.2 c4
        exact tX0_text_84 C hr _ _ _ _ (lv_sub hl [0] rfl) g h
      · have h := h.1 c4
        refine lv_aload_n C.1 C.2.1 dX0_text_17 rfl (lv_at hl 0 rfl) ?_
        refine gx_calli0 g (gx_runV (k := 5) (rest := []) C g mb_X0_heading ml_X0_69 rfl sh_5 (mX0_heading _ _ h) ⟨Nat.le_of_ble_eq_true rfl, Nat.le_of_ble_eq_true rfl⟩ ⟨Nat.le_refl _, Nat.le_refl _⟩ rfl hl.1 rfl (Nat.le_of_ble_eq_true rfl) dX0_text_18) rfl rfl (fun r5 σ6 H locs h g => ?_)
        refine lv_if_ne (tgt := 26) C.1 C.2.1 dX0_text_21 (by decide) (fun c7 => ?_) (fun c7 => ?_)
        · have h := h.2 c7
          refine lv_iconst (v := 0) C.1 C.2.1 dX0_text_26 (by decide) ?_
          refine lv_istore_n (lv' := [(2, .int (0 : Int32)), (0, .ref (ga E 5)), (1, .int x1)]) C.1 C.2.1 dX0_text_27 rfl hl (by decide) rfl (fun ls hl => ?_)
          obtain ⟨j, h⟩ := h
          exact tX0_text_28 C hr ih j x1 (0 : Int32) _ _ _ _ (lv_sub hl [1, 2, 0] rfl) g h
        · have h := h.1 c7
          refine lv_iconst (v := 0) C.1 C.2.1 dX0_text_24 (by decide) ?_
          exact gx_zret C hr g dX0_text_25 (by decide) h
set_option maxHeartbeats 4000000 in
set_option maxRecDepth 100000 in
theorem tX0_text_e {p : Program} {l : Launch} {e : Env} {s : State} {m : MethodId} {args : Array Value} {below : List Frame} {meth : Method} {c : Code} {E : EE} {base : Nat} (C : Cx p E base s m args meth c cX0_text 3 RX0) (hr : meth.sig.returnType = (some .boolean)) {Q : Int32 → St → Prop} : ∀ (σ : St) (H : Heap) (locs : List Loc) (ls : Array Slot), lv_has ls 3 [(0, .ref (ga E 5))] → GW E base s σ H locs → wX0_text σ Q → W p l e rmX0_text s m args below meth c H locs 0 0 (MQ below (QI E base Q) args s 0 0 (fun q => base ≤ q)) (F0 m 0 ls []) := by
  intro σ H locs ls hl g h
  refine lv_iconst (v := 0) C.1 C.2.1 dX0_text_0 (by decide) ?_
  refine lv_istore_n (lv' := [(1, .int (0 : Int32)), (0, .ref (ga E 5))]) C.1 C.2.1 dX0_text_1 rfl hl (by decide) rfl (fun ls hl => ?_)
  obtain ⟨j, h⟩ := h
  exact tX0_text_2 C hr j (0 : Int32) _ _ _ _ (lv_sub hl [1, 0] rfl) g h
theorem mX0_text {l : Launch} {E : EE} {base : Nat} (σ : St) (Q : Int32 → St → Prop) (h : wX0_text σ Q) : Met l yX0_text (wy yX0_text cX0_text 3 (some .boolean)) rmX0_text (va_Pc [.ref (ga E 5)] (fun U => SW E base σ U)) (QI E base Q) (rmX0_text).cells (rmX0_text).slots (fun q => base ≤ q) :=
  met_of (by decide) (Nat.le_of_ble_eq_true rfl) (fun p e s m args below meth c C hr g ls hl => tX0_text_e C hr  _ _ _ _ hl g h)
abbrev rmX0_close : Room := { frames := 1, cells := 0, slots := 0, locals := 20 }
def wX0_close_61 (Q : Int32 → St → Prop) (σ : St) : Prop := ∀ σ1 : St, σ1 = pv σ 5 2 (gv σ 5 7) → Q (gv σ1 5 6) σ1
def wX0_close_39 (Q : Int32 → St → Prop) (xt1 : Int32) (σ : St) : Prop := ∀ σ1 : St, σ1 = pv σ 5 2 xt1 → Q (gv σ1 5 5) σ1
def wX0_close (x1 : Int32) (σ : St) (Q : Int32 → St → Prop) : Prop := ∀ σ1 : St, σ1 = pv σ 6 0 (0 : Int32) → ((x1 = 0 → (((600 : Int32) < (gv σ1 5 4) → wX0_close_39 Q (-1 : Int32) σ1) ∧ (¬ ((600 : Int32) < (gv σ1 5 4)) → vp_in (gv σ1 5 4) 601 ∧ wX0_close_39 Q (gv σ1 26 (gv σ1 5 4).toNatClampNeg) σ1))) ∧ (¬ (x1 = 0) → (((gv σ1 5 6) = 0 → wX2_takeDraft σ1 (fun (σ5 : St) => wX0_close_61 Q σ5)) ∧ (¬ ((gv σ1 5 6) = 0) → wX0_close_61 Q σ1))))
set_option maxHeartbeats 4000000 in
set_option maxRecDepth 100000 in
theorem tX0_close_61 {p : Program} {l : Launch} {e : Env} {s : State} {m : MethodId} {args : Array Value} {below : List Frame} {meth : Method} {c : Code} {E : EE} {base : Nat} (C : Cx p E base s m args meth c cX0_close 2 RX0) (hr : meth.sig.returnType = (some .int)) {Q : Int32 → St → Prop} : ∀ (σ : St) (H : Heap) (locs : List Loc) (ls : Array Slot), lv_has ls 2 [(0, .ref (ga E 5))] → GW E base s σ H locs → wX0_close_61 Q σ → W p l e rmX0_close s m args below meth c H locs 0 0 (MQ below (QI E base Q) args s 0 0 (fun q => base ≤ q)) (F0 m 61 ls []) := by
  intro σ H locs ls hl g h
  refine lv_aload_n C.1 C.2.1 dX0_close_61 rfl (lv_at hl 0 rfl) ?_
  refine lv_aload_n C.1 C.2.1 dX0_close_62 rfl (lv_at hl 0 rfl) ?_
  refine gx_getI C g fl_X0_45 dX0_close_63 sh_5 rfl ?_
  refine gx_putI C g fi_X0_25 dX0_close_66 sh_5 rfl (fun H locs σ1 eσ1 g => ?_)
  have h := h σ1 eσ1
  refine lv_aload_n C.1 C.2.1 dX0_close_69 rfl (lv_at hl 0 rfl) ?_
  refine gx_getI C g fl_X0_42 dX0_close_70 sh_5 rfl ?_
  exact gx_iret C hr g dX0_close_73 h
set_option maxHeartbeats 4000000 in
set_option maxRecDepth 100000 in
theorem tX0_close_39 {p : Program} {l : Launch} {e : Env} {s : State} {m : MethodId} {args : Array Value} {below : List Frame} {meth : Method} {c : Code} {E : EE} {base : Nat} (C : Cx p E base s m args meth c cX0_close 2 RX0) (hr : meth.sig.returnType = (some .int)) {Q : Int32 → St → Prop} : ∀ (xt1 : Int32) (σ : St) (H : Heap) (locs : List Loc) (ls : Array Slot), lv_has ls 2 [(0, .ref (ga E 5))] → GW E base s σ H locs → wX0_close_39 Q xt1 σ → W p l e rmX0_close s m args below meth c H locs 0 0 (MQ below (QI E base Q) args s 0 0 (fun q => base ≤ q)) (F0 m 39 ls [.int xt1, .ref (ga E 5)]) := by
  intro xt1 σ H locs ls hl g h
  refine gx_putI C g fi_X0_25 dX0_close_39 sh_5 rfl (fun H locs σ1 eσ1 g => ?_)
  have h := h σ1 eσ1
  refine lv_aload_n C.1 C.2.1 dX0_close_42 rfl (lv_at hl 0 rfl) ?_
  refine gx_getI C g fl_X0_39 dX0_close_43 sh_5 rfl ?_
  exact gx_iret C hr g dX0_close_46 h
set_option maxHeartbeats 4000000 in
set_option maxRecDepth 100000 in
theorem tX0_close_e {p : Program} {l : Launch} {e : Env} {s : State} {m : MethodId} {args : Array Value} {below : List Frame} {meth : Method} {c : Code} {E : EE} {base : Nat} (C : Cx p E base s m args meth c cX0_close 2 RX0) (hr : meth.sig.returnType = (some .int)) {Q : Int32 → St → Prop} : ∀ (x1 : Int32) (σ : St) (H : Heap) (locs : List Loc) (ls : Array Slot), lv_has ls 2 [(0, .ref (ga E 5)), (1, .int x1)] → GW E base s σ H locs → wX0_close x1 σ Q → W p l e rmX0_close s m args below meth c H locs 0 0 (MQ below (QI E base Q) args s 0 0 (fun q => base ≤ q)) (F0 m 0 ls []) := by
  intro x1 σ H locs ls hl g h
  refine lv_aload_n C.1 C.2.1 dX0_close_0 rfl (lv_at hl 0 rfl) ?_
  refine gx_getR C g fl_X0_12 dX0_close_1 sh_5 rfl (by decide) ?_
  refine lv_iconst (v := 0) C.1 C.2.1 dX0_close_4 (by decide) ?_
  refine gx_putI C g fi_X0_55 dX0_close_5 sh_6 rfl (fun H locs σ1 eσ1 g => ?_)
  have h := h σ1 eσ1
  refine lv_iload_n C.1 C.2.1 dX0_close_8 rfl (lv_at hl 1 rfl) ?_
  refine lv_if_ne (tgt := 47) C.1 C.2.1 dX0_close_9 (by decide) (fun c2 => ?_) (fun c2 => ?_)
  · have h := h.2 c2
    refine lv_aload_n C.1 C.2.1 dX0_close_47 rfl (lv_at hl 0 rfl) ?_
    refine gx_getI C g fl_X0_42 dX0_close_48 sh_5 rfl ?_
    refine lv_if_ne (tgt := 61) C.1 C.2.1 dX0_close_51 (by decide) (fun c3 => ?_) (fun c3 => ?_)
    · have h := h.2 c3
      exact tX0_close_61 C hr _ _ _ _ (lv_sub hl [0] rfl) g h
    · have h := h.1 c3
      refine lv_aload_n C.1 C.2.1 dX0_close_54 rfl (lv_at hl 0 rfl) ?_
      refine gx_getR C g fl_X0_21 dX0_close_55 sh_5 rfl (by decide) ?_
      refine gx_callv0 g (gx_runV (k := 8) (rest := []) C g mb_X2_takeDraft ml_X0_62 rfl sh_8 (mX2_takeDraft _ _ h) ⟨Nat.le_of_ble_eq_true rfl, Nat.le_of_ble_eq_true rfl⟩ ⟨Nat.le_refl _, Nat.le_refl _⟩ rfl hl.1 rfl (Nat.le_of_ble_eq_true rfl) dX0_close_58) rfl rfl (fun σ5 H locs h g => ?_)
      exact tX0_close_61 C hr _ _ _ _ (lv_sub hl [0] rfl) g h
  · have h := h.1 c2
    refine lv_aload_n C.1 C.2.1 dX0_close_12 rfl (lv_at hl 0 rfl) ?_
    refine lv_aload_n C.1 C.2.1 dX0_close_13 rfl (lv_at hl 0 rfl) ?_
    refine gx_getI C g fl_X0_36 dX0_close_14 sh_5 rfl ?_
    refine lv_sipush (v := 600) C.1 C.2.1 dX0_close_17 (by decide) ?_
    refine lv_icmp_gt (tgt := 38) C.1 C.2.1 dX0_close_20 (by decide) (fun c6 => ?_) (fun c6 => ?_)
    · have h := h.1 c6
      refine lv_iconst (v := -1) C.1 C.2.1 dX0_close_38 (by decide) ?_
      exact tX0_close_39 C hr (-1 : Int32) _ _ _ _ (lv_sub hl [0] rfl) g h
    · have h := h.2 c6
      refine lv_aload_n C.1 C.2.1 dX0_close_23 rfl (lv_at hl 0 rfl) ?_
      refine gx_getR C g fl_X0_32 dX0_close_24 sh_5 rfl (by decide) ?_
      refine gx_getR C g fl_X0_58 dX0_close_27 sh_7 rfl (by decide) ?_
      refine lv_aload_n C.1 C.2.1 dX0_close_30 rfl (lv_at hl 0 rfl) ?_
      refine gx_getI C g fl_X0_36 dX0_close_31 sh_5 rfl ?_
      obtain ⟨i7, h⟩ := h
      refine gx_iald C g dX0_close_34 sh_26 i7 ?_
      refine lv_goto (tgt := 39) C.1 C.2.1 dX0_close_35 (by decide) ?_
      exact tX0_close_39 C hr (gv σ1 26 (gv σ1 5 4).toNatClampNeg) _ _ _ _ (lv_sub hl [0] rfl) g h
theorem mX0_close {l : Launch} {E : EE} {base : Nat} (x1 : Int32) (σ : St) (Q : Int32 → St → Prop) (h : wX0_close x1 σ Q) : Met l yX0_close (wy yX0_close cX0_close 2 (some .int)) rmX0_close (va_Pc [.ref (ga E 5), .int x1] (fun U => SW E base σ U)) (QI E base Q) (rmX0_close).cells (rmX0_close).slots (fun q => base ≤ q) :=
  met_of (by decide) (Nat.le_of_ble_eq_true rfl) (fun p e s m args below meth c C hr g ls hl => tX0_close_e C hr x1 _ _ _ _ hl g h)
