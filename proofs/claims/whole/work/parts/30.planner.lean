abbrev rmX5_ask : Room := { frames := 2, cells := 0, slots := 0, locals := 36 }
def wX5_ask (x1 : Int32) (x2 : Int32) (x3 : Int32) (σ : St) (Q : St → Prop) : Prop := ∀ σ1 : St, σ1 = pv σ 10 6 x1 → ∀ σ2 : St, σ2 = pv σ1 10 7 x2 → ∀ σ3 : St, σ3 = pv σ2 10 8 x3 → wX3_mostWork x1 σ3 (fun (r4 : Int32) (σ5 : St) => ∀ σ6 : St, σ6 = pv σ5 10 9 r4 → vp_in x1 7 ∧ ∀ σ8 : St, σ8 = pv σ6 10 10 (gv σ6 14 x1.toNatClampNeg) → ∀ σ9 : St, σ9 = pv σ8 10 5 (2147483647 : Int32) → Q σ9)
abbrev rmX5_keep : Room := { frames := 1, cells := 0, slots := 0, locals := 40 }
def wX5_keep (σ : St) (Q : Int32 → St → Prop) : Prop := (((gv σ 10 5) = (2147483647 : Int32) → Q (-1 : Int32) σ) ∧ (¬ ((gv σ 10 5) = (2147483647 : Int32)) → ∀ σ2 : St, σ2 = pa σ 44 (gr σ 47) → ∀ σ3 : St, σ3 = pv σ2 10 1 (gv σ2 10 7) → Q (gv σ3 10 5) σ3))
set_option maxHeartbeats 4000000 in
set_option maxRecDepth 100000 in
theorem tX5_ask_e {p : Program} {l : Launch} {e : Env} {s : State} {m : MethodId} {args : Array Value} {below : List Frame} {meth : Method} {c : Code} {E : EE} {base : Nat} (C : Cx p E base s m args meth c cX5_ask 5 RX5) (hr : meth.sig.returnType = none) {Q : St → Prop} : ∀ (x1 : Int32) (x2 : Int32) (x3 : Int32) (σ : St) (H : Heap) (locs : List Loc) (ls : Array Slot), lv_has ls 5 [(0, .ref (ga E 10)), (1, .int x1), (2, .int x2), (3, .int x3), (4, .ref (ga E 2))] → GW E base s σ H locs → wX5_ask x1 x2 x3 σ Q → W p l e rmX5_ask s m args below meth c H locs 0 0 (MQ below (QV E base Q) args s 0 0 (fun q => base ≤ q)) (F0 m 0 ls []) := by
  intro x1 x2 x3 σ H locs ls hl g h
  refine lv_aload_n C.1 C.2.1 dX5_ask_0 rfl (lv_at hl 0 rfl) ?_
  refine lv_iload_n C.1 C.2.1 dX5_ask_1 rfl (lv_at hl 1 rfl) ?_
  refine gx_putI C g fi_X5_32 dX5_ask_2 sh_10 rfl (fun H locs σ1 eσ1 g => ?_)
  have h := h σ1 eσ1
  refine lv_aload_n C.1 C.2.1 dX5_ask_5 rfl (lv_at hl 0 rfl) ?_
  refine lv_iload_n C.1 C.2.1 dX5_ask_6 rfl (lv_at hl 2 rfl) ?_
  refine gx_putI C g fi_X5_35 dX5_ask_7 sh_10 rfl (fun H locs σ2 eσ2 g => ?_)
  have h := h σ2 eσ2
  refine lv_aload_n C.1 C.2.1 dX5_ask_10 rfl (lv_at hl 0 rfl) ?_
  refine lv_iload_n C.1 C.2.1 dX5_ask_11 rfl (lv_at hl 3 rfl) ?_
  refine gx_putI C g fi_X5_38 dX5_ask_12 sh_10 rfl (fun H locs σ3 eσ3 g => ?_)
  have h := h σ3 eσ3
  refine lv_aload_n C.1 C.2.1 dX5_ask_15 rfl (lv_at hl 0 rfl) ?_
  refine lv_aload C.1 C.2.1 dX5_ask_16 (lv_at hl 4 rfl) ?_
  refine lv_iload_n C.1 C.2.1 dX5_ask_18 rfl (lv_at hl 1 rfl) ?_
  refine gx_calli0 g (gx_runV (k := 2) (rest := [.ref (ga E 10)]) C g mb_X3_mostWork ml_X5_41 rfl sh_2 (mX3_mostWork x1 _ _ h) ⟨Nat.le_of_ble_eq_true rfl, Nat.le_of_ble_eq_true rfl⟩ ⟨Nat.le_refl _, Nat.le_refl _⟩ rfl hl.1 rfl (Nat.le_of_ble_eq_true rfl) dX5_ask_19) rfl rfl (fun r4 σ5 H locs h g => ?_)
  refine gx_putI C g fi_X5_47 dX5_ask_22 sh_10 rfl (fun H locs σ6 eσ6 g => ?_)
  have h := h σ6 eσ6
  refine lv_aload_n C.1 C.2.1 dX5_ask_25 rfl (lv_at hl 0 rfl) ?_
  refine lv_aload C.1 C.2.1 dX5_ask_26 (lv_at hl 4 rfl) ?_
  refine gx_getR C g fl_X5_49 dX5_ask_28 sh_2 rfl (by decide) ?_
  refine lv_iload_n C.1 C.2.1 dX5_ask_31 rfl (lv_at hl 1 rfl) ?_
  obtain ⟨i7, h⟩ := h
  refine gx_iald C g dX5_ask_32 sh_14 i7 ?_
  refine gx_putI C g fi_X5_52 dX5_ask_33 sh_10 rfl (fun H locs σ8 eσ8 g => ?_)
  have h := h σ8 eσ8
  refine lv_aload_n C.1 C.2.1 dX5_ask_36 rfl (lv_at hl 0 rfl) ?_
  refine gx_ldc C ck_X5_57 dX5_ask_37 ?_
  refine gx_putI C g fi_X5_58 dX5_ask_39 sh_10 rfl (fun H locs σ9 eσ9 g => ?_)
  have h := h σ9 eσ9
  exact gx_vret C hr g dX5_ask_42 h
theorem mX5_ask {l : Launch} {E : EE} {base : Nat} (x1 : Int32) (x2 : Int32) (x3 : Int32) (σ : St) (Q : St → Prop) (h : wX5_ask x1 x2 x3 σ Q) : Met l yX5_ask (wy yX5_ask cX5_ask 5 none) rmX5_ask (va_Pc [.ref (ga E 10), .int x1, .int x2, .int x3, .ref (ga E 2)] (fun U => SW E base σ U)) (QV E base Q) (rmX5_ask).cells (rmX5_ask).slots (fun q => base ≤ q) :=
  met_of (by decide) (Nat.le_of_ble_eq_true rfl) (fun p e s m args below meth c C hr g ls hl => tX5_ask_e C hr x1 x2 x3 _ _ _ _ hl g h)
set_option maxHeartbeats 4000000 in
set_option maxRecDepth 100000 in
theorem tX5_keep_e {p : Program} {l : Launch} {e : Env} {s : State} {m : MethodId} {args : Array Value} {below : List Frame} {meth : Method} {c : Code} {E : EE} {base : Nat} (C : Cx p E base s m args meth c cX5_keep 1 RX5) (hr : meth.sig.returnType = (some .int)) {Q : Int32 → St → Prop} : ∀ (σ : St) (H : Heap) (locs : List Loc) (ls : Array Slot), lv_has ls 1 [(0, .ref (ga E 10))] → GW E base s σ H locs → wX5_keep σ Q → W p l e rmX5_keep s m args below meth c H locs 0 0 (MQ below (QI E base Q) args s 0 0 (fun q => base ≤ q)) (F0 m 0 ls []) := by
  intro σ H locs ls hl g h
  refine lv_aload_n C.1 C.2.1 dX5_keep_0 rfl (lv_at hl 0 rfl) ?_
  refine gx_getI C g fl_X5_58 dX5_keep_1 sh_10 rfl ?_
  refine gx_ldc C ck_X5_57 dX5_keep_4 ?_
  refine lv_icmp_ne (tgt := 11) C.1 C.2.1 dX5_keep_6 (by decide) (fun c1 => ?_) (fun c1 => ?_)
  · have h := h.2 c1
    refine lv_aload_n C.1 C.2.1 dX5_keep_11 rfl (lv_at hl 0 rfl) ?_
    refine gx_getR C g fl_X5_28 dX5_keep_12 sh_10 rfl (by decide) ?_
    refine lv_iconst (v := 0) C.1 C.2.1 dX5_keep_15 (by decide) ?_
    refine lv_aload_n C.1 C.2.1 dX5_keep_16 rfl (lv_at hl 0 rfl) ?_
    refine gx_getR C g fl_X5_11 dX5_keep_17 sh_10 rfl (by decide) ?_
    refine lv_iconst (v := 0) C.1 C.2.1 dX5_keep_20 (by decide) ?_
    refine lv_bipush (v := 6) C.1 C.2.1 dX5_keep_21 (by decide) ?_
    refine gx_copy (k0 := 47) (k1 := 44) (n := 6) (rest := []) C g al_X5_61 hl.1 (Nat.le_of_ble_eq_true rfl) (Nat.le_of_ble_eq_true rfl) sh_47 sh_44 rfl (by decide) dX5_keep_23 (fun H locs σ2 eσ2 g => ?_)
    have h := h σ2 eσ2
    refine lv_aload_n C.1 C.2.1 dX5_keep_26 rfl (lv_at hl 0 rfl) ?_
    refine lv_aload_n C.1 C.2.1 dX5_keep_27 rfl (lv_at hl 0 rfl) ?_
    refine gx_getI C g fl_X5_35 dX5_keep_28 sh_10 rfl ?_
    refine gx_putI C g fi_X5_15 dX5_keep_31 sh_10 rfl (fun H locs σ3 eσ3 g => ?_)
    have h := h σ3 eσ3
    refine lv_aload_n C.1 C.2.1 dX5_keep_34 rfl (lv_at hl 0 rfl) ?_
    refine gx_getI C g fl_X5_58 dX5_keep_35 sh_10 rfl ?_
    exact gx_iret C hr g dX5_keep_38 h
  · have h := h.1 c1
    refine lv_iconst (v := -1) C.1 C.2.1 dX5_keep_9 (by decide) ?_
    exact gx_iret C hr g dX5_keep_10 h
theorem mX5_keep {l : Launch} {E : EE} {base : Nat} (σ : St) (Q : Int32 → St → Prop) (h : wX5_keep σ Q) : Met l yX5_keep (wy yX5_keep cX5_keep 1 (some .int)) rmX5_keep (va_Pc [.ref (ga E 10)] (fun U => SW E base σ U)) (QI E base Q) (rmX5_keep).cells (rmX5_keep).slots (fun q => base ≤ q) :=
  met_of (by decide) (Nat.le_of_ble_eq_true rfl) (fun p e s m args below meth c C hr g ls hl => tX5_keep_e C hr  _ _ _ _ hl g h)
