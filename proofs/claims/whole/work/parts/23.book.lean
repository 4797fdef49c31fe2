abbrev rmX0_kind : Room := { frames := 0, cells := 0, slots := 0, locals := 0 }
def wX0_kind (σ : St) (Q : Int32 → St → Prop) : Prop := (((600 : Int32) < (gv σ 5 4) → Q (1 : Int32) σ) ∧ (¬ ((600 : Int32) < (gv σ 5 4)) → vp_in (gv σ 5 4) 601 ∧ Q (gv σ 25 (gv σ 5 4).toNatClampNeg) σ))
abbrev rmX0_stop : Room := { frames := 0, cells := 0, slots := 0, locals := 0 }
def wX0_stop_38 (Q : Int32 → St → Prop) (xt1 : Int32) (σ : St) : Prop := ∀ σ1 : St, σ1 = pv σ 5 2 xt1 → Q (0 : Int32) σ1
def wX0_stop (x1 : Int32) (σ : St) (Q : Int32 → St → Prop) : Prop := ∀ σ1 : St, σ1 = pv σ 5 5 x1 → (((600 : Int32) < (gv σ1 5 4) → wX0_stop_38 Q (gv σ1 6 0) σ1) ∧ (¬ ((600 : Int32) < (gv σ1 5 4)) → vp_in (gv σ1 5 4) 601 ∧ wX0_stop_38 Q (gv σ1 26 (gv σ1 5 4).toNatClampNeg) σ1))
abbrev rmX0_take : Room := { frames := 1, cells := 0, slots := 0, locals := 21 }
def wX0_take (x1 : Int32) (σ : St) (Q : Int32 → St → Prop) : Prop := wX0_kind σ (fun (r1 : Int32) (σ2 : St) => ((r1 = x1 → (((gv σ2 5 4) < (600 : Int32) → ∀ σ5 : St, σ5 = pv σ2 5 4 ((gv σ2 5 4) + (1 : Int32)) → Q (1 : Int32) σ5) ∧ (¬ ((gv σ2 5 4) < (600 : Int32)) → wX0_stop (2 : Int32) σ2 (fun (r6 : Int32) (σ7 : St) => narrow .boolean (.int r6) = .int r6 ∧ Q r6 σ7)))) ∧ (¬ (r1 = x1) → wX0_stop (1 : Int32) σ2 (fun (r8 : Int32) (σ9 : St) => narrow .boolean (.int r8) = .int r8 ∧ Q r8 σ9))))
abbrev rmX0_note : Room := { frames := 0, cells := 0, slots := 0, locals := 0 }
def wX0_note (x1 : Int32) (x2 : Int32) (σ : St) (Q : St → Prop) : Prop := (((gv σ 5 6) = 0 → (((600 : Int32) < x2 → Q σ) ∧ (¬ ((600 : Int32) < x2) → ∀ σ3 : St, σ3 = pv σ 5 6 x1 → vp_in x2 601 ∧ ∀ σ5 : St, σ5 = pv σ3 5 7 (gv σ3 26 x2.toNatClampNeg) → Q σ5))) ∧ (¬ ((gv σ 5 6) = 0) → Q σ))
abbrev rmX0_heading : Room := { frames := 2, cells := 0, slots := 0, locals := 47 }
def wX0_heading_184 (Q : Int32 → St → Prop) (y2 : Int64) (x5 : Int32) (x6 : Int32) (σ : St) : Prop := wX2_draftAct y2 x5 x6 σ (fun (σ2 : St) => wX0_take (4 : Int32) σ2 (fun (r3 : Int32) (σ4 : St) => narrow .boolean (.int r3) = .int r3 ∧ Q r3 σ4))
def wX0_heading_74 (Q : Int32 → St → Prop) (y2 : Int64) (σ : St) : Prop := ∀ x4_1 : Int32, x4_1 = (gv σ 5 4) + (1 : Int32) → wX0_take (17 : Int32) σ (fun (r2 : Int32) (σ3 : St) => ((r2 = 0 → Q (0 : Int32) σ3) ∧ (¬ (r2 = 0) → wX0_take (2 : Int32) σ3 (fun (r5 : Int32) (σ6 : St) => ((r5 = 0 → Q (0 : Int32) σ6) ∧ (¬ (r5 = 0) → wX9_number x4_1 σ6 (fun (r8 : Int32) (σ9 : St) => wX0_kind σ9 (fun (r10 : Int32) (σ11 : St) => ((r10 = (18 : Int32) → ∀ x7_13 : Int32, x7_13 = (gv σ11 5 4) + (1 : Int32) → wX0_take (18 : Int32) σ11 (fun (r14 : Int32) (σ15 : St) => ((r14 = 0 → Q (0 : Int32) σ15) ∧ (¬ (r14 = 0) → wX0_take (2 : Int32) σ15 (fun (r17 : Int32) (σ18 : St) => ((r17 = 0 → Q (0 : Int32) σ18) ∧ (¬ (r17 = 0) → wX9_number x7_13 σ18 (fun (r20 : Int32) (σ21 : St) => ((r8 < r20 → wX0_heading_184 Q y2 r8 r20 σ21) ∧ (¬ (r8 < r20) → wX0_note (5 : Int32) x7_13 σ21 (fun (σ24 : St) => wX0_heading_184 Q y2 r8 r20 σ24))))))))))) ∧ (¬ (r10 = (18 : Int32)) → wX0_heading_184 Q y2 r8 (-1 : Int32) σ11))))))))))
def wX0_heading (σ : St) (Q : Int32 → St → Prop) : Prop := (((gv σ 8 2) < (10 : Int32) → ∀ x1_2 : Int32, x1_2 = (gv σ 5 4) + (1 : Int32) → wX0_take (16 : Int32) σ (fun (r3 : Int32) (σ4 : St) => ((r3 = 0 → Q (0 : Int32) σ4) ∧ (¬ (r3 = 0) → wX0_take (3 : Int32) σ4 (fun (r6 : Int32) (σ7 : St) => ((r6 = 0 → Q (0 : Int32) σ7) ∧ (¬ (r6 = 0) → wX9_name x1_2 σ7 (fun (r9 : Int64) (σ10 : St) => wX2_hasAct r9 σ10 (fun (r11 : Int32) (σ12 : St) => ((r11 = 0 → wX0_heading_74 Q r9 σ12) ∧ (¬ (r11 = 0) → wX0_note (3 : Int32) x1_2 σ12 (fun (σ15 : St) => wX0_heading_74 Q r9 σ15)))))))))))) ∧ (¬ ((gv σ 8 2) < (10 : Int32)) → wX0_stop (2 : Int32) σ (fun (r16 : Int32) (σ17 : St) => narrow .boolean (.int r16) = .int r16 ∧ Q r16 σ17)))
abbrev rmX0_who : Room := { frames := 2, cells := 0, slots := 0, locals := 46 }
def wX0_who (x1 : Int32) (σ : St) (Q : Int32 → St → Prop) : Prop := vp_in x1 30 ∧ ∀ σ2 : St, σ2 = pv σ 27 x1.toNatClampNeg (-1 : Int32) → wX0_kind σ2 (fun (r3 : Int32) (σ4 : St) => ((r3 = (24 : Int32) → wX0_take (24 : Int32) σ4 (fun (r21 : Int32) (σ22 : St) => narrow .boolean (.int r21) = .int r21 ∧ Q r21 σ22)) ∧ (¬ (r3 = (24 : Int32)) → ∀ x2_6 : Int32, x2_6 = (gv σ4 5 4) + (1 : Int32) → wX0_take (23 : Int32) σ4 (fun (r7 : Int32) (σ8 : St) => ((r7 = 0 → Q (0 : Int32) σ8) ∧ (¬ (r7 = 0) → wX0_take (2 : Int32) σ8 (fun (r10 : Int32) (σ11 : St) => ((r10 = 0 → Q (0 : Int32) σ11) ∧ (¬ (r10 = 0) → wX9_number x2_6 σ11 (fun (r13 : Int32) (σ14 : St) => vp_in x1 30 ∧ ∀ σ16 : St, σ16 = pv σ14 27 x1.toNatClampNeg r13 → vp_in x1 30 ∧ (((gv σ16 27 x1.toNatClampNeg) < (7 : Int32) → Q (1 : Int32) σ16) ∧ (¬ ((gv σ16 27 x1.toNatClampNeg) < (7 : Int32)) → wX0_note (5 : Int32) x2_6 σ16 (fun (σ20 : St) => Q (1 : Int32) σ20)))))))))))))
abbrev rmX0_close : Room := { frames := 1, cells := 0, slots := 0, locals := 20 }
def wX0_close_28 (Q : Int32 → St → Prop) (σ : St) : Prop := (((gv σ 5 5) = 0 → wX2_takeDraft σ (fun (σ3 : St) => Q (gv σ3 5 5) σ3)) ∧ (¬ ((gv σ 5 5) = 0) → Q (gv σ 5 5) σ))
def wX0_close (x1 : Int32) (σ : St) (Q : Int32 → St → Prop) : Prop := ∀ σ1 : St, σ1 = pv σ 6 0 (0 : Int32) → ((x1 = 0 → wX0_close_28 Q σ1) ∧ (¬ (x1 = 0) → ∀ σ3 : St, σ3 = pv σ1 5 5 (gv σ1 5 6) → ∀ σ4 : St, σ4 = pv σ3 5 2 (gv σ3 5 7) → wX0_close_28 Q σ4))
set_option maxHeartbeats 4000000 in
set_option maxRecDepth 100000 in
theorem tX0_kind_e {p : Program} {l : Launch} {e : Env} {s : State} {m : MethodId} {args : Array Value} {below : List Frame} {meth : Method} {c : Code} {E : EE} {base : Nat} (C : Cx p E base s m args meth c cX0_kind 1 RX0) (hr : meth.sig.returnType = (some .int)) {Q : Int32 → St → Prop} : ∀ (σ : St) (H : Heap) (locs : List Loc) (ls : Array Slot), lv_has ls 1 [(0, .ref (ga E 5))] → GW E base s σ H locs → wX0_kind σ Q → W p l e rmX0_kind s m args below meth c H locs 0 0 (MQ below (QI E base Q) args s 0 0 (fun q => base ≤ q)) (F0 m 0 ls []) := by
  intro σ H locs ls hl g h
  refine lv_aload_n C.1 C.2.1 dX0_kind_0 rfl (lv_at hl 0 rfl) ?_
  refine gx_getI C g fl_X0_36 dX0_kind_1 sh_5 rfl ?_
  refine lv_sipush (v := 600) C.1 C.2.1 dX0_kind_4 (by decide) ?_
  refine lv_icmp_gt (tgt := 25) C.1 C.2.1 dX0_kind_7 (by decide) (fun c1 => ?_) (fun c1 => ?_)
  · have h := h.1 c1
    refine lv_iconst (v := 1) C.1 C.2.1 dX0_kind_25 (by decide) ?_
    exact gx_iret C hr g dX0_kind_26 h
  · have h := h.2 c1
    refine lv_aload_n C.1 C.2.1 dX0_kind_10 rfl (lv_at hl 0 rfl) ?_
    refine gx_getR C g fl_X0_32 dX0_kind_11 sh_5 rfl (by decide) ?_
    refine gx_getR C g fl_X0_146 dX0_kind_14 sh_7 rfl (by decide) ?_
    refine lv_aload_n C.1 C.2.1 dX0_kind_17 rfl (lv_at hl 0 rfl) ?_
    refine gx_getI C g fl_X0_36 dX0_kind_18 sh_5 rfl ?_
    obtain ⟨i2, h⟩ := h
    refine gx_iald C g dX0_kind_21 sh_25 i2 ?_
    refine lv_goto (tgt := 26) C.1 C.2.1 dX0_kind_22 (by decide) ?_
    exact gx_iret C hr g dX0_kind_26 h
theorem mX0_kind {l : Launch} {E : EE} {base : Nat} (σ : St) (Q : Int32 → St → Prop) (h : wX0_kind σ Q) : Met l yX0_kind (wy yX0_kind cX0_kind 1 (some .int)) rmX0_kind (va_Pc [.ref (ga E 5)] (fun U => SW E base σ U)) (QI E base Q) (rmX0_kind).cells (rmX0_kind).slots (fun q => base ≤ q) :=
  met_of (by decide) (Nat.le_of_ble_eq_true rfl) (fun p e s m args below meth c C hr g ls hl => tX0_kind_e C hr  _ _ _ _ hl g h)
set_option maxHeartbeats 4000000 in
set_option maxRecDepth 100000 in
theorem tX0_stop_38 {p : Program} {l : Launch} {e : Env} {s : State} {m : MethodId} {args : Array Value} {below : List Frame} {meth : Method} {c : Code} {E : EE} {base : Nat} (C : Cx p E base s m args meth c cX0_stop 2 RX0) (hr : meth.sig.returnType = (some .boolean)) {Q : Int32 → St → Prop} : ∀ (xt1 : Int32) (σ : St) (H : Heap) (locs : List Loc) (ls : Array Slot), lv_has ls 2 [] → GW E base s σ H locs → wX0_stop_38 Q xt1 σ → W p l e rmX0_stop s m args below meth c H locs 0 0 (MQ below (QI E base Q) args s 0 0 (fun q => base ≤ q)) (F0 m 38 ls [.int xt1, .ref (ga E 5)]) := by
  intro xt1 σ H locs ls hl g h
  refine gx_putI C g fi_X0_25 dX0_stop_38 sh_5 rfl (fun H locs σ1 eσ1 g => ?_)
  have h := h σ1 eσ1
  refine lv_iconst (v := 0) C.1 C.2.1 dX0_stop_41 (by decide) ?_
  exact gx_zret C hr g dX0_stop_42 (by decide) h
set_option maxHeartbeats 4000000 in
set_option maxRecDepth 100000 in
theorem tX0_stop_e {p : Program} {l : Launch} {e : Env} {s : State} {m : MethodId} {args : Array Value} {below : List Frame} {meth : Method} {c : Code} {E : EE} {base : Nat} (C : Cx p E base s m args meth c cX0_stop 2 RX0) (hr : meth.sig.returnType = (some .boolean)) {Q : Int32 → St → Prop} : ∀ (x1 : Int32) (σ : St) (H : Heap) (locs : List Loc) (ls : Array Slot), lv_has ls 2 [(0, .ref (ga E 5)), (1, .int x1)] → GW E base s σ H locs → wX0_stop x1 σ Q → W p l e rmX0_stop s m args below meth c H locs 0 0 (MQ below (QI E base Q) args s 0 0 (fun q => base ≤ q)) (F0 m 0 ls []) := by
  intro x1 σ H locs ls hl g h
  refine lv_aload_n C.1 C.2.1 dX0_stop_0 rfl (lv_at hl 0 rfl) ?_
  refine lv_iload_n C.1 C.2.1 dX0_stop_1 rfl (lv_at hl 1 rfl) ?_
  refine gx_putI C g fi_X0_39 dX0_stop_2 sh_5 rfl (fun H locs σ1 eσ1 g => ?_)
  have h := h σ1 eσ1
  refine lv_aload_n C.1 C.2.1 dX0_stop_5 rfl (lv_at hl 0 rfl) ?_
  refine lv_aload_n C.1 C.2.1 dX0_stop_6 rfl (lv_at hl 0 rfl) ?_
  refine gx_getI C g fl_X0_36 dX0_stop_7 sh_5 rfl ?_
  refine lv_sipush (v := 600) C.1 C.2.1 dX0_stop_10 (by decide) ?_
  refine lv_icmp_gt (tgt := 31) C.1 C.2.1 dX0_stop_13 (by decide) (fun c2 => ?_) (fun c2 => ?_)
  · have h := h.1 c2
    refine lv_aload_n C.1 C.2.1 dX0_stop_31 rfl (lv_at hl 0 rfl) ?_
    refine gx_getR C g fl_X0_12 dX0_stop_32 sh_5 rfl (by decide) ?_
    refine gx_getI C g fl_X0_55 dX0_stop_35 sh_6 rfl ?_
    exact tX0_stop_38 C hr (gv σ1 6 0) _ _ _ _ (lv_sub hl [] rfl) g h
  · have h := h.2 c2
    refine lv_aload_n C.1 C.2.1 dX0_stop_16 rfl (lv_at hl 0 rfl) ?_
    refine gx_getR C g fl_X0_32 dX0_stop_17 sh_5 rfl (by decide) ?_
    refine gx_getR C g fl_X0_148 dX0_stop_20 sh_7 rfl (by decide) ?_
    refine lv_aload_n C.1 C.2.1 dX0_stop_23 rfl (lv_at hl 0 rfl) ?_
    refine gx_getI C g fl_X0_36 dX0_stop_24 sh_5 rfl ?_
    obtain ⟨i3, h⟩ := h
    refine gx_iald C g dX0_stop_27 sh_26 i3 ?_
    refine lv_goto (tgt := 38) C.1 C.2.1 dX0_stop_28 (by decide) ?_
    exact tX0_stop_38 C hr (gv σ1 26 (gv σ1 5 4).toNatClampNeg) _ _ _ _ (lv_sub hl [] rfl) g h
theorem mX0_stop {l : Launch} {E : EE} {base : Nat} (x1 : Int32) (σ : St) (Q : Int32 → St → Prop) (h : wX0_stop x1 σ Q) : Met l yX0_stop (wy yX0_stop cX0_stop 2 (some .boolean)) rmX0_stop (va_Pc [.ref (ga E 5), .int x1] (fun U => SW E base σ U)) (QI E base Q) (rmX0_stop).cells (rmX0_stop).slots (fun q => base ≤ q) :=
  met_of (by decide) (Nat.le_of_ble_eq_true rfl) (fun p e s m args below meth c C hr g ls hl => tX0_stop_e C hr x1 _ _ _ _ hl g h)
set_option maxHeartbeats 4000000 in
set_option maxRecDepth 100000 in
theorem tX0_take_e {p : Program} {l : Launch} {e : Env} {s : State} {m : MethodId} {args : Array Value} {below : List Frame} {meth : Method} {c : Code} {E : EE} {base : Nat} (C : Cx p E base s m args meth c cX0_take 2 RX0) (hr : meth.sig.returnType = (some .boolean)) {Q : Int32 → St → Prop} : ∀ (x1 : Int32) (σ : St) (H : Heap) (locs : List Loc) (ls : Array Slot), lv_has ls 2 [(0, .ref (ga E 5)), (1, .int x1)] → GW E base s σ H locs → wX0_take x1 σ Q → W p l e rmX0_take s m args below meth c H locs 0 0 (MQ below (QI E base Q) args s 0 0 (fun q => base ≤ q)) (F0 m 0 ls []) := by
  intro x1 σ H locs ls hl g h
  refine lv_aload_n C.1 C.2.1 dX0_take_0 rfl (lv_at hl 0 rfl) ?_
  refine gx_calli0 g (gx_runV (k := 5) (rest := []) C g mb_X0_kind ml_X0_61 rfl sh_5 (mX0_kind _ _ h) ⟨Nat.le_of_ble_eq_true rfl, Nat.le_of_ble_eq_true rfl⟩ ⟨Nat.le_refl _, Nat.le_refl _⟩ rfl hl.1 rfl (Nat.le_of_ble_eq_true rfl) dX0_take_1) rfl rfl (fun r1 σ2 H locs h g => ?_)
  refine lv_iload_n C.1 C.2.1 dX0_take_4 rfl (lv_at hl 1 rfl) ?_
  refine lv_icmp_eq (tgt := 14) C.1 C.2.1 dX0_take_5 (by decide) (fun c3 => ?_) (fun c3 => ?_)
  · have h := h.1 c3
    refine lv_aload_n C.1 C.2.1 dX0_take_14 rfl (lv_at hl 0 rfl) ?_
    refine gx_getI C g fl_X0_36 dX0_take_15 sh_5 rfl ?_
    refine lv_sipush (v := 600) C.1 C.2.1 dX0_take_18 (by decide) ?_
    refine lv_icmp_lt (tgt := 30) C.1 C.2.1 dX0_take_21 (by decide) (fun c4 => ?_) (fun c4 => ?_)
    · have h := h.1 c4
      refine lv_aload_n C.1 C.2.1 dX0_take_30 rfl (lv_at hl 0 rfl) ?_
      refine lv_dup C.1 C.2.1 dX0_take_31 rfl ?_
      refine gx_getI C g fl_X0_36 dX0_take_32 sh_5 rfl ?_
      refine lv_iconst (v := 1) C.1 C.2.1 dX0_take_35 (by decide) ?_
      refine lv_iadd C.1 C.2.1 dX0_take_36 ?_
      refine gx_putI C g fi_X0_36 dX0_take_37 sh_5 rfl (fun H locs σ5 eσ5 g => ?_)
      have h := h σ5 eσ5
      refine lv_iconst (v := 1) C.1 C.2.1 dX0_take_40 (by decide) ?_
      exact gx_zret C hr g dX0_take_41 (by decide) h
    · have h := h.2 c4
      refine lv_aload_n C.1 C.2.1 dX0_take_24 rfl (lv_at hl 0 rfl) ?_
      refine lv_iconst (v := 2) C.1 C.2.1 dX0_take_25 (by decide) ?_
      refine gx_calli0 g (gx_runV (k := 5) (rest := []) C g mb_X0_stop ml_X0_76 rfl sh_5 (mX0_stop (2 : Int32) _ _ h) ⟨Nat.le_of_ble_eq_true rfl, Nat.le_of_ble_eq_true rfl⟩ ⟨Nat.le_refl _, Nat.le_refl _⟩ rfl hl.1 rfl (Nat.le_of_ble_eq_true rfl) dX0_take_26) rfl rfl (fun r6 σ7 H locs h g => ?_)
      exact gx_zret C hr g dX0_take_29 h.1 h.2
  · have h := h.2 c3
    refine lv_aload_n C.1 C.2.1 dX0_take_8 rfl (lv_at hl 0 rfl) ?_
    refine lv_iconst (v := 1) C.1 C.2.1 dX0_take_9 (by decide) ?_
    refine gx_calli0 g (gx_runV (k := 5) (rest := []) C g mb_X0_stop ml_X0_76 rfl sh_5 (mX0_stop (1 : Int32) _ _ h) ⟨Nat.le_of_ble_eq_true rfl, Nat.le_of_ble_eq_true rfl⟩ ⟨Nat.le_refl _, Nat.le_refl _⟩ rfl hl.1 rfl (Nat.le_of_ble_eq_true rfl) dX0_take_10) rfl rfl (fun r8 σ9 H locs h g => ?_)
    exact gx_zret C hr g dX0_take_13 h.1 h.2
theorem mX0_take {l : Launch} {E : EE} {base : Nat} (x1 : Int32) (σ : St) (Q : Int32 → St → Prop) (h : wX0_take x1 σ Q) : Met l yX0_take (wy yX0_take cX0_take 2 (some .boolean)) rmX0_take (va_Pc [.ref (ga E 5), .int x1] (fun U => SW E base σ U)) (QI E base Q) (rmX0_take).cells (rmX0_take).slots (fun q => base ≤ q) :=
  met_of (by decide) (Nat.le_of_ble_eq_true rfl) (fun p e s m args below meth c C hr g ls hl => tX0_take_e C hr x1 _ _ _ _ hl g h)
set_option maxHeartbeats 4000000 in
set_option maxRecDepth 100000 in
theorem tX0_note_e {p : Program} {l : Launch} {e : Env} {s : State} {m : MethodId} {args : Array Value} {below : List Frame} {meth : Method} {c : Code} {E : EE} {base : Nat} (C : Cx p E base s m args meth c cX0_note 3 RX0) (hr : meth.sig.returnType = none) {Q : St → Prop} : ∀ (x1 : Int32) (x2 : Int32) (σ : St) (H : Heap) (locs : List Loc) (ls : Array Slot), lv_has ls 3 [(0, .ref (ga E 5)), (1, .int x1), (2, .int x2)] → GW E base s σ H locs → wX0_note x1 x2 σ Q → W p l e rmX0_note s m args below meth c H locs 0 0 (MQ below (QV E base Q) args s 0 0 (fun q => base ≤ q)) (F0 m 0 ls []) := by
  intro x1 x2 σ H locs ls hl g h
  refine lv_aload_n C.1 C.2.1 dX0_note_0 rfl (lv_at hl 0 rfl) ?_
  refine gx_getI C g fl_X0_42 dX0_note_1 sh_5 rfl ?_
  refine lv_if_ne (tgt := 32) C.1 C.2.1 dX0_note_4 (by decide) (fun c1 => ?_) (fun c1 => ?_)
  · have h := h.2 c1
    exact gx_vret C hr g dX0_note_32 h
  · have h := h.1 c1
    refine lv_iload_n C.1 C.2.1 dX0_note_7 rfl (lv_at hl 2 rfl) ?_
    refine lv_sipush (v := 600) C.1 C.2.1 dX0_note_8 (by decide) ?_
    refine lv_icmp_gt (tgt := 32) C.1 C.2.1 dX0_note_11 (by decide) (fun c2 => ?_) (fun c2 => ?_)
    · have h := h.1 c2
      exact gx_vret C hr g dX0_note_32 h
    · have h := h.2 c2
      refine lv_aload_n C.1 C.2.1 dX0_note_14 rfl (lv_at hl 0 rfl) ?_
      refine lv_iload_n C.1 C.2.1 dX0_note_15 rfl (lv_at hl 1 rfl) ?_
      refine gx_putI C g fi_X0_42 dX0_note_16 sh_5 rfl (fun H locs σ3 eσ3 g => ?_)
      have h := h σ3 eσ3
      refine lv_aload_n C.1 C.2.1 dX0_note_19 rfl (lv_at hl 0 rfl) ?_
      refine lv_aload_n C.1 C.2.1 dX0_note_20 rfl (lv_at hl 0 rfl) ?_
      refine gx_getR C g fl_X0_32 dX0_note_21 sh_5 rfl (by decide) ?_
      refine gx_getR C g fl_X0_148 dX0_note_24 sh_7 rfl (by decide) ?_
      refine lv_iload_n C.1 C.2.1 dX0_note_27 rfl (lv_at hl 2 rfl) ?_
      obtain ⟨i4, h⟩ := h
      refine gx_iald C g dX0_note_28 sh_26 i4 ?_
      refine gx_putI C g fi_X0_45 dX0_note_29 sh_5 rfl (fun H locs σ5 eσ5 g => ?_)
      have h := h σ5 eσ5
      exact gx_vret C hr g dX0_note_32 h
theorem mX0_note {l : Launch} {E : EE} {base : Nat} (x1 : Int32) (x2 : Int32) (σ : St) (Q : St → Prop) (h : wX0_note x1 x2 σ Q) : Met l yX0_note (wy yX0_note cX0_note 3 none) rmX0_note (va_Pc [.ref (ga E 5), .int x1, .int x2] (fun U => SW E base σ U)) (QV E base Q) (rmX0_note).cells (rmX0_note).slots (fun q => base ≤ q) :=
  met_of (by decide) (Nat.le_of_ble_eq_true rfl) (fun p e s m args below meth c C hr g ls hl => tX0_note_e C hr x1 x2 _ _ _ _ hl g h)
set_option maxHeartbeats 4000000 in
set_option maxRecDepth 100000 in
theorem tX0_heading_184 {p : Program} {l : Launch} {e : Env} {s : State} {m : MethodId} {args : Array Value} {below : List Frame} {meth : Method} {c : Code} {E : EE} {base : Nat} (C : Cx p E base s m args meth c cX0_heading 8 RX0) (hr : meth.sig.returnType = (some .boolean)) {Q : Int32 → St → Prop} : ∀ (y2 : Int64) (x5 : Int32) (x6 : Int32) (σ : St) (H : Heap) (locs : List Loc) (ls : Array Slot), lv_has ls 8 [(0, .ref (ga E 5)), (2, .long y2), (5, .int x5), (6, .int x6)] → GW E base s σ H locs → wX0_heading_184 Q y2 x5 x6 σ → W p l e rmX0_heading s m args below meth c H locs 0 0 (MQ below (QI E base Q) args s 0 0 (fun q => base ≤ q)) (F0 m 184 ls []) := by
  intro y2 x5 x6 σ H locs ls hl g h
  refine lv_aload_n C.1 C.2.1 dX0_heading_184 rfl (lv_at hl 0 rfl) ?_
  refine gx_getR C g fl_X0_21 dX0_heading_185 sh_5 rfl (by decide) ?_
  refine lv_lload_n C.1 C.2.1 dX0_heading_188 rfl (lv_at hl 1 rfl) ?_
  refine lv_iload C.1 C.2.1 dX0_heading_189 (lv_at hl 2 rfl) ?_
  refine lv_iload C.1 C.2.1 dX0_heading_191 (lv_at hl 3 rfl) ?_
  refine gx_callv0 g (gx_runV (k := 8) (rest := []) C g mb_X2_draftAct ml_X0_98 rfl sh_8 (mX2_draftAct y2 x5 x6 _ _ h) ⟨Nat.le_of_ble_eq_true rfl, Nat.le_of_ble_eq_true rfl⟩ ⟨Nat.le_refl _, Nat.le_refl _⟩ rfl hl.1 rfl (Nat.le_of_ble_eq_true rfl) dX0_heading_193) rfl rfl (fun σ2 H locs h g => ?_)
  refine lv_aload_n C.1 C.2.1 dX0_heading_196 rfl (lv_at hl 0 rfl) ?_
  refine lv_iconst (v := 4) C.1 C.2.1 dX0_heading_197 (by decide) ?_
  refine gx_calli0 g (gx_runV (k := 5) (rest := []) C g mb_X0_take ml_X0_72 rfl sh_5 (mX0_take (4 : Int32) _ _ h) ⟨Nat.le_of_ble_eq_true rfl, Nat.le_of_ble_eq_true rfl⟩ ⟨Nat.le_refl _, Nat.le_refl _⟩ rfl hl.1 rfl (Nat.le_of_ble_eq_true rfl) dX0_heading_198) rfl rfl (fun r3 σ4 H locs h g => ?_)
  exact gx_zret C hr g dX0_heading_201 h.1 h.2
set_option maxHeartbeats 4000000 in
set_option maxRecDepth 100000 in
theorem tX0_heading_74 {p : Program} {l : Launch} {e : Env} {s : State} {m : MethodId} {args : Array Value} {below : List Frame} {meth : Method} {c : Code} {E : EE} {base : Nat} (C : Cx p E base s m args meth c cX0_heading 8 RX0) (hr : meth.sig.returnType = (some .boolean)) {Q : Int32 → St → Prop} : ∀ (y2 : Int64) (σ : St) (H : Heap) (locs : List Loc) (ls : Array Slot), lv_has ls 8 [(0, .ref (ga E 5)), (2, .long y2)] → GW E base s σ H locs → wX0_heading_74 Q y2 σ → W p l e rmX0_heading s m args below meth c H locs 0 0 (MQ below (QI E base Q) args s 0 0 (fun q => base ≤ q)) (F0 m 74 ls []) := by
  intro y2 σ H locs ls hl g h
  refine lv_aload_n C.1 C.2.1 dX0_heading_74 rfl (lv_at hl 0 rfl) ?_
  refine gx_getI C g fl_X0_36 dX0_heading_75 sh_5 rfl ?_
  refine lv_iconst (v := 1) C.1 C.2.1 dX0_heading_78 (by decide) ?_
  refine lv_iadd C.1 C.2.1 dX0_heading_79 ?_
  refine lv_topi (fun x4_1 ex4_1 => ?_)
  have h := h x4_1 ex4_1
  refine lv_istore (lv' := [(4, .int x4_1), (0, .ref (ga E 5)), (2, .long y2)]) C.1 C.2.1 dX0_heading_80 hl (by decide) rfl (fun ls hl => ?_)
  refine lv_aload_n C.1 C.2.1 dX0_heading_82 rfl (lv_at hl 1 rfl) ?_
  refine lv_bipush (v := 17) C.1 C.2.1 dX0_heading_83 (by decide) ?_
  refine gx_calli0 g (gx_runV (k := 5) (rest := []) C g mb_X0_take ml_X0_72 rfl sh_5 (mX0_take (17 : Int32) _ _ h) ⟨Nat.le_of_ble_eq_true rfl, Nat.le_of_ble_eq_true rfl⟩ ⟨Nat.le_refl _, Nat.le_refl _⟩ rfl hl.1 rfl (Nat.le_of_ble_eq_true rfl) dX0_heading_85) rfl rfl (fun r2 σ3 H locs h g => ?_)
  refine lv_if_eq (tgt := 99) C.1 C.2.1 dX0_heading_88 (by decide) (fun c4 => ?_) (fun c4 => ?_)
  · have h := h.1 c4
    refine lv_iconst (v := 0) C.1 C.2.1 dX0_heading_99 (by decide) ?_
    exact gx_zret C hr g dX0_heading_100 (by decide) h
  · have h := h.2 c4
    refine lv_aload_n C.1 C.2.1 dX0_heading_91 rfl (lv_at hl 1 rfl) ?_
    refine lv_iconst (v := 2) C.1 C.2.1 dX0_heading_92 (by decide) ?_
    refine gx_calli0 g (gx_runV (k := 5) (rest := []) C g mb_X0_take ml_X0_72 rfl sh_5 (mX0_take (2 : Int32) _ _ h) ⟨Nat.le_of_ble_eq_true rfl, Nat.le_of_ble_eq_true rfl⟩ ⟨Nat.le_refl _, Nat.le_refl _⟩ rfl hl.1 rfl (Nat.le_of_ble_eq_true rfl) dX0_heading_93) rfl rfl (fun r5 σ6 H locs h g => ?_)
    refine lv_if_ne (tgt := 101) C.1 C.2.1 dX0_heading_96 (by decide) (fun c7 => ?_) (fun c7 => ?_)
    · have h := h.2 c7
      refine lv_aload_n C.1 C.2.1 dX0_heading_101 rfl (lv_at hl 1 rfl) ?_
      refine gx_getR C g fl_X0_32 dX0_heading_102 sh_5 rfl (by decide) ?_
      refine lv_aload_n C.1 C.2.1 dX0_heading_105 rfl (lv_at hl 1 rfl) ?_
      refine gx_getR C g fl_X0_12 dX0_heading_106 sh_5 rfl (by decide) ?_
      refine lv_iload C.1 C.2.1 dX0_heading_109 (lv_at hl 0 rfl) ?_
      refine gx_calli0 g (gx_runV (k := 7) (rest := []) C g mb_X9_number ml_X0_94 rfl sh_7 (mX9_number x4_1 _ _ h) ⟨Nat.le_of_ble_eq_true rfl, Nat.le_of_ble_eq_true rfl⟩ ⟨Nat.le_refl _, Nat.le_refl _⟩ rfl hl.1 rfl (Nat.le_of_ble_eq_true rfl) dX0_heading_111) rfl rfl (fun r8 σ9 H locs h g => ?_)
      refine lv_istore (lv' := [(5, .int r8), (4, .int x4_1), (0, .ref (ga E 5)), (2, .long y2)]) C.1 C.2.1 dX0_heading_114 hl (by decide) rfl (fun ls hl => ?_)
      refine lv_iconst (v := -1) C.1 C.2.1 dX0_heading_116 (by decide) ?_
      refine lv_istore (lv' := [(6, .int (-1 : Int32)), (5, .int r8), (4, .int x4_1), (0, .ref (ga E 5)), (2, .long y2)]) C.1 C.2.1 dX0_heading_117 hl (by decide) rfl (fun ls hl => ?_)
      refine lv_aload_n C.1 C.2.1 dX0_heading_119 rfl (lv_at hl 3 rfl) ?_
      refine gx_calli0 g (gx_runV (k := 5) (rest := []) C g mb_X0_kind ml_X0_61 rfl sh_5 (mX0_kind _ _ h) ⟨Nat.le_of_ble_eq_true rfl, Nat.le_of_ble_eq_true rfl⟩ ⟨Nat.le_refl _, Nat.le_refl _⟩ rfl hl.1 rfl (Nat.le_of_ble_eq_true rfl) dX0_heading_120) rfl rfl (fun r10 σ11 H locs h g => ?_)
      refine lv_bipush (v := 18) C.1 C.2.1 dX0_heading_123 (by decide) ?_
      refine lv_icmp_ne (tgt := 184) C.1 C.2.1 dX0_heading_125 (by decide) (fun c12 => ?_) (fun c12 => ?_)
      · have h := h.2 c12
        exact tX0_heading_184 C hr y2 r8 (-1 : Int32) _ _ _ _ (lv_sub hl [3, 4, 1, 0] rfl) g h
      · have h := h.1 c12
        refine lv_aload_n C.1 C.2.1 dX0_heading_128 rfl (lv_at hl 3 rfl) ?_
        refine gx_getI C g fl_X0_36 dX0_heading_129 sh_5 rfl ?_
        refine lv_iconst (v := 1) C.1 C.2.1 dX0_heading_132 (by decide) ?_
        refine lv_iadd C.1 C.2.1 dX0_heading_133 ?_
        refine lv_topi (fun x7_13 ex7_13 => ?_)
        have h := h x7_13 ex7_13
        refine lv_istore (lv' := [(7, .int x7_13), (6, .int (-1 : Int32)), (5, .int r8), (4, .int x4_1), (0, .ref (ga E 5)), (2, .long y2)]) C.1 C.2.1 dX0_heading_134 hl (by decide) rfl (fun ls hl => ?_)
        refine lv_aload_n C.1 C.2.1 dX0_heading_136 rfl (lv_at hl 4 rfl) ?_
        refine lv_bipush (v := 18) C.1 C.2.1 dX0_heading_137 (by decide) ?_
        refine gx_calli0 g (gx_runV (k := 5) (rest := []) C g mb_X0_take ml_X0_72 rfl sh_5 (mX0_take (18 : Int32) _ _ h) ⟨Nat.le_of_ble_eq_true rfl, Nat.le_of_ble_eq_true rfl⟩ ⟨Nat.le_refl _, Nat.le_refl _⟩ rfl hl.1 rfl (Nat.le_of_ble_eq_true rfl) dX0_heading_139) rfl rfl (fun r14 σ15 H locs h g => ?_)
        refine lv_if_eq (tgt := 153) C.1 C.2.1 dX0_heading_142 (by decide) (fun c16 => ?_) (fun c16 => ?_)
        · have h := h.1 c16
          refine lv_iconst (v := 0) C.1 C.2.1 dX0_heading_153 (by decide) ?_
          exact gx_zret C hr g dX0_heading_154 (by decide) h
        · have h := h.2 c16
          refine lv_aload_n C.1 C.2.1 dX0_heading_145 rfl (lv_at hl 4 rfl) ?_
          refine lv_iconst (v := 2) C.1 C.2.1 dX0_heading_146 (by decide) ?_
          refine gx_calli0 g (gx_runV (k := 5) (rest := []) C g mb_X0_take ml_X0_72 rfl sh_5 (mX0_take (2 : Int32) _ _ h) ⟨Nat.le_of_ble_eq_true rfl, Nat.le_of_ble_eq_true rfl⟩ ⟨Nat.le_refl _, Nat.le_refl _⟩ rfl hl.1 rfl (Nat.le_of_ble_eq_true rfl) dX0_heading_147) rfl rfl (fun r17 σ18 H locs h g => ?_)
          refine lv_if_ne (tgt := 155) C.1 C.2.1 dX0_heading_150 (by decide) (fun c19 => ?_) (fun c19 => ?_)
          · have h := h.2 c19
            refine lv_aload_n C.1 C.2.1 dX0_heading_155 rfl (lv_at hl 4 rfl) ?_
            refine gx_getR C g fl_X0_32 dX0_heading_156 sh_5 rfl (by decide) ?_
            refine lv_aload_n C.1 C.2.1 dX0_heading_159 rfl (lv_at hl 4 rfl) ?_
            refine gx_getR C g fl_X0_12 dX0_heading_160 sh_5 rfl (by decide) ?_
            refine lv_iload C.1 C.2.1 dX0_heading_163 (lv_at hl 0 rfl) ?_
            refine gx_calli0 g (gx_runV (k := 7) (rest := []) C g mb_X9_number ml_X0_94 rfl sh_7 (mX9_number x7_13 _ _ h) ⟨Nat.le_of_ble_eq_true rfl, Nat.le_of_ble_eq_true rfl⟩ ⟨Nat.le_refl _, Nat.le_refl _⟩ rfl hl.1 rfl (Nat.le_of_ble_eq_true rfl) dX0_heading_165) rfl rfl (fun r20 σ21 H locs h g => ?_)
            refine lv_istore (lv' := [(6, .int r20), (7, .int x7_13), (5, .int r8), (4, .int x4_1), (0, .ref (ga E 5)), (2, .long y2)]) C.1 C.2.1 dX0_heading_168 hl (by decide) rfl (fun ls hl => ?_)
            refine lv_iload C.1 C.2.1 dX0_heading_170 (lv_at hl 0 rfl) ?_
            refine lv_iload C.1 C.2.1 dX0_heading_172 (lv_at hl 2 rfl) ?_
            refine lv_icmp_gt (tgt := 184) C.1 C.2.1 dX0_heading_174 (by decide) (fun c22 => ?_) (fun c22 => ?_)
            · have h := h.1 c22
              exact tX0_heading_184 C hr y2 r8 r20 _ _ _ _ (lv_sub hl [4, 5, 2, 0] rfl) g h
            · have h := h.2 c22
              refine lv_aload_n C.1 C.2.1 dX0_heading_177 rfl (lv_at hl 4 rfl) ?_
              refine lv_iconst (v := 5) C.1 C.2.1 dX0_heading_178 (by decide) ?_
              refine lv_iload C.1 C.2.1 dX0_heading_179 (lv_at hl 1 rfl) ?_
              refine gx_callv0 g (gx_runV (k := 5) (rest := []) C g mb_X0_note ml_X0_90 rfl sh_5 (mX0_note (5 : Int32) x7_13 _ _ h) ⟨Nat.le_of_ble_eq_true rfl, Nat.le_of_ble_eq_true rfl⟩ ⟨Nat.le_refl _, Nat.le_refl _⟩ rfl hl.1 rfl (Nat.le_of_ble_eq_true rfl) dX0_heading_181) rfl rfl (fun σ24 H locs h g => ?_)
              exact tX0_heading_184 C hr y2 r8 r20 _ _ _ _ (lv_sub hl [4, 5, 2, 0] rfl) g h
          · have h := h.1 c19
            refine lv_iconst (v := 0) C.1 C.2.1 dX0_heading_153 (by decide) ?_
            exact gx_zret C hr g dX0_heading_154 (by decide) h
    · have h := h.1 c7
      refine lv_iconst (v := 0) C.1 C.2.1 dX0_heading_99 (by decide) ?_
      exact gx_zret C hr g dX0_heading_100 (by decide) h
set_option maxHeartbeats 4000000 in
set_option maxRecDepth 100000 in
theorem tX0_heading_e {p : Program} {l : Launch} {e : Env} {s : State} {m : MethodId} {args : Array Value} {below : List Frame} {meth : Method} {c : Code} {E : EE} {base : Nat} (C : Cx p E base s m args meth c cX0_heading 8 RX0) (hr : meth.sig.returnType = (some .boolean)) {Q : Int32 → St → Prop} : ∀ (σ : St) (H : Heap) (locs : List Loc) (ls : Array Slot), lv_has ls 8 [(0, .ref (ga E 5))] → GW E base s σ H locs → wX0_heading σ Q → W p l e rmX0_heading s m args below meth c H locs 0 0 (MQ below (QI E base Q) args s 0 0 (fun q => base ≤ q)) (F0 m 0 ls []) := by
  intro σ H locs ls hl g h
  refine lv_aload_n C.1 C.2.1 dX0_heading_0 rfl (lv_at hl 0 rfl) ?_
  refine gx_getR C g fl_X0_21 dX0_heading_1 sh_5 rfl (by decide) ?_
  refine gx_getI C g fl_X0_79 dX0_heading_4 sh_8 rfl ?_
  refine lv_bipush (v := 10) C.1 C.2.1 dX0_heading_7 (by decide) ?_
  refine lv_icmp_lt (tgt := 18) C.1 C.2.1 dX0_heading_9 (by decide) (fun c1 => ?_) (fun c1 => ?_)
  · have h := h.1 c1
    refine lv_aload_n C.1 C.2.1 dX0_heading_18 rfl (lv_at hl 0 rfl) ?_
    refine gx_getI C g fl_X0_36 dX0_heading_19 sh_5 rfl ?_
    refine lv_iconst (v := 1) C.1 C.2.1 dX0_heading_22 (by decide) ?_
    refine lv_iadd C.1 C.2.1 dX0_heading_23 ?_
    refine lv_topi (fun x1_2 ex1_2 => ?_)
    have h := h x1_2 ex1_2
    refine lv_istore_n (lv' := [(1, .int x1_2), (0, .ref (ga E 5))]) C.1 C.2.1 dX0_heading_24 rfl hl (by decide) rfl (fun ls hl => ?_)
    refine lv_aload_n C.1 C.2.1 dX0_heading_25 rfl (lv_at hl 1 rfl) ?_
    refine lv_bipush (v := 16) C.1 C.2.1 dX0_heading_26 (by decide) ?_
    refine gx_calli0 g (gx_runV (k := 5) (rest := []) C g mb_X0_take ml_X0_72 rfl sh_5 (mX0_take (16 : Int32) _ _ h) ⟨Nat.le_of_ble_eq_true rfl, Nat.le_of_ble_eq_true rfl⟩ ⟨Nat.le_refl _, Nat.le_refl _⟩ rfl hl.1 rfl (Nat.le_of_ble_eq_true rfl) dX0_heading_28) rfl rfl (fun r3 σ4 H locs h g => ?_)
    refine lv_if_eq (tgt := 42) C.1 C.2.1 dX0_heading_31 (by decide) (fun c5 => ?_) (fun c5 => ?_)
    · have h := h.1 c5
      refine lv_iconst (v := 0) C.1 C.2.1 dX0_heading_42 (by decide) ?_
      exact gx_zret C hr g dX0_heading_43 (by decide) h
    · have h := h.2 c5
      refine lv_aload_n C.1 C.2.1 dX0_heading_34 rfl (lv_at hl 1 rfl) ?_
      refine lv_iconst (v := 3) C.1 C.2.1 dX0_heading_35 (by decide) ?_
      refine gx_calli0 g (gx_runV (k := 5) (rest := []) C g mb_X0_take ml_X0_72 rfl sh_5 (mX0_take (3 : Int32) _ _ h) ⟨Nat.le_of_ble_eq_true rfl, Nat.le_of_ble_eq_true rfl⟩ ⟨Nat.le_refl _, Nat.le_refl _⟩ rfl hl.1 rfl (Nat.le_of_ble_eq_true rfl) dX0_heading_36) rfl rfl (fun r6 σ7 H locs h g => ?_)
      refine lv_if_ne (tgt := 44) C.1 C.2.1 dX0_heading_39 (by decide) (fun c8 => ?_) (fun c8 => ?_)
      · have h := h.2 c8
        refine lv_aload_n C.1 C.2.1 dX0_heading_44 rfl (lv_at hl 1 rfl) ?_
        refine gx_getR C g fl_X0_32 dX0_heading_45 sh_5 rfl (by decide) ?_
        refine lv_aload_n C.1 C.2.1 dX0_heading_48 rfl (lv_at hl 1 rfl) ?_
        refine gx_getR C g fl_X0_12 dX0_heading_49 sh_5 rfl (by decide) ?_
        refine lv_iload_n C.1 C.2.1 dX0_heading_52 rfl (lv_at hl 0 rfl) ?_
        refine gx_calll0 g (gx_runV (k := 7) (rest := []) C g mb_X9_name ml_X0_82 rfl sh_7 (mX9_name x1_2 _ _ h) ⟨Nat.le_of_ble_eq_true rfl, Nat.le_of_ble_eq_true rfl⟩ ⟨Nat.le_refl _, Nat.le_refl _⟩ rfl hl.1 rfl (Nat.le_of_ble_eq_true rfl) dX0_heading_53) rfl rfl (fun r9 σ10 H locs h g => ?_)
        refine lv_lstore_n (lv' := [(2, .long r9), (1, .int x1_2), (0, .ref (ga E 5))]) C.1 C.2.1 dX0_heading_56 rfl hl (by decide) rfl (fun ls hl => ?_)
        refine lv_aload_n C.1 C.2.1 dX0_heading_57 rfl (lv_at hl 2 rfl) ?_
        refine gx_getR C g fl_X0_21 dX0_heading_58 sh_5 rfl (by decide) ?_
        refine lv_lload_n C.1 C.2.1 dX0_heading_61 rfl (lv_at hl 0 rfl) ?_
        refine gx_calli0 g (gx_runV (k := 8) (rest := []) C g mb_X2_hasAct ml_X0_86 rfl sh_8 (mX2_hasAct r9 _ _ h) ⟨Nat.le_of_ble_eq_true rfl, Nat.le_of_ble_eq_true rfl⟩ ⟨Nat.le_refl _, Nat.le_refl _⟩ rfl hl.1 rfl (Nat.le_of_ble_eq_true rfl) dX0_heading_62) rfl rfl (fun r11 σ12 H locs h g => ?_)
        refine lv_if_eq (tgt := 74) C.1 C.2.1 dX0_heading_65 (by decide) (fun c13 => ?_) (fun c13 => ?_)
        · have h := h.1 c13
          exact tX0_heading_74 C hr r9 _ _ _ _ (lv_sub hl [2, 0] rfl) g h
        · have h := h.2 c13
          refine lv_aload_n C.1 C.2.1 dX0_heading_68 rfl (lv_at hl 2 rfl) ?_
          refine lv_iconst (v := 3) C.1 C.2.1 dX0_heading_69 (by decide) ?_
          refine lv_iload_n C.1 C.2.1 dX0_heading_70 rfl (lv_at hl 1 rfl) ?_
          refine gx_callv0 g (gx_runV (k := 5) (rest := []) C g mb_X0_note ml_X0_90 rfl sh_5 (mX0_note (3 : Int32) x1_2 _ _ h) ⟨Nat.le_of_ble_eq_true rfl, Nat.le_of_ble_eq_true rfl⟩ ⟨Nat.le_refl _, Nat.le_refl _⟩ rfl hl.1 rfl (Nat.le_of_ble_eq_true rfl) dX0_heading_71) rfl rfl (fun σ15 H locs h g => ?_)
          exact tX0_heading_74 C hr r9 _ _ _ _ (lv_sub hl [2, 0] rfl) g h
      · have h := h.1 c8
        refine lv_iconst (v := 0) C.1 C.2.1 dX0_heading_42 (by decide) ?_
        exact gx_zret C hr g dX0_heading_43 (by decide) h
  · have h := h.2 c1
    refine lv_aload_n C.1 C.2.1 dX0_heading_12 rfl (lv_at hl 0 rfl) ?_
    refine lv_iconst (v := 2) C.1 C.2.1 dX0_heading_13 (by decide) ?_
    refine gx_calli0 g (gx_runV (k := 5) (rest := []) C g mb_X0_stop ml_X0_76 rfl sh_5 (mX0_stop (2 : Int32) _ _ h) ⟨Nat.le_of_ble_eq_true rfl, Nat.le_of_ble_eq_true rfl⟩ ⟨Nat.le_refl _, Nat.le_refl _⟩ rfl hl.1 rfl (Nat.le_of_ble_eq_true rfl) dX0_heading_14) rfl rfl (fun r16 σ17 H locs h g => ?_)
    exact gx_zret C hr g dX0_heading_17 h.1 h.2
theorem mX0_heading {l : Launch} {E : EE} {base : Nat} (σ : St) (Q : Int32 → St → Prop) (h : wX0_heading σ Q) : Met l yX0_heading (wy yX0_heading cX0_heading 8 (some .boolean)) rmX0_heading (va_Pc [.ref (ga E 5)] (fun U => SW E base σ U)) (QI E base Q) (rmX0_heading).cells (rmX0_heading).slots (fun q => base ≤ q) :=
  met_of (by decide) (Nat.le_of_ble_eq_true rfl) (fun p e s m args below meth c C hr g ls hl => tX0_heading_e C hr  _ _ _ _ hl g h)
set_option maxHeartbeats 4000000 in
set_option maxRecDepth 100000 in
theorem tX0_who_e {p : Program} {l : Launch} {e : Env} {s : State} {m : MethodId} {args : Array Value} {below : List Frame} {meth : Method} {c : Code} {E : EE} {base : Nat} (C : Cx p E base s m args meth c cX0_who 3 RX0) (hr : meth.sig.returnType = (some .boolean)) {Q : Int32 → St → Prop} : ∀ (x1 : Int32) (σ : St) (H : Heap) (locs : List Loc) (ls : Array Slot), lv_has ls 3 [(0, .ref (ga E 5)), (1, .int x1)] → GW E base s σ H locs → wX0_who x1 σ Q → W p l e rmX0_who s m args below meth c H locs 0 0 (MQ below (QI E base Q) args s 0 0 (fun q => base ≤ q)) (F0 m 0 ls []) := by
  intro x1 σ H locs ls hl g h
  refine lv_aload_n C.1 C.2.1 dX0_who_0 rfl (lv_at hl 0 rfl) ?_
  refine gx_getR C g fl_X0_21 dX0_who_1 sh_5 rfl (by decide) ?_
  refine gx_getR C g fl_X0_131 dX0_who_4 sh_8 rfl (by decide) ?_
  refine lv_iload_n C.1 C.2.1 dX0_who_7 rfl (lv_at hl 1 rfl) ?_
  refine lv_iconst (v := -1) C.1 C.2.1 dX0_who_8 (by decide) ?_
  obtain ⟨i1, h⟩ := h
  refine gx_iast C g dX0_who_9 sh_27 i1 (fun H locs σ2 eσ2 g => ?_)
  have h := h σ2 eσ2
  refine lv_aload_n C.1 C.2.1 dX0_who_10 rfl (lv_at hl 0 rfl) ?_
  refine gx_calli0 g (gx_runV (k := 5) (rest := []) C g mb_X0_kind ml_X0_61 rfl sh_5 (mX0_kind _ _ h) ⟨Nat.le_of_ble_eq_true rfl, Nat.le_of_ble_eq_true rfl⟩ ⟨Nat.le_refl _, Nat.le_refl _⟩ rfl hl.1 rfl (Nat.le_of_ble_eq_true rfl) dX0_who_11) rfl rfl (fun r3 σ4 H locs h g => ?_)
  refine lv_bipush (v := 24) C.1 C.2.1 dX0_who_14 (by decide) ?_
  refine lv_icmp_ne (tgt := 26) C.1 C.2.1 dX0_who_16 (by decide) (fun c5 => ?_) (fun c5 => ?_)
  · have h := h.2 c5
    refine lv_aload_n C.1 C.2.1 dX0_who_26 rfl (lv_at hl 0 rfl) ?_
    refine gx_getI C g fl_X0_36 dX0_who_27 sh_5 rfl ?_
    refine lv_iconst (v := 1) C.1 C.2.1 dX0_who_30 (by decide) ?_
    refine lv_iadd C.1 C.2.1 dX0_who_31 ?_
    refine lv_topi (fun x2_6 ex2_6 => ?_)
    have h := h x2_6 ex2_6
    refine lv_istore_n (lv' := [(2, .int x2_6), (0, .ref (ga E 5)), (1, .int x1)]) C.1 C.2.1 dX0_who_32 rfl hl (by decide) rfl (fun ls hl => ?_)
    refine lv_aload_n C.1 C.2.1 dX0_who_33 rfl (lv_at hl 1 rfl) ?_
    refine lv_bipush (v := 23) C.1 C.2.1 dX0_who_34 (by decide) ?_
    refine gx_calli0 g (gx_runV (k := 5) (rest := []) C g mb_X0_take ml_X0_72 rfl sh_5 (mX0_take (23 : Int32) _ _ h) ⟨Nat.le_of_ble_eq_true rfl, Nat.le_of_ble_eq_true rfl⟩ ⟨Nat.le_refl _, Nat.le_refl _⟩ rfl hl.1 rfl (Nat.le_of_ble_eq_true rfl) dX0_who_36) rfl rfl (fun r7 σ8 H locs h g => ?_)
    refine lv_if_eq (tgt := 50) C.1 C.2.1 dX0_who_39 (by decide) (fun c9 => ?_) (fun c9 => ?_)
    · have h := h.1 c9
      refine lv_iconst (v := 0) C.1 C.2.1 dX0_who_50 (by decide) ?_
      exact gx_zret C hr g dX0_who_51 (by decide) h
    · have h := h.2 c9
      refine lv_aload_n C.1 C.2.1 dX0_who_42 rfl (lv_at hl 1 rfl) ?_
      refine lv_iconst (v := 2) C.1 C.2.1 dX0_who_43 (by decide) ?_
      refine gx_calli0 g (gx_runV (k := 5) (rest := []) C g mb_X0_take ml_X0_72 rfl sh_5 (mX0_take (2 : Int32) _ _ h) ⟨Nat.le_of_ble_eq_true rfl, Nat.le_of_ble_eq_true rfl⟩ ⟨Nat.le_refl _, Nat.le_refl _⟩ rfl hl.1 rfl (Nat.le_of_ble_eq_true rfl) dX0_who_44) rfl rfl (fun r10 σ11 H locs h g => ?_)
      refine lv_if_ne (tgt := 52) C.1 C.2.1 dX0_who_47 (by decide) (fun c12 => ?_) (fun c12 => ?_)
      · have h := h.2 c12
        refine lv_aload_n C.1 C.2.1 dX0_who_52 rfl (lv_at hl 1 rfl) ?_
        refine gx_getR C g fl_X0_21 dX0_who_53 sh_5 rfl (by decide) ?_
        refine gx_getR C g fl_X0_131 dX0_who_56 sh_8 rfl (by decide) ?_
        refine lv_iload_n C.1 C.2.1 dX0_who_59 rfl (lv_at hl 2 rfl) ?_
        refine lv_aload_n C.1 C.2.1 dX0_who_60 rfl (lv_at hl 1 rfl) ?_
        refine gx_getR C g fl_X0_32 dX0_who_61 sh_5 rfl (by decide) ?_
        refine lv_aload_n C.1 C.2.1 dX0_who_64 rfl (lv_at hl 1 rfl) ?_
        refine gx_getR C g fl_X0_12 dX0_who_65 sh_5 rfl (by decide) ?_
        refine lv_iload_n C.1 C.2.1 dX0_who_68 rfl (lv_at hl 0 rfl) ?_
        refine gx_calli0 g (gx_runV (k := 7) (rest := [.int x1, .ref (ga E 27)]) C g mb_X9_number ml_X0_94 rfl sh_7 (mX9_number x2_6 _ _ h) ⟨Nat.le_of_ble_eq_true rfl, Nat.le_of_ble_eq_true rfl⟩ ⟨Nat.le_refl _, Nat.le_refl _⟩ rfl hl.1 rfl (Nat.le_of_ble_eq_true rfl) dX0_who_69) rfl rfl (fun r13 σ14 H locs h g => ?_)
        obtain ⟨i15, h⟩ := h
        refine gx_iast C g dX0_who_72 sh_27 i15 (fun H locs σ16 eσ16 g => ?_)
        have h := h σ16 eσ16
        refine lv_aload_n C.1 C.2.1 dX0_who_73 rfl (lv_at hl 1 rfl) ?_
        refine gx_getR C g fl_X0_21 dX0_who_74 sh_5 rfl (by decide) ?_
        refine gx_getR C g fl_X0_131 dX0_who_77 sh_8 rfl (by decide) ?_
        refine lv_iload_n C.1 C.2.1 dX0_who_80 rfl (lv_at hl 2 rfl) ?_
        obtain ⟨i17, h⟩ := h
        refine gx_iald C g dX0_who_81 sh_27 i17 ?_
        refine lv_bipush (v := 7) C.1 C.2.1 dX0_who_82 (by decide) ?_
        refine lv_icmp_lt (tgt := 93) C.1 C.2.1 dX0_who_84 (by decide) (fun c18 => ?_) (fun c18 => ?_)
        · have h := h.1 c18
          refine lv_iconst (v := 1) C.1 C.2.1 dX0_who_93 (by decide) ?_
          exact gx_zret C hr g dX0_who_94 (by decide) h
        · have h := h.2 c18
          refine lv_aload_n C.1 C.2.1 dX0_who_87 rfl (lv_at hl 1 rfl) ?_
          refine lv_iconst (v := 5) C.1 C.2.1 dX0_who_88 (by decide) ?_
          refine lv_iload_n C.1 C.2.1 dX0_who_89 rfl (lv_at hl 0 rfl) ?_
          refine gx_callv0 g (gx_runV (k := 5) (rest := []) C g mb_X0_note ml_X0_90 rfl sh_5 (mX0_note (5 : Int32) x2_6 _ _ h) ⟨Nat.le_of_ble_eq_true rfl, Nat.le_of_ble_eq_true rfl⟩ ⟨Nat.le_refl _, Nat.le_refl _⟩ rfl hl.1 rfl (Nat.le_of_ble_eq_true rfl) dX0_who_90) rfl rfl (fun σ20 H locs h g => ?_)
          refine lv_iconst (v := 1) C.1 C.2.1 dX0_who_93 (by decide) ?_
          exact gx_zret C hr g dX0_who_94 (by decide) h
      · have h := h.1 c12
        refine lv_iconst (v := 0) C.1 C.2.1 dX0_who_50 (by decide) ?_
        exact gx_zret C hr g dX0_who_51 (by decide) h
  · have h := h.1 c5
    refine lv_aload_n C.1 C.2.1 dX0_who_19 rfl (lv_at hl 0 rfl) ?_
    refine lv_bipush (v := 24) C.1 C.2.1 dX0_who_20 (by decide) ?_
    refine gx_calli0 g (gx_runV (k := 5) (rest := []) C g mb_X0_take ml_X0_72 rfl sh_5 (mX0_take (24 : Int32) _ _ h) ⟨Nat.le_of_ble_eq_true rfl, Nat.le_of_ble_eq_true rfl⟩ ⟨Nat.le_refl _, Nat.le_refl _⟩ rfl hl.1 rfl (Nat.le_of_ble_eq_true rfl) dX0_who_22) rfl rfl (fun r21 σ22 H locs h g => ?_)
    exact gx_zret C hr g dX0_who_25 h.1 h.2
theorem mX0_who {l : Launch} {E : EE} {base : Nat} (x1 : Int32) (σ : St) (Q : Int32 → St → Prop) (h : wX0_who x1 σ Q) : Met l yX0_who (wy yX0_who cX0_who 3 (some .boolean)) rmX0_who (va_Pc [.ref (ga E 5), .int x1] (fun U => SW E base σ U)) (QI E base Q) (rmX0_who).cells (rmX0_who).slots (fun q => base ≤ q) :=
  met_of (by decide) (Nat.le_of_ble_eq_true rfl) (fun p e s m args below meth c C hr g ls hl => tX0_who_e C hr x1 _ _ _ _ hl g h)
set_option maxHeartbeats 4000000 in
set_option maxRecDepth 100000 in
theorem tX0_close_28 {p : Program} {l : Launch} {e : Env} {s : State} {m : MethodId} {args : Array Value} {below : List Frame} {meth : Method} {c : Code} {E : EE} {base : Nat} (C : Cx p E base s m args meth c cX0_close 2 RX0) (hr : meth.sig.returnType = (some .int)) {Q : Int32 → St → Prop} : ∀ (σ : St) (H : Heap) (locs : List Loc) (ls : Array Slot), lv_has ls 2 [(0, .ref (ga E 5))] → GW E base s σ H locs → wX0_close_28 Q σ → W p l e rmX0_close s m args below meth c H locs 0 0 (MQ below (QI E base Q) args s 0 0 (fun q => base ≤ q)) (F0 m 28 ls []) := by
  intro σ H locs ls hl g h
  refine lv_aload_n C.1 C.2.1 dX0_close_28 rfl (lv_at hl 0 rfl) ?_
  refine gx_getI C g fl_X0_39 dX0_close_29 sh_5 rfl ?_
  refine lv_if_ne (tgt := 42) C.1 C.2.1 dX0_close_32 (by decide) (fun c1 => ?_) (fun c1 => ?_)
  · have h := h.2 c1
    refine lv_aload_n C.1 C.2.1 dX0_close_42 rfl (lv_at hl 0 rfl) ?_
    refine gx_getI C g fl_X0_39 dX0_close_43 sh_5 rfl ?_
    exact gx_iret C hr g dX0_close_46 h
  · have h := h.1 c1
    refine lv_aload_n C.1 C.2.1 dX0_close_35 rfl (lv_at hl 0 rfl) ?_
    refine gx_getR C g fl_X0_21 dX0_close_36 sh_5 rfl (by decide) ?_
    refine gx_callv0 g (gx_runV (k := 8) (rest := []) C g mb_X2_takeDraft ml_X0_58 rfl sh_8 (mX2_takeDraft _ _ h) ⟨Nat.le_of_ble_eq_true rfl, Nat.le_of_ble_eq_true rfl⟩ ⟨Nat.le_refl _, Nat.le_refl _⟩ rfl hl.1 rfl (Nat.le_of_ble_eq_true rfl) dX0_close_39) rfl rfl (fun σ3 H locs h g => ?_)
    refine lv_aload_n C.1 C.2.1 dX0_close_42 rfl (lv_at hl 0 rfl) ?_
    refine gx_getI C g fl_X0_39 dX0_close_43 sh_5 rfl ?_
    exact gx_iret C hr g dX0_close_46 h
set_option maxHeartbeats 4000000 in
set_option maxRecDepth 100000 in
theorem tX0_close_e {p : Program} {l : Launch} {e : Env} {s : State} {m : MethodId} {args : Array Value} {below : List Frame} {meth : Method} {c : Code} {E : EE} {base : Nat} (C : Cx p E base s m args meth c cX0_close 2 RX0) (hr : meth.sig.returnType = (some .int)) {Q : Int32 → St → Prop} : ∀ (x1 : Int32) (σ : St) (H : Heap) (locs : List Loc) (ls : Array Slot), lv_has ls 2 [(0, .ref (ga E 5)), (1, .int x1)] → GW E base s σ H locs → wX0_close x1 σ Q → W p l e rmX0_close s m args below meth c H locs 0 0 (MQ below (QI E base Q) args s 0 0 (fun q => base ≤ q)) (F0 m 0 ls []) := by
  intro x1 σ H locs ls hl g h
  refine lv_aload_n C.1 C.2.1 dX0_close_0 rfl (lv_at hl 0 rfl) ?_
  refine gx_getR C g fl_X0_12 dX0_close_1 sh_5 rfl (by decide) ?_
  refine lv_iconst (v := 0) C.1 C.2.1 dX0_close_4 (by decide) ?_
  refine gx_putI C g fi_X0_55 dX0_close_5 sh_6 rfl (fun H locs σ1 eσ1 g => ?_)
  have h := h σ1 eσ1
  refine lv_iload_n C.1 C.2.1 dX0_close_8 rfl (lv_at hl 1 rfl) ?_
  refine lv_if_eq (tgt := 28) C.1 C.2.1 dX0_close_9 (by decide) (fun c2 => ?_) (fun c2 => ?_)
  · have h := h.1 c2
    exact tX0_close_28 C hr _ _ _ _ (lv_sub hl [0] rfl) g h
  · have h := h.2 c2
    refine lv_aload_n C.1 C.2.1 dX0_close_12 rfl (lv_at hl 0 rfl) ?_
    refine lv_aload_n C.1 C.2.1 dX0_close_13 rfl (lv_at hl 0 rfl) ?_
    refine gx_getI C g fl_X0_42 dX0_close_14 sh_5 rfl ?_
    refine gx_putI C g fi_X0_39 dX0_close_17 sh_5 rfl (fun H locs σ3 eσ3 g => ?_)
    have h := h σ3 eσ3
    refine lv_aload_n C.1 C.2.1 dX0_close_20 rfl (lv_at hl 0 rfl) ?_
    refine lv_aload_n C.1 C.2.1 dX0_close_21 rfl (lv_at hl 0 rfl) ?_
    refine gx_getI C g fl_X0_45 dX0_close_22 sh_5 rfl ?_
    refine gx_putI C g fi_X0_25 dX0_close_25 sh_5 rfl (fun H locs σ4 eσ4 g => ?_)
    have h := h σ4 eσ4
    exact tX0_close_28 C hr _ _ _ _ (lv_sub hl [0] rfl) g h
theorem mX0_close {l : Launch} {E : EE} {base : Nat} (x1 : Int32) (σ : St) (Q : Int32 → St → Prop) (h : wX0_close x1 σ Q) : Met l yX0_close (wy yX0_close cX0_close 2 (some .int)) rmX0_close (va_Pc [.ref (ga E 5), .int x1] (fun U => SW E base σ U)) (QI E base Q) (rmX0_close).cells (rmX0_close).slots (fun q => base ≤ q) :=
  met_of (by decide) (Nat.le_of_ble_eq_true rfl) (fun p e s m args below meth c C hr g ls hl => tX0_close_e C hr x1 _ _ _ _ hl g h)
