abbrev rmX2_hasAct : Room := { frames := 0, cells := 0, slots := 0, locals := 0 }
def wX2_hasAct_2 (Q : Int32 → St → Prop) : Nat → Int64 → Int32 → St → Prop
  | 0, _, _, _ => False
  | n + 1, y1, x3, σ => (((gv σ 8 2) ≤ x3 → Q (0 : Int32) σ) ∧ (¬ ((gv σ 8 2) ≤ x3) → vp_in x3 10 ∧ (((lg_cmp (gw σ 33 x3.toNatClampNeg) y1) = 0 → Q (1 : Int32) σ) ∧ (¬ ((lg_cmp (gw σ 33 x3.toNatClampNeg) y1) = 0) → ∀ x3_4 : Int32, x3_4 = x3 + 1 → wX2_hasAct_2 Q n y1 x3_4 σ))))
def wX2_hasAct (y1 : Int64) (σ : St) (Q : Int32 → St → Prop) : Prop := ∃ j : Nat, wX2_hasAct_2 Q j y1 (0 : Int32) σ
set_option maxHeartbeats 4000000 in
set_option maxRecDepth 100000 in
theorem tX2_hasAct_2 {p : Program} {l : Launch} {e : Env} {s : State} {m : MethodId} {args : Array Value} {below : List Frame} {meth : Method} {c : Code} {E : EE} {base : Nat} (C : Cx p E base s m args meth c cX2_hasAct 4 RX2) (hr : meth.sig.returnType = (some .boolean)) {Q : Int32 → St → Prop} : ∀ (n : Nat) (y1 : Int64) (x3 : Int32) (σ : St) (H : Heap) (locs : List Loc) (ls : Array Slot), lv_has ls 4 [(0, .ref (ga E 8)), (1, .long y1), (3, .int x3)] → GW E base s σ H locs → wX2_hasAct_2 Q n y1 x3 σ → W p l e rmX2_hasAct s m args below meth c H locs 0 0 (MQ below (QI E base Q) args s 0 0 (fun q => base ≤ q)) (F0 m 2 ls []) := by
  intro n
  induction n with
  | zero => intro _ _; intros; exact False.elim (by assumption)
  | succ n ih =>
    intro y1 x3 σ H locs ls hl g h
    refine lv_iload_n C.1 C.2.1 dX2_hasAct_2 rfl (lv_at hl 2 rfl) ?_
    refine lv_aload_n C.1 C.2.1 dX2_hasAct_3 rfl (lv_at hl 0 rfl) ?_
    refine gx_getI C g fl_X2_18 dX2_hasAct_4 sh_8 rfl ?_
    refine lv_icmp_ge (tgt := 29) C.1 C.2.1 dX2_hasAct_7 (by decide) (fun c1 => ?_) (fun c1 => ?_)
    · have h := h.1 c1
      refine lv_iconst (v := 0) C.1 C.2.1 dX2_hasAct_29 (by decide) ?_
      exact gx_zret C hr g dX2_hasAct_30 (by decide) h
    · have h := h.2 c1
      refine lv_aload_n C.1 C.2.1 dX2_hasAct_10 rfl (lv_at hl 0 rfl) ?_
      refine gx_getR C g fl_X2_47 dX2_hasAct_11 sh_8 rfl (by decide) ?_
      refine lv_iload_n C.1 C.2.1 dX2_hasAct_14 rfl (lv_at hl 2 rfl) ?_
      obtain ⟨i2, h⟩ := h
      refine gx_lald C g dX2_hasAct_15 sh_33 i2 ?_
      refine lv_lload_n C.1 C.2.1 dX2_hasAct_16 rfl (lv_at hl 1 rfl) ?_
      refine W.lcmp C.1 C.2.1 dX2_hasAct_17 ?_
      refine lv_if_ne (tgt := 23) C.1 C.2.1 dX2_hasAct_18 (by decide) (fun c3 => ?_) (fun c3 => ?_)
      · have h := h.2 c3
        obtain ⟨x3_4, ex3_4⟩ : ∃ y : Int32, y = x3 + 1 := ⟨_, rfl⟩
        have h := h x3_4 ex3_4
        refine lv_iinc (v := x3_4) (lv' := [(3, .int x3_4), (0, .ref (ga E 8)), (1, .long y1)]) C.1 C.2.1 dX2_hasAct_23 hl (k := 2) rfl (by rw [ex3_4]; rfl) (by decide) rfl (fun ls hl => ?_)
        refine lv_goto (tgt := 2) C.1 C.2.1 dX2_hasAct_26 (by decide) ?_
        exact ih y1 x3_4 _ _ _ _ (lv_sub hl [1, 2, 0] rfl) g h
      · have h := h.1 c3
        refine lv_iconst (v := 1) C.1 C.2.1 dX2_hasAct_21 (by decide) ?_
        exact gx_zret C hr g dX2_hasAct_22 (by decide) h
set_option maxHeartbeats 4000000 in
set_option maxRecDepth 100000 in
theorem tX2_hasAct_e {p : Program} {l : Launch} {e : Env} {s : State} {m : MethodId} {args : Array Value} {below : List Frame} {meth : Method} {c : Code} {E : EE} {base : Nat} (C : Cx p E base s m args meth c cX2_hasAct 4 RX2) (hr : meth.sig.returnType = (some .boolean)) {Q : Int32 → St → Prop} : ∀ (y1 : Int64) (σ : St) (H : Heap) (locs : List Loc) (ls : Array Slot), lv_has ls 4 [(0, .ref (ga E 8)), (1, .long y1)] → GW E base s σ H locs → wX2_hasAct y1 σ Q → W p l e rmX2_hasAct s m args below meth c H locs 0 0 (MQ below (QI E base Q) args s 0 0 (fun q => base ≤ q)) (F0 m 0 ls []) := by
  intro y1 σ H locs ls hl g h
  refine lv_iconst (v := 0) C.1 C.2.1 dX2_hasAct_0 (by decide) ?_
  refine lv_istore_n (lv' := [(3, .int (0 : Int32)), (0, .ref (ga E 8)), (1, .long y1)]) C.1 C.2.1 dX2_hasAct_1 rfl hl (by decide) rfl (fun ls hl => ?_)
  obtain ⟨j, h⟩ := h
  exact tX2_hasAct_2 C hr j y1 (0 : Int32) _ _ _ _ (lv_sub hl [1, 2, 0] rfl) g h
theorem mX2_hasAct {l : Launch} {E : EE} {base : Nat} (y1 : Int64) (σ : St) (Q : Int32 → St → Prop) (h : wX2_hasAct y1 σ Q) : Met l yX2_hasAct (wy yX2_hasAct cX2_hasAct 4 (some .boolean)) rmX2_hasAct (va_Pc [.ref (ga E 8), .long y1] (fun U => SW E base σ U)) (QI E base Q) (rmX2_hasAct).cells (rmX2_hasAct).slots (fun q => base ≤ q) :=
  met_of (by decide) (Nat.le_of_ble_eq_true rfl) (fun p e s m args below meth c C hr g ls hl => tX2_hasAct_e C hr y1 _ _ _ _ hl g h)
abbrev rmX2_draftAct : Room := { frames := 0, cells := 0, slots := 0, locals := 0 }
def wX2_draftAct (y1 : Int64) (x3 : Int32) (x4 : Int32) (σ : St) (Q : St → Prop) : Prop := (((10 : Int32) ≤ (gv σ 8 2) → Q σ) ∧ (¬ ((10 : Int32) ≤ (gv σ 8 2)) → vp_in (gv σ 8 2) 10 ∧ ∀ σ3 : St, σ3 = pw σ 33 (gv σ 8 2).toNatClampNeg y1 → vp_in (gv σ3 8 2) 10 ∧ ∀ σ5 : St, σ5 = pv σ3 34 (gv σ3 8 2).toNatClampNeg x3 → vp_in (gv σ5 8 2) 10 ∧ ∀ σ7 : St, σ7 = pv σ5 35 (gv σ5 8 2).toNatClampNeg x4 → ∀ σ8 : St, σ8 = pv σ7 8 2 ((gv σ7 8 2) + (1 : Int32)) → Q σ8))
set_option maxHeartbeats 4000000 in
set_option maxRecDepth 100000 in
theorem tX2_draftAct_e {p : Program} {l : Launch} {e : Env} {s : State} {m : MethodId} {args : Array Value} {below : List Frame} {meth : Method} {c : Code} {E : EE} {base : Nat} (C : Cx p E base s m args meth c cX2_draftAct 5 RX2) (hr : meth.sig.returnType = none) {Q : St → Prop} : ∀ (y1 : Int64) (x3 : Int32) (x4 : Int32) (σ : St) (H : Heap) (locs : List Loc) (ls : Array Slot), lv_has ls 5 [(0, .ref (ga E 8)), (1, .long y1), (3, .int x3), (4, .int x4)] → GW E base s σ H locs → wX2_draftAct y1 x3 x4 σ Q → W p l e rmX2_draftAct s m args below meth c H locs 0 0 (MQ below (QV E base Q) args s 0 0 (fun q => base ≤ q)) (F0 m 0 ls []) := by
  intro y1 x3 x4 σ H locs ls hl g h
  refine lv_aload_n C.1 C.2.1 dX2_draftAct_0 rfl (lv_at hl 0 rfl) ?_
  refine gx_getI C g fl_X2_18 dX2_draftAct_1 sh_8 rfl ?_
  refine lv_bipush (v := 10) C.1 C.2.1 dX2_draftAct_4 (by decide) ?_
  refine lv_icmp_ge (tgt := 50) C.1 C.2.1 dX2_draftAct_6 (by decide) (fun c1 => ?_) (fun c1 => ?_)
  · have h := h.1 c1
    exact gx_vret C hr g dX2_draftAct_50 h
  · have h := h.2 c1
    refine lv_aload_n C.1 C.2.1 dX2_draftAct_9 rfl (lv_at hl 0 rfl) ?_
    refine gx_getR C g fl_X2_47 dX2_draftAct_10 sh_8 rfl (by decide) ?_
    refine lv_aload_n C.1 C.2.1 dX2_draftAct_13 rfl (lv_at hl 0 rfl) ?_
    refine gx_getI C g fl_X2_18 dX2_draftAct_14 sh_8 rfl ?_
    refine lv_lload_n C.1 C.2.1 dX2_draftAct_17 rfl (lv_at hl 1 rfl) ?_
    obtain ⟨i2, h⟩ := h
    refine gx_last C g dX2_draftAct_18 sh_33 i2 (fun H locs σ3 eσ3 g => ?_)
    have h := h σ3 eσ3
    refine lv_aload_n C.1 C.2.1 dX2_draftAct_19 rfl (lv_at hl 0 rfl) ?_
    refine gx_getR C g fl_X2_51 dX2_draftAct_20 sh_8 rfl (by decide) ?_
    refine lv_aload_n C.1 C.2.1 dX2_draftAct_23 rfl (lv_at hl 0 rfl) ?_
    refine gx_getI C g fl_X2_18 dX2_draftAct_24 sh_8 rfl ?_
    refine lv_iload_n C.1 C.2.1 dX2_draftAct_27 rfl (lv_at hl 2 rfl) ?_
    obtain ⟨i4, h⟩ := h
    refine gx_iast C g dX2_draftAct_28 sh_34 i4 (fun H locs σ5 eσ5 g => ?_)
    have h := h σ5 eσ5
    refine lv_aload_n C.1 C.2.1 dX2_draftAct_29 rfl (lv_at hl 0 rfl) ?_
    refine gx_getR C g fl_X2_54 dX2_draftAct_30 sh_8 rfl (by decide) ?_
    refine lv_aload_n C.1 C.2.1 dX2_draftAct_33 rfl (lv_at hl 0 rfl) ?_
    refine gx_getI C g fl_X2_18 dX2_draftAct_34 sh_8 rfl ?_
    refine lv_iload C.1 C.2.1 dX2_draftAct_37 (lv_at hl 3 rfl) ?_
    obtain ⟨i6, h⟩ := h
    refine gx_iast C g dX2_draftAct_39 sh_35 i6 (fun H locs σ7 eσ7 g => ?_)
    have h := h σ7 eσ7
    refine lv_aload_n C.1 C.2.1 dX2_draftAct_40 rfl (lv_at hl 0 rfl) ?_
    refine lv_dup C.1 C.2.1 dX2_draftAct_41 rfl ?_
    refine gx_getI C g fl_X2_18 dX2_draftAct_42 sh_8 rfl ?_
    refine lv_iconst (v := 1) C.1 C.2.1 dX2_draftAct_45 (by decide) ?_
    refine lv_iadd C.1 C.2.1 dX2_draftAct_46 ?_
    refine gx_putI C g fi_X2_18 dX2_draftAct_47 sh_8 rfl (fun H locs σ8 eσ8 g => ?_)
    have h := h σ8 eσ8
    exact gx_vret C hr g dX2_draftAct_50 h
theorem mX2_draftAct {l : Launch} {E : EE} {base : Nat} (y1 : Int64) (x3 : Int32) (x4 : Int32) (σ : St) (Q : St → Prop) (h : wX2_draftAct y1 x3 x4 σ Q) : Met l yX2_draftAct (wy yX2_draftAct cX2_draftAct 5 none) rmX2_draftAct (va_Pc [.ref (ga E 8), .long y1, .int x3, .int x4] (fun U => SW E base σ U)) (QV E base Q) (rmX2_draftAct).cells (rmX2_draftAct).slots (fun q => base ≤ q) :=
  met_of (by decide) (Nat.le_of_ble_eq_true rfl) (fun p e s m args below meth c C hr g ls hl => tX2_draftAct_e C hr y1 x3 x4 _ _ _ _ hl g h)
abbrev rmX2_draftRule : Room := { frames := 0, cells := 0, slots := 0, locals := 0 }
def wX2_draftRule (σ : St) (Q : St → Prop) : Prop := (((30 : Int32) ≤ (gv σ 8 3) → Q σ) ∧ (¬ ((30 : Int32) ≤ (gv σ 8 3)) → vp_in (gv σ 8 3) 30 ∧ ∀ σ3 : St, σ3 = pv σ 32 (gv σ 8 3).toNatClampNeg ((gv σ 8 2) - (1 : Int32)) → vp_in (gv σ3 8 3) 30 ∧ ∀ σ5 : St, σ5 = pv σ3 31 (gv σ3 8 3).toNatClampNeg (gv σ3 8 4) → ∀ σ6 : St, σ6 = pv σ5 8 3 ((gv σ5 8 3) + (1 : Int32)) → Q σ6))
set_option maxHeartbeats 4000000 in
set_option maxRecDepth 100000 in
theorem tX2_draftRule_e {p : Program} {l : Launch} {e : Env} {s : State} {m : MethodId} {args : Array Value} {below : List Frame} {meth : Method} {c : Code} {E : EE} {base : Nat} (C : Cx p E base s m args meth c cX2_draftRule 1 RX2) (hr : meth.sig.returnType = none) {Q : St → Prop} : ∀ (σ : St) (H : Heap) (locs : List Loc) (ls : Array Slot), lv_has ls 1 [(0, .ref (ga E 8))] → GW E base s σ H locs → wX2_draftRule σ Q → W p l e rmX2_draftRule s m args below meth c H locs 0 0 (MQ below (QV E base Q) args s 0 0 (fun q => base ≤ q)) (F0 m 0 ls []) := by
  intro σ H locs ls hl g h
  refine lv_aload_n C.1 C.2.1 dX2_draftRule_0 rfl (lv_at hl 0 rfl) ?_
  refine gx_getI C g fl_X2_21 dX2_draftRule_1 sh_8 rfl ?_
  refine lv_bipush (v := 30) C.1 C.2.1 dX2_draftRule_4 (by decide) ?_
  refine lv_icmp_ge (tgt := 47) C.1 C.2.1 dX2_draftRule_6 (by decide) (fun c1 => ?_) (fun c1 => ?_)
  · have h := h.1 c1
    exact gx_vret C hr g dX2_draftRule_47 h
  · have h := h.2 c1
    refine lv_aload_n C.1 C.2.1 dX2_draftRule_9 rfl (lv_at hl 0 rfl) ?_
    refine gx_getR C g fl_X2_44 dX2_draftRule_10 sh_8 rfl (by decide) ?_
    refine lv_aload_n C.1 C.2.1 dX2_draftRule_13 rfl (lv_at hl 0 rfl) ?_
    refine gx_getI C g fl_X2_21 dX2_draftRule_14 sh_8 rfl ?_
    refine lv_aload_n C.1 C.2.1 dX2_draftRule_17 rfl (lv_at hl 0 rfl) ?_
    refine gx_getI C g fl_X2_18 dX2_draftRule_18 sh_8 rfl ?_
    refine lv_iconst (v := 1) C.1 C.2.1 dX2_draftRule_21 (by decide) ?_
    refine lv_isub C.1 C.2.1 dX2_draftRule_22 ?_
    obtain ⟨i2, h⟩ := h
    refine gx_iast C g dX2_draftRule_23 sh_32 i2 (fun H locs σ3 eσ3 g => ?_)
    have h := h σ3 eσ3
    refine lv_aload_n C.1 C.2.1 dX2_draftRule_24 rfl (lv_at hl 0 rfl) ?_
    refine gx_getR C g fl_X2_41 dX2_draftRule_25 sh_8 rfl (by decide) ?_
    refine lv_aload_n C.1 C.2.1 dX2_draftRule_28 rfl (lv_at hl 0 rfl) ?_
    refine gx_getI C g fl_X2_21 dX2_draftRule_29 sh_8 rfl ?_
    refine lv_aload_n C.1 C.2.1 dX2_draftRule_32 rfl (lv_at hl 0 rfl) ?_
    refine gx_getI C g fl_X2_24 dX2_draftRule_33 sh_8 rfl ?_
    obtain ⟨i4, h⟩ := h
    refine gx_iast C g dX2_draftRule_36 sh_31 i4 (fun H locs σ5 eσ5 g => ?_)
    have h := h σ5 eσ5
    refine lv_aload_n C.1 C.2.1 dX2_draftRule_37 rfl (lv_at hl 0 rfl) ?_
    refine lv_dup C.1 C.2.1 dX2_draftRule_38 rfl ?_
    refine gx_getI C g fl_X2_21 dX2_draftRule_39 sh_8 rfl ?_
    refine lv_iconst (v := 1) C.1 C.2.1 dX2_draftRule_42 (by decide) ?_
    refine lv_iadd C.1 C.2.1 dX2_draftRule_43 ?_
    refine gx_putI C g fi_X2_21 dX2_draftRule_44 sh_8 rfl (fun H locs σ6 eσ6 g => ?_)
    have h := h σ6 eσ6
    exact gx_vret C hr g dX2_draftRule_47 h
theorem mX2_draftRule {l : Launch} {E : EE} {base : Nat} (σ : St) (Q : St → Prop) (h : wX2_draftRule σ Q) : Met l yX2_draftRule (wy yX2_draftRule cX2_draftRule 1 none) rmX2_draftRule (va_Pc [.ref (ga E 8)] (fun U => SW E base σ U)) (QV E base Q) (rmX2_draftRule).cells (rmX2_draftRule).slots (fun q => base ≤ q) :=
  met_of (by decide) (Nat.le_of_ble_eq_true rfl) (fun p e s m args below meth c C hr g ls hl => tX2_draftRule_e C hr  _ _ _ _ hl g h)
abbrev rmX2_emit : Room := { frames := 0, cells := 0, slots := 0, locals := 0 }
def wX2_emit (x1 : Int32) (σ : St) (Q : St → Prop) : Prop := (((nI (gn σ)) ≤ (gv σ 8 4) → Q σ) ∧ (¬ ((nI (gn σ)) ≤ (gv σ 8 4)) → vp_in (gv σ 8 4) (gn σ) ∧ ∀ σ3 : St, σ3 = pv σ 36 (gv σ 8 4).toNatClampNeg x1 → ∀ σ4 : St, σ4 = pv σ3 8 4 ((gv σ3 8 4) + (1 : Int32)) → Q σ4))
set_option maxHeartbeats 4000000 in
set_option maxRecDepth 100000 in
theorem tX2_emit_e {p : Program} {l : Launch} {e : Env} {s : State} {m : MethodId} {args : Array Value} {below : List Frame} {meth : Method} {c : Code} {E : EE} {base : Nat} (C : Cx p E base s m args meth c cX2_emit 2 RX2) (hr : meth.sig.returnType = none) {Q : St → Prop} : ∀ (x1 : Int32) (σ : St) (H : Heap) (locs : List Loc) (ls : Array Slot), lv_has ls 2 [(0, .ref (ga E 8)), (1, .int x1)] → GW E base s σ H locs → wX2_emit x1 σ Q → W p l e rmX2_emit s m args below meth c H locs 0 0 (MQ below (QV E base Q) args s 0 0 (fun q => base ≤ q)) (F0 m 0 ls []) := by
  intro x1 σ H locs ls hl g h
  refine lv_aload_n C.1 C.2.1 dX2_emit_0 rfl (lv_at hl 0 rfl) ?_
  refine gx_getI C g fl_X2_24 dX2_emit_1 sh_8 rfl ?_
  refine lv_aload_n C.1 C.2.1 dX2_emit_4 rfl (lv_at hl 0 rfl) ?_
  refine gx_getC C g fl_X2_59 dX2_emit_5 sh_8 rfl ?_
  refine gx_clenC C g dX2_emit_8 ?_
  refine lv_icmp_ge (tgt := 32) C.1 C.2.1 dX2_emit_9 (by decide) (fun c1 => ?_) (fun c1 => ?_)
  · have h := h.1 c1
    exact gx_vret C hr g dX2_emit_32 h
  · have h := h.2 c1
    refine lv_aload_n C.1 C.2.1 dX2_emit_12 rfl (lv_at hl 0 rfl) ?_
    refine gx_getC C g fl_X2_59 dX2_emit_13 sh_8 rfl ?_
    refine lv_aload_n C.1 C.2.1 dX2_emit_16 rfl (lv_at hl 0 rfl) ?_
    refine gx_getI C g fl_X2_24 dX2_emit_17 sh_8 rfl ?_
    refine lv_iload_n C.1 C.2.1 dX2_emit_20 rfl (lv_at hl 1 rfl) ?_
    obtain ⟨i2, h⟩ := h
    refine gx_castC C g dX2_emit_21 i2 (fun H locs σ3 eσ3 g => ?_)
    have h := h σ3 eσ3
    refine lv_aload_n C.1 C.2.1 dX2_emit_22 rfl (lv_at hl 0 rfl) ?_
    refine lv_dup C.1 C.2.1 dX2_emit_23 rfl ?_
    refine gx_getI C g fl_X2_24 dX2_emit_24 sh_8 rfl ?_
    refine lv_iconst (v := 1) C.1 C.2.1 dX2_emit_27 (by decide) ?_
    refine lv_iadd C.1 C.2.1 dX2_emit_28 ?_
    refine gx_putI C g fi_X2_24 dX2_emit_29 sh_8 rfl (fun H locs σ4 eσ4 g => ?_)
    have h := h σ4 eσ4
    exact gx_vret C hr g dX2_emit_32 h
theorem mX2_emit {l : Launch} {E : EE} {base : Nat} (x1 : Int32) (σ : St) (Q : St → Prop) (h : wX2_emit x1 σ Q) : Met l yX2_emit (wy yX2_emit cX2_emit 2 none) rmX2_emit (va_Pc [.ref (ga E 8), .int x1] (fun U => SW E base σ U)) (QV E base Q) (rmX2_emit).cells (rmX2_emit).slots (fun q => base ≤ q) :=
  met_of (by decide) (Nat.le_of_ble_eq_true rfl) (fun p e s m args below meth c C hr g ls hl => tX2_emit_e C hr x1 _ _ _ _ hl g h)
abbrev rmX2_takeDraft : Room := { frames := 0, cells := 0, slots := 0, locals := 0 }
def wX2_takeDraft (σ : St) (Q : St → Prop) : Prop := ∀ σ1 : St, σ1 = pv σ 8 0 (gv σ 8 2) → ∀ σ2 : St, σ2 = pv σ1 8 1 (gv σ1 8 3) → ∀ σ3 : St, σ3 = pv σ2 8 15 (gv σ2 8 4) → Q σ3
set_option maxHeartbeats 4000000 in
set_option maxRecDepth 100000 in
theorem tX2_takeDraft_e {p : Program} {l : Launch} {e : Env} {s : State} {m : MethodId} {args : Array Value} {below : List Frame} {meth : Method} {c : Code} {E : EE} {base : Nat} (C : Cx p E base s m args meth c cX2_takeDraft 1 RX2) (hr : meth.sig.returnType = none) {Q : St → Prop} : ∀ (σ : St) (H : Heap) (locs : List Loc) (ls : Array Slot), lv_has ls 1 [(0, .ref (ga E 8))] → GW E base s σ H locs → wX2_takeDraft σ Q → W p l e rmX2_takeDraft s m args below meth c H locs 0 0 (MQ below (QV E base Q) args s 0 0 (fun q => base ≤ q)) (F0 m 0 ls []) := by
  intro σ H locs ls hl g h
  refine lv_aload_n C.1 C.2.1 dX2_takeDraft_0 rfl (lv_at hl 0 rfl) ?_
  refine lv_aload_n C.1 C.2.1 dX2_takeDraft_1 rfl (lv_at hl 0 rfl) ?_
  refine gx_getI C g fl_X2_18 dX2_takeDraft_2 sh_8 rfl ?_
  refine gx_putI C g fi_X2_9 dX2_takeDraft_5 sh_8 rfl (fun H locs σ1 eσ1 g => ?_)
  have h := h σ1 eσ1
  refine lv_aload_n C.1 C.2.1 dX2_takeDraft_8 rfl (lv_at hl 0 rfl) ?_
  refine lv_aload_n C.1 C.2.1 dX2_takeDraft_9 rfl (lv_at hl 0 rfl) ?_
  refine gx_getI C g fl_X2_21 dX2_takeDraft_10 sh_8 rfl ?_
  refine gx_putI C g fi_X2_15 dX2_takeDraft_13 sh_8 rfl (fun H locs σ2 eσ2 g => ?_)
  have h := h σ2 eσ2
  refine lv_aload_n C.1 C.2.1 dX2_takeDraft_16 rfl (lv_at hl 0 rfl) ?_
  refine lv_aload_n C.1 C.2.1 dX2_takeDraft_17 rfl (lv_at hl 0 rfl) ?_
  refine gx_getI C g fl_X2_24 dX2_takeDraft_18 sh_8 rfl ?_
  refine gx_putI C g fi_X2_62 dX2_takeDraft_21 sh_8 rfl (fun H locs σ3 eσ3 g => ?_)
  have h := h σ3 eσ3
  exact gx_vret C hr g dX2_takeDraft_24 h
theorem mX2_takeDraft {l : Launch} {E : EE} {base : Nat} (σ : St) (Q : St → Prop) (h : wX2_takeDraft σ Q) : Met l yX2_takeDraft (wy yX2_takeDraft cX2_takeDraft 1 none) rmX2_takeDraft (va_Pc [.ref (ga E 8)] (fun U => SW E base σ U)) (QV E base Q) (rmX2_takeDraft).cells (rmX2_takeDraft).slots (fun q => base ≤ q) :=
  met_of (by decide) (Nat.le_of_ble_eq_true rfl) (fun p e s m args below meth c C hr g ls hl => tX2_takeDraft_e C hr  _ _ _ _ hl g h)
abbrev rmX2_look : Room := { frames := 0, cells := 0, slots := 0, locals := 0 }
def wX2_look_102 (k1 : Nat) (Q : St → Prop) (x2 : Int32) (xt1 : Int32) (xt2 : Int32) (σ : St) : Prop := vp_in xt1 12 ∧ ∀ σ2 : St, σ2 = pv σ 37 xt1.toNatClampNeg xt2 → vp_in x2 7 ∧ vp_in (5 : Int32) 12 ∧ ∀ σ5 : St, σ5 = pv σ2 37 (5 : Int32).toNatClampNeg (gv σ2 (k1 + 4) x2.toNatClampNeg) → vp_in x2 7 ∧ vp_in (6 : Int32) 12 ∧ ∀ σ8 : St, σ8 = pv σ5 37 (6 : Int32).toNatClampNeg (gv σ5 (k1 + 5) x2.toNatClampNeg) → vp_in x2 7 ∧ vp_in (7 : Int32) 12 ∧ ∀ σ11 : St, σ11 = pv σ8 37 (7 : Int32).toNatClampNeg (gv σ8 (k1 + 2) x2.toNatClampNeg) → vp_in (8 : Int32) 12 ∧ ∀ σ13 : St, σ13 = pv σ11 37 (8 : Int32).toNatClampNeg ((gv σ11 k1 2) - (gv σ11 k1 2) / (24 : Int32) * (24 : Int32)) → vp_in (9 : Int32) 12 ∧ ∀ σ15 : St, σ15 = pv σ13 37 (9 : Int32).toNatClampNeg (gv σ13 8 18) → vp_in (10 : Int32) 12 ∧ ∀ σ17 : St, σ17 = pv σ15 37 (10 : Int32).toNatClampNeg (0 : Int32) → vp_in (11 : Int32) 12 ∧ ∀ σ19 : St, σ19 = pv σ17 37 (11 : Int32).toNatClampNeg (0 : Int32) → Q σ19
def wX2_look_78 (k1 : Nat) (Q : St → Prop) (x2 : Int32) (xt1 : Int32) (xt2 : Int32) (σ : St) : Prop := vp_in xt1 12 ∧ ∀ σ2 : St, σ2 = pv σ 37 xt1.toNatClampNeg xt2 → ((x2 ≤ 0 → wX2_look_102 k1 Q x2 (4 : Int32) (0 : Int32) σ2) ∧ (¬ (x2 ≤ 0) → vp_in (x2 - (1 : Int32)) 7 ∧ wX2_look_102 k1 Q x2 (4 : Int32) (gv σ2 (k1 + 3) (x2 - (1 : Int32)).toNatClampNeg) σ2))
def wX2_look (k1 : Nat) (x2 : Int32) (σ : St) (Q : St → Prop) : Prop := ∀ σ1 : St, σ1 = pv σ 8 18 ((gv σ k1 2) / (24 : Int32)) → vp_in x2 7 ∧ vp_in (0 : Int32) 12 ∧ ∀ σ4 : St, σ4 = pv σ1 37 (0 : Int32).toNatClampNeg (gv σ1 (k1 + 3) x2.toNatClampNeg) → vp_in x2 7 ∧ vp_in (1 : Int32) 12 ∧ ∀ σ7 : St, σ7 = pv σ4 37 (1 : Int32).toNatClampNeg (gv σ4 13 x2.toNatClampNeg) → vp_in x2 7 ∧ vp_in (2 : Int32) 12 ∧ ∀ σ10 : St, σ10 = pv σ7 37 (2 : Int32).toNatClampNeg (gv σ7 12 x2.toNatClampNeg) → (((gv σ10 2 4) ≤ (x2 + (1 : Int32)) → wX2_look_78 k1 Q x2 (3 : Int32) (0 : Int32) σ10) ∧ (¬ ((gv σ10 2 4) ≤ (x2 + (1 : Int32))) → vp_in (x2 + (1 : Int32)) 7 ∧ wX2_look_78 k1 Q x2 (3 : Int32) (gv σ10 (k1 + 3) (x2 + (1 : Int32)).toNatClampNeg) σ10))
set_option maxHeartbeats 4000000 in
set_option maxRecDepth 100000 in
theorem tX2_look_102 {p : Program} {l : Launch} {e : Env} {s : State} {m : MethodId} {args : Array Value} {below : List Frame} {meth : Method} {c : Code} {E : EE} {base : Nat} (C : Cx p E base s m args meth c cX2_look 4 RX2) (hr : meth.sig.returnType = none) {Q : St → Prop} {k1 : Nat} (hk1 : Stg k1) : ∀ (x2 : Int32) (xt1 : Int32) (xt2 : Int32) (σ : St) (H : Heap) (locs : List Loc) (ls : Array Slot), lv_has ls 4 [(0, .ref (ga E 8)), (1, .ref (ga E k1)), (2, .int x2)] → GW E base s σ H locs → wX2_look_102 k1 Q x2 xt1 xt2 σ → W p l e rmX2_look s m args below meth c H locs 0 0 (MQ below (QV E base Q) args s 0 0 (fun q => base ≤ q)) (F0 m 102 ls [.int xt2, .int xt1, .ref (ga E 37)]) := by
  intro x2 xt1 xt2 σ H locs ls hl g h
  obtain ⟨i1, h⟩ := h
  refine gx_iast C g dX2_look_102 sh_37 i1 (fun H locs σ2 eσ2 g => ?_)
  have h := h σ2 eσ2
  refine lv_aload_n C.1 C.2.1 dX2_look_103 rfl (lv_at hl 0 rfl) ?_
  refine gx_getR C g fl_X2_65 dX2_look_104 sh_8 rfl (by decide) ?_
  refine lv_iconst (v := 5) C.1 C.2.1 dX2_look_107 (by decide) ?_
  refine lv_aload_n C.1 C.2.1 dX2_look_108 rfl (lv_at hl 1 rfl) ?_
  refine gx_getR C g fl_X2_113 dX2_look_109 (stg_obj hk1) rfl (stg_ne hk1 1) ?_
  refine lv_iconst (v := 1) C.1 C.2.1 dX2_look_112 (by decide) ?_
  refine gx_aald (r := (k1 + 4)) C g dX2_look_113 (stg_row hk1) (Or.inr rfl) vi_1 rfl (stg_ne hk1 4) ?_
  refine lv_iload_n C.1 C.2.1 dX2_look_114 rfl (lv_at hl 2 rfl) ?_
  obtain ⟨i3, h⟩ := h
  refine gx_iald C g dX2_look_115 (stg_arr hk1 4 (by decide) (by decide)) i3 ?_
  obtain ⟨i4, h⟩ := h
  refine gx_iast C g dX2_look_116 sh_37 i4 (fun H locs σ5 eσ5 g => ?_)
  have h := h σ5 eσ5
  refine lv_aload_n C.1 C.2.1 dX2_look_117 rfl (lv_at hl 0 rfl) ?_
  refine gx_getR C g fl_X2_65 dX2_look_118 sh_8 rfl (by decide) ?_
  refine lv_bipush (v := 6) C.1 C.2.1 dX2_look_121 (by decide) ?_
  refine lv_aload_n C.1 C.2.1 dX2_look_123 rfl (lv_at hl 1 rfl) ?_
  refine gx_getR C g fl_X2_113 dX2_look_124 (stg_obj hk1) rfl (stg_ne hk1 1) ?_
  refine lv_iconst (v := 2) C.1 C.2.1 dX2_look_127 (by decide) ?_
  refine gx_aald (r := (k1 + 5)) C g dX2_look_128 (stg_row hk1) (Or.inr rfl) vi_2 rfl (stg_ne hk1 5) ?_
  refine lv_iload_n C.1 C.2.1 dX2_look_129 rfl (lv_at hl 2 rfl) ?_
  obtain ⟨i6, h⟩ := h
  refine gx_iald C g dX2_look_130 (stg_arr hk1 5 (by decide) (by decide)) i6 ?_
  obtain ⟨i7, h⟩ := h
  refine gx_iast C g dX2_look_131 sh_37 i7 (fun H locs σ8 eσ8 g => ?_)
  have h := h σ8 eσ8
  refine lv_aload_n C.1 C.2.1 dX2_look_132 rfl (lv_at hl 0 rfl) ?_
  refine gx_getR C g fl_X2_65 dX2_look_133 sh_8 rfl (by decide) ?_
  refine lv_bipush (v := 7) C.1 C.2.1 dX2_look_136 (by decide) ?_
  refine lv_aload_n C.1 C.2.1 dX2_look_138 rfl (lv_at hl 1 rfl) ?_
  refine gx_getR C g fl_X2_80 dX2_look_139 (stg_obj hk1) rfl (stg_ne hk1 2) ?_
  refine lv_iload_n C.1 C.2.1 dX2_look_142 rfl (lv_at hl 2 rfl) ?_
  obtain ⟨i9, h⟩ := h
  refine gx_iald C g dX2_look_143 (stg_arr hk1 2 (by decide) (by decide)) i9 ?_
  obtain ⟨i10, h⟩ := h
  refine gx_iast C g dX2_look_144 sh_37 i10 (fun H locs σ11 eσ11 g => ?_)
  have h := h σ11 eσ11
  refine lv_aload_n C.1 C.2.1 dX2_look_145 rfl (lv_at hl 0 rfl) ?_
  refine gx_getR C g fl_X2_65 dX2_look_146 sh_8 rfl (by decide) ?_
  refine lv_bipush (v := 8) C.1 C.2.1 dX2_look_149 (by decide) ?_
  refine lv_aload_n C.1 C.2.1 dX2_look_151 rfl (lv_at hl 1 rfl) ?_
  refine gx_getI C g fl_X2_110 dX2_look_152 (stg_obj hk1) rfl ?_
  refine lv_bipush (v := 24) C.1 C.2.1 dX2_look_155 (by decide) ?_
  refine lv_irem C.1 C.2.1 dX2_look_157 (by decide) ?_
  obtain ⟨i12, h⟩ := h
  refine gx_iast C g dX2_look_158 sh_37 i12 (fun H locs σ13 eσ13 g => ?_)
  have h := h σ13 eσ13
  refine lv_aload_n C.1 C.2.1 dX2_look_159 rfl (lv_at hl 0 rfl) ?_
  refine gx_getR C g fl_X2_65 dX2_look_160 sh_8 rfl (by decide) ?_
  refine lv_bipush (v := 9) C.1 C.2.1 dX2_look_163 (by decide) ?_
  refine lv_aload_n C.1 C.2.1 dX2_look_165 rfl (lv_at hl 0 rfl) ?_
  refine gx_getI C g fl_X2_71 dX2_look_166 sh_8 rfl ?_
  obtain ⟨i14, h⟩ := h
  refine gx_iast C g dX2_look_169 sh_37 i14 (fun H locs σ15 eσ15 g => ?_)
  have h := h σ15 eσ15
  refine lv_aload_n C.1 C.2.1 dX2_look_170 rfl (lv_at hl 0 rfl) ?_
  refine gx_getR C g fl_X2_65 dX2_look_171 sh_8 rfl (by decide) ?_
  refine lv_bipush (v := 10) C.1 C.2.1 dX2_look_174 (by decide) ?_
  refine lv_iconst (v := 0) C.1 C.2.1 dX2_look_176 (by decide) ?_
  obtain ⟨i16, h⟩ := h
  refine gx_iast C g dX2_look_177 sh_37 i16 (fun H locs σ17 eσ17 g => ?_)
  have h := h σ17 eσ17
  refine lv_aload_n C.1 C.2.1 dX2_look_178 rfl (lv_at hl 0 rfl) ?_
  refine gx_getR C g fl_X2_65 dX2_look_179 sh_8 rfl (by decide) ?_
  refine lv_bipush (v := 11) C.1 C.2.1 dX2_look_182 (by decide) ?_
  refine lv_iconst (v := 0) C.1 C.2.1 dX2_look_184 (by decide) ?_
  obtain ⟨i18, h⟩ := h
  refine gx_iast C g dX2_look_185 sh_37 i18 (fun H locs σ19 eσ19 g => ?_)
  have h := h σ19 eσ19
  exact gx_vret C hr g dX2_look_186 h
set_option maxHeartbeats 4000000 in
set_option maxRecDepth 100000 in
theorem tX2_look_78 {p : Program} {l : Launch} {e : Env} {s : State} {m : MethodId} {args : Array Value} {below : List Frame} {meth : Method} {c : Code} {E : EE} {base : Nat} (C : Cx p E base s m args meth c cX2_look 4 RX2) (hr : meth.sig.returnType = none) {Q : St → Prop} {k1 : Nat} (hk1 : Stg k1) : ∀ (x2 : Int32) (xt1 : Int32) (xt2 : Int32) (σ : St) (H : Heap) (locs : List Loc) (ls : Array Slot), lv_has ls 4 [(0, .ref (ga E 8)), (1, .ref (ga E k1)), (2, .int x2)] → GW E base s σ H locs → wX2_look_78 k1 Q x2 xt1 xt2 σ → W p l e rmX2_look s m args below meth c H locs 0 0 (MQ below (QV E base Q) args s 0 0 (fun q => base ≤ q)) (F0 m 78 ls [.int xt2, .int xt1, .ref (ga E 37)]) := by
  intro x2 xt1 xt2 σ H locs ls hl g h
  obtain ⟨i1, h⟩ := h
  refine gx_iast C g dX2_look_78 sh_37 i1 (fun H locs σ2 eσ2 g => ?_)
  have h := h σ2 eσ2
  refine lv_aload_n C.1 C.2.1 dX2_look_79 rfl (lv_at hl 0 rfl) ?_
  refine gx_getR C g fl_X2_65 dX2_look_80 sh_8 rfl (by decide) ?_
  refine lv_iconst (v := 4) C.1 C.2.1 dX2_look_83 (by decide) ?_
  refine lv_iload_n C.1 C.2.1 dX2_look_84 rfl (lv_at hl 2 rfl) ?_
  refine lv_if_le (tgt := 101) C.1 C.2.1 dX2_look_85 (by decide) (fun c3 => ?_) (fun c3 => ?_)
  · have h := h.1 c3
    refine lv_iconst (v := 0) C.1 C.2.1 dX2_look_101 (by decide) ?_
    exact tX2_look_102 C hr hk1 x2 (4 : Int32) (0 : Int32) _ _ _ _ (lv_sub hl [0, 1, 2] rfl) g h
  · have h := h.2 c3
    refine lv_aload_n C.1 C.2.1 dX2_look_88 rfl (lv_at hl 1 rfl) ?_
    refine gx_getR C g fl_X2_113 dX2_look_89 (stg_obj hk1) rfl (stg_ne hk1 1) ?_
    refine lv_iconst (v := 0) C.1 C.2.1 dX2_look_92 (by decide) ?_
    refine gx_aald (r := (k1 + 3)) C g dX2_look_93 (stg_row hk1) (Or.inr rfl) vi_0 rfl (stg_ne hk1 3) ?_
    refine lv_iload_n C.1 C.2.1 dX2_look_94 rfl (lv_at hl 2 rfl) ?_
    refine lv_iconst (v := 1) C.1 C.2.1 dX2_look_95 (by decide) ?_
    refine lv_isub C.1 C.2.1 dX2_look_96 ?_
    obtain ⟨i4, h⟩ := h
    refine gx_iald C g dX2_look_97 (stg_arr hk1 3 (by decide) (by decide)) i4 ?_
    refine lv_goto (tgt := 102) C.1 C.2.1 dX2_look_98 (by decide) ?_
    exact tX2_look_102 C hr hk1 x2 (4 : Int32) (gv σ2 (k1 + 3) (x2 - (1 : Int32)).toNatClampNeg) _ _ _ _ (lv_sub hl [0, 1, 2] rfl) g h
set_option maxHeartbeats 4000000 in
set_option maxRecDepth 100000 in
theorem tX2_look_e {p : Program} {l : Launch} {e : Env} {s : State} {m : MethodId} {args : Array Value} {below : List Frame} {meth : Method} {c : Code} {E : EE} {base : Nat} (C : Cx p E base s m args meth c cX2_look 4 RX2) (hr : meth.sig.returnType = none) {Q : St → Prop} {k1 : Nat} (hk1 : Stg k1) : ∀ (x2 : Int32) (σ : St) (H : Heap) (locs : List Loc) (ls : Array Slot), lv_has ls 4 [(0, .ref (ga E 8)), (1, .ref (ga E k1)), (2, .int x2), (3, .ref (ga E 2))] → GW E base s σ H locs → wX2_look k1 x2 σ Q → W p l e rmX2_look s m args below meth c H locs 0 0 (MQ below (QV E base Q) args s 0 0 (fun q => base ≤ q)) (F0 m 0 ls []) := by
  intro x2 σ H locs ls hl g h
  refine lv_aload_n C.1 C.2.1 dX2_look_0 rfl (lv_at hl 0 rfl) ?_
  refine lv_aload_n C.1 C.2.1 dX2_look_1 rfl (lv_at hl 1 rfl) ?_
  refine gx_getI C g fl_X2_110 dX2_look_2 (stg_obj hk1) rfl ?_
  refine lv_bipush (v := 24) C.1 C.2.1 dX2_look_5 (by decide) ?_
  refine lv_idiv C.1 C.2.1 dX2_look_7 (by decide) ?_
  refine gx_putI C g fi_X2_71 dX2_look_8 sh_8 rfl (fun H locs σ1 eσ1 g => ?_)
  have h := h σ1 eσ1
  refine lv_aload_n C.1 C.2.1 dX2_look_11 rfl (lv_at hl 0 rfl) ?_
  refine gx_getR C g fl_X2_65 dX2_look_12 sh_8 rfl (by decide) ?_
  refine lv_iconst (v := 0) C.1 C.2.1 dX2_look_15 (by decide) ?_
  refine lv_aload_n C.1 C.2.1 dX2_look_16 rfl (lv_at hl 1 rfl) ?_
  refine gx_getR C g fl_X2_113 dX2_look_17 (stg_obj hk1) rfl (stg_ne hk1 1) ?_
  refine lv_iconst (v := 0) C.1 C.2.1 dX2_look_20 (by decide) ?_
  refine gx_aald (r := (k1 + 3)) C g dX2_look_21 (stg_row hk1) (Or.inr rfl) vi_0 rfl (stg_ne hk1 3) ?_
  refine lv_iload_n C.1 C.2.1 dX2_look_22 rfl (lv_at hl 2 rfl) ?_
  obtain ⟨i2, h⟩ := h
  refine gx_iald C g dX2_look_23 (stg_arr hk1 3 (by decide) (by decide)) i2 ?_
  obtain ⟨i3, h⟩ := h
  refine gx_iast C g dX2_look_24 sh_37 i3 (fun H locs σ4 eσ4 g => ?_)
  have h := h σ4 eσ4
  refine lv_aload_n C.1 C.2.1 dX2_look_25 rfl (lv_at hl 0 rfl) ?_
  refine gx_getR C g fl_X2_65 dX2_look_26 sh_8 rfl (by decide) ?_
  refine lv_iconst (v := 1) C.1 C.2.1 dX2_look_29 (by decide) ?_
  refine lv_aload_n C.1 C.2.1 dX2_look_30 rfl (lv_at hl 3 rfl) ?_
  refine gx_getR C g fl_X2_117 dX2_look_31 sh_2 rfl (by decide) ?_
  refine lv_iload_n C.1 C.2.1 dX2_look_34 rfl (lv_at hl 2 rfl) ?_
  obtain ⟨i5, h⟩ := h
  refine gx_iald C g dX2_look_35 sh_13 i5 ?_
  obtain ⟨i6, h⟩ := h
  refine gx_iast C g dX2_look_36 sh_37 i6 (fun H locs σ7 eσ7 g => ?_)
  have h := h σ7 eσ7
  refine lv_aload_n C.1 C.2.1 dX2_look_37 rfl (lv_at hl 0 rfl) ?_
  refine gx_getR C g fl_X2_65 dX2_look_38 sh_8 rfl (by decide) ?_
  refine lv_iconst (v := 2) C.1 C.2.1 dX2_look_41 (by decide) ?_
  refine lv_aload_n C.1 C.2.1 dX2_look_42 rfl (lv_at hl 3 rfl) ?_
  refine gx_getR C g fl_X2_120 dX2_look_43 sh_2 rfl (by decide) ?_
  refine lv_iload_n C.1 C.2.1 dX2_look_46 rfl (lv_at hl 2 rfl) ?_
  obtain ⟨i8, h⟩ := h
  refine gx_iald C g dX2_look_47 sh_12 i8 ?_
  obtain ⟨i9, h⟩ := h
  refine gx_iast C g dX2_look_48 sh_37 i9 (fun H locs σ10 eσ10 g => ?_)
  have h := h σ10 eσ10
  refine lv_aload_n C.1 C.2.1 dX2_look_49 rfl (lv_at hl 0 rfl) ?_
  refine gx_getR C g fl_X2_65 dX2_look_50 sh_8 rfl (by decide) ?_
  refine lv_iconst (v := 3) C.1 C.2.1 dX2_look_53 (by decide) ?_
  refine lv_iload_n C.1 C.2.1 dX2_look_54 rfl (lv_at hl 2 rfl) ?_
  refine lv_iconst (v := 1) C.1 C.2.1 dX2_look_55 (by decide) ?_
  refine lv_iadd C.1 C.2.1 dX2_look_56 ?_
  refine lv_aload_n C.1 C.2.1 dX2_look_57 rfl (lv_at hl 3 rfl) ?_
  refine gx_getI C g fl_X2_123 dX2_look_58 sh_2 rfl ?_
  refine lv_icmp_ge (tgt := 77) C.1 C.2.1 dX2_look_61 (by decide) (fun c11 => ?_) (fun c11 => ?_)
  · have h := h.1 c11
    refine lv_iconst (v := 0) C.1 C.2.1 dX2_look_77 (by decide) ?_
    exact tX2_look_78 C hr hk1 x2 (3 : Int32) (0 : Int32) _ _ _ _ (lv_sub hl [0, 1, 2] rfl) g h
  · have h := h.2 c11
    refine lv_aload_n C.1 C.2.1 dX2_look_64 rfl (lv_at hl 1 rfl) ?_
    refine gx_getR C g fl_X2_113 dX2_look_65 (stg_obj hk1) rfl (stg_ne hk1 1) ?_
    refine lv_iconst (v := 0) C.1 C.2.1 dX2_look_68 (by decide) ?_
    refine gx_aald (r := (k1 + 3)) C g dX2_look_69 (stg_row hk1) (Or.inr rfl) vi_0 rfl (stg_ne hk1 3) ?_
    refine lv_iload_n C.1 C.2.1 dX2_look_70 rfl (lv_at hl 2 rfl) ?_
    refine lv_iconst (v := 1) C.1 C.2.1 dX2_look_71 (by decide) ?_
    refine lv_iadd C.1 C.2.1 dX2_look_72 ?_
    obtain ⟨i12, h⟩ := h
    refine gx_iald C g dX2_look_73 (stg_arr hk1 3 (by decide) (by decide)) i12 ?_
    refine lv_goto (tgt := 78) C.1 C.2.1 dX2_look_74 (by decide) ?_
    exact tX2_look_78 C hr hk1 x2 (3 : Int32) (gv σ10 (k1 + 3) (x2 + (1 : Int32)).toNatClampNeg) _ _ _ _ (lv_sub hl [0, 1, 2] rfl) g h
theorem mX2_look {l : Launch} {E : EE} {base : Nat} (k1 : Nat) (x2 : Int32) (hk1 : Stg k1) (σ : St) (Q : St → Prop) (h : wX2_look k1 x2 σ Q) : Met l yX2_look (wy yX2_look cX2_look 4 none) rmX2_look (va_Pc [.ref (ga E 8), .ref (ga E k1), .int x2, .ref (ga E 2)] (fun U => SW E base σ U)) (QV E base Q) (rmX2_look).cells (rmX2_look).slots (fun q => base ≤ q) :=
  met_of (by decide) (Nat.le_of_ble_eq_true rfl) (fun p e s m args below meth c C hr g ls hl => tX2_look_e C hr hk1 x2 _ _ _ _ hl g h)
abbrev rmX2_isInForce : Room := { frames := 0, cells := 0, slots := 0, locals := 0 }
def wX2_isInForce_40 (Q : Int32 → St → Prop) (σ : St) : Prop := Q (1 : Int32) σ
def wX2_isInForce (x1 : Int32) (σ : St) (Q : Int32 → St → Prop) : Prop := ((x1 < 0 → Q (0 : Int32) σ) ∧ (¬ (x1 < 0) → vp_in x1 10 ∧ (((gv σ 8 18) < (gv σ 34 x1.toNatClampNeg) → Q (0 : Int32) σ) ∧ (¬ ((gv σ 8 18) < (gv σ 34 x1.toNatClampNeg)) → vp_in x1 10 ∧ (((gv σ 35 x1.toNatClampNeg) = (-1 : Int32) → wX2_isInForce_40 Q σ) ∧ (¬ ((gv σ 35 x1.toNatClampNeg) = (-1 : Int32)) → vp_in x1 10 ∧ (((gv σ 35 x1.toNatClampNeg) ≤ (gv σ 8 18) → Q (0 : Int32) σ) ∧ (¬ ((gv σ 35 x1.toNatClampNeg) ≤ (gv σ 8 18)) → wX2_isInForce_40 Q σ))))))))
set_option maxHeartbeats 4000000 in
set_option maxRecDepth 100000 in
theorem tX2_isInForce_40 {p : Program} {l : Launch} {e : Env} {s : State} {m : MethodId} {args : Array Value} {below : List Frame} {meth : Method} {c : Code} {E : EE} {base : Nat} (C : Cx p E base s m args meth c cX2_isInForce 2 RX2) (hr : meth.sig.returnType = (some .boolean)) {Q : Int32 → St → Prop} : ∀ (σ : St) (H : Heap) (locs : List Loc) (ls : Array Slot), lv_has ls 2 [] → GW E base s σ H locs → wX2_isInForce_40 Q σ → W p l e rmX2_isInForce s m args below meth c H locs 0 0 (MQ below (QI E base Q) args s 0 0 (fun q => base ≤ q)) (F0 m 40 ls []) := by
  intro σ H locs ls hl g h
  refine lv_iconst (v := 1) C.1 C.2.1 dX2_isInForce_40 (by decide) ?_
  refine lv_goto (tgt := 45) C.1 C.2.1 dX2_isInForce_41 (by decide) ?_
  exact gx_zret C hr g dX2_isInForce_45 (by decide) h
set_option maxHeartbeats 4000000 in
set_option maxRecDepth 100000 in
theorem tX2_isInForce_e {p : Program} {l : Launch} {e : Env} {s : State} {m : MethodId} {args : Array Value} {below : List Frame} {meth : Method} {c : Code} {E : EE} {base : Nat} (C : Cx p E base s m args meth c cX2_isInForce 2 RX2) (hr : meth.sig.returnType = (some .boolean)) {Q : Int32 → St → Prop} : ∀ (x1 : Int32) (σ : St) (H : Heap) (locs : List Loc) (ls : Array Slot), lv_has ls 2 [(0, .ref (ga E 8)), (1, .int x1)] → GW E base s σ H locs → wX2_isInForce x1 σ Q → W p l e rmX2_isInForce s m args below meth c H locs 0 0 (MQ below (QI E base Q) args s 0 0 (fun q => base ≤ q)) (F0 m 0 ls []) := by
  intro x1 σ H locs ls hl g h
  refine lv_iload_n C.1 C.2.1 dX2_isInForce_0 rfl (lv_at hl 1 rfl) ?_
  refine lv_if_lt (tgt := 44) C.1 C.2.1 dX2_isInForce_1 (by decide) (fun c1 => ?_) (fun c1 => ?_)
  · have h := h.1 c1
    refine lv_iconst (v := 0) C.1 C.2.1 dX2_isInForce_44 (by decide) ?_
    exact gx_zret C hr g dX2_isInForce_45 (by decide) h
  · have h := h.2 c1
    refine lv_aload_n C.1 C.2.1 dX2_isInForce_4 rfl (lv_at hl 0 rfl) ?_
    refine gx_getI C g fl_X2_71 dX2_isInForce_5 sh_8 rfl ?_
    refine lv_aload_n C.1 C.2.1 dX2_isInForce_8 rfl (lv_at hl 0 rfl) ?_
    refine gx_getR C g fl_X2_51 dX2_isInForce_9 sh_8 rfl (by decide) ?_
    refine lv_iload_n C.1 C.2.1 dX2_isInForce_12 rfl (lv_at hl 1 rfl) ?_
    obtain ⟨i2, h⟩ := h
    refine gx_iald C g dX2_isInForce_13 sh_34 i2 ?_
    refine lv_icmp_lt (tgt := 44) C.1 C.2.1 dX2_isInForce_14 (by decide) (fun c3 => ?_) (fun c3 => ?_)
    · have h := h.1 c3
      refine lv_iconst (v := 0) C.1 C.2.1 dX2_isInForce_44 (by decide) ?_
      exact gx_zret C hr g dX2_isInForce_45 (by decide) h
    · have h := h.2 c3
      refine lv_aload_n C.1 C.2.1 dX2_isInForce_17 rfl (lv_at hl 0 rfl) ?_
      refine gx_getR C g fl_X2_54 dX2_isInForce_18 sh_8 rfl (by decide) ?_
      refine lv_iload_n C.1 C.2.1 dX2_isInForce_21 rfl (lv_at hl 1 rfl) ?_
      obtain ⟨i4, h⟩ := h
      refine gx_iald C g dX2_isInForce_22 sh_35 i4 ?_
      refine lv_iconst (v := -1) C.1 C.2.1 dX2_isInForce_23 (by decide) ?_
      refine lv_icmp_eq (tgt := 40) C.1 C.2.1 dX2_isInForce_24 (by decide) (fun c5 => ?_) (fun c5 => ?_)
      · have h := h.1 c5
        exact tX2_isInForce_40 C hr _ _ _ _ (lv_sub hl [] rfl) g h
      · have h := h.2 c5
        refine lv_aload_n C.1 C.2.1 dX2_isInForce_27 rfl (lv_at hl 0 rfl) ?_
        refine gx_getI C g fl_X2_71 dX2_isInForce_28 sh_8 rfl ?_
        refine lv_aload_n C.1 C.2.1 dX2_isInForce_31 rfl (lv_at hl 0 rfl) ?_
        refine gx_getR C g fl_X2_54 dX2_isInForce_32 sh_8 rfl (by decide) ?_
        refine lv_iload_n C.1 C.2.1 dX2_isInForce_35 rfl (lv_at hl 1 rfl) ?_
        obtain ⟨i6, h⟩ := h
        refine gx_iald C g dX2_isInForce_36 sh_35 i6 ?_
        refine lv_icmp_ge (tgt := 44) C.1 C.2.1 dX2_isInForce_37 (by decide) (fun c7 => ?_) (fun c7 => ?_)
        · have h := h.1 c7
          refine lv_iconst (v := 0) C.1 C.2.1 dX2_isInForce_44 (by decide) ?_
          exact gx_zret C hr g dX2_isInForce_45 (by decide) h
        · have h := h.2 c7
          exact tX2_isInForce_40 C hr _ _ _ _ (lv_sub hl [] rfl) g h
theorem mX2_isInForce {l : Launch} {E : EE} {base : Nat} (x1 : Int32) (σ : St) (Q : Int32 → St → Prop) (h : wX2_isInForce x1 σ Q) : Met l yX2_isInForce (wy yX2_isInForce cX2_isInForce 2 (some .boolean)) rmX2_isInForce (va_Pc [.ref (ga E 8), .int x1] (fun U => SW E base σ U)) (QI E base Q) (rmX2_isInForce).cells (rmX2_isInForce).slots (fun q => base ≤ q) :=
  met_of (by decide) (Nat.le_of_ble_eq_true rfl) (fun p e s m args below meth c C hr g ls hl => tX2_isInForce_e C hr x1 _ _ _ _ hl g h)
abbrev rmX2_valueOfVar : Room := { frames := 0, cells := 0, slots := 0, locals := 0 }
def wX2_valueOfVar (x1 : Int32) (σ : St) (Q : Int32 → St → Prop) : Prop := (((12 : Int32) ≤ x1 → Q (0 : Int32) σ) ∧ (¬ ((12 : Int32) ≤ x1) → vp_in x1 12 ∧ Q (gv σ 37 x1.toNatClampNeg) σ))
set_option maxHeartbeats 4000000 in
set_option maxRecDepth 100000 in
theorem tX2_valueOfVar_e {p : Program} {l : Launch} {e : Env} {s : State} {m : MethodId} {args : Array Value} {below : List Frame} {meth : Method} {c : Code} {E : EE} {base : Nat} (C : Cx p E base s m args meth c cX2_valueOfVar 2 RX2) (hr : meth.sig.returnType = (some .int)) {Q : Int32 → St → Prop} : ∀ (x1 : Int32) (σ : St) (H : Heap) (locs : List Loc) (ls : Array Slot), lv_has ls 2 [(0, .ref (ga E 8)), (1, .int x1)] → GW E base s σ H locs → wX2_valueOfVar x1 σ Q → W p l e rmX2_valueOfVar s m args below meth c H locs 0 0 (MQ below (QI E base Q) args s 0 0 (fun q => base ≤ q)) (F0 m 0 ls []) := by
  intro x1 σ H locs ls hl g h
  refine lv_iload_n C.1 C.2.1 dX2_valueOfVar_0 rfl (lv_at hl 1 rfl) ?_
  refine lv_bipush (v := 12) C.1 C.2.1 dX2_valueOfVar_1 (by decide) ?_
  refine lv_icmp_ge (tgt := 15) C.1 C.2.1 dX2_valueOfVar_3 (by decide) (fun c1 => ?_) (fun c1 => ?_)
  · have h := h.1 c1
    refine lv_iconst (v := 0) C.1 C.2.1 dX2_valueOfVar_15 (by decide) ?_
    exact gx_iret C hr g dX2_valueOfVar_16 h
  · have h := h.2 c1
    refine lv_aload_n C.1 C.2.1 dX2_valueOfVar_6 rfl (lv_at hl 0 rfl) ?_
    refine gx_getR C g fl_X2_65 dX2_valueOfVar_7 sh_8 rfl (by decide) ?_
    refine lv_iload_n C.1 C.2.1 dX2_valueOfVar_10 rfl (lv_at hl 1 rfl) ?_
    obtain ⟨i2, h⟩ := h
    refine gx_iald C g dX2_valueOfVar_11 sh_37 i2 ?_
    refine lv_goto (tgt := 16) C.1 C.2.1 dX2_valueOfVar_12 (by decide) ?_
    exact gx_iret C hr g dX2_valueOfVar_16 h
theorem mX2_valueOfVar {l : Launch} {E : EE} {base : Nat} (x1 : Int32) (σ : St) (Q : Int32 → St → Prop) (h : wX2_valueOfVar x1 σ Q) : Met l yX2_valueOfVar (wy yX2_valueOfVar cX2_valueOfVar 2 (some .int)) rmX2_valueOfVar (va_Pc [.ref (ga E 8), .int x1] (fun U => SW E base σ U)) (QI E base Q) (rmX2_valueOfVar).cells (rmX2_valueOfVar).slots (fun q => base ≤ q) :=
  met_of (by decide) (Nat.le_of_ble_eq_true rfl) (fun p e s m args below meth c C hr g ls hl => tX2_valueOfVar_e C hr x1 _ _ _ _ hl g h)
abbrev rmX2_joined : Room := { frames := 0, cells := 0, slots := 0, locals := 0 }
def wX2_joined (x0 : Int32) (x1 : Int32) (x2 : Int32) (σ : St) (Q : Int32 → St → Prop) : Prop := ((x0 = 8 → Q (x1 + x2) σ) ∧ (¬ (x0 = 8) → ((x0 = 9 → Q (x1 - x2) σ) ∧ (¬ (x0 = 9) → ((x0 = 10 → Q (x1 * x2) σ) ∧ (¬ (x0 = 10) → ((x0 = 11 → ((x1 = x2 → Q (1 : Int32) σ) ∧ (¬ (x1 = x2) → Q (0 : Int32) σ))) ∧ (¬ (x0 = 11) → ((x0 = 12 → ((x1 = x2 → Q (0 : Int32) σ) ∧ (¬ (x1 = x2) → Q (1 : Int32) σ))) ∧ (¬ (x0 = 12) → ((x0 = 13 → ((x2 ≤ x1 → Q (0 : Int32) σ) ∧ (¬ (x2 ≤ x1) → Q (1 : Int32) σ))) ∧ (¬ (x0 = 13) → ((x0 = 14 → ((x2 < x1 → Q (0 : Int32) σ) ∧ (¬ (x2 < x1) → Q (1 : Int32) σ))) ∧ (¬ (x0 = 14) → ((x0 = 26 → Q (x1 &&& x2) σ) ∧ (¬ (x0 = 26) → Q (x1 ||| x2) σ))))))))))))))))
set_option maxHeartbeats 4000000 in
set_option maxRecDepth 100000 in
theorem tX2_joined_e {p : Program} {l : Launch} {e : Env} {s : State} {m : MethodId} {args : Array Value} {below : List Frame} {meth : Method} {c : Code} {E : EE} {base : Nat} (C : Cx p E base s m args meth c cX2_joined 3 RX2) (hr : meth.sig.returnType = (some .int)) {Q : Int32 → St → Prop} : ∀ (x0 : Int32) (x1 : Int32) (x2 : Int32) (σ : St) (H : Heap) (locs : List Loc) (ls : Array Slot), lv_has ls 3 [(0, .int x0), (1, .int x1), (2, .int x2)] → GW E base s σ H locs → wX2_joined x0 x1 x2 σ Q → W p l e rmX2_joined s m args below meth c H locs 0 0 (MQ below (QI E base Q) args s 0 0 (fun q => base ≤ q)) (F0 m 0 ls []) := by
  intro x0 x1 x2 σ H locs ls hl g h
  refine lv_iload_n C.1 C.2.1 dX2_joined_0 rfl (lv_at hl 0 rfl) ?_
  by_cases c1 : x0 = 8
  · have h := h.1 c1
    refine gx_tabI (tgt := 92) C.1 C.2.1 dX2_joined_1 (off := 91) (k := 8) c1 (by decide +kernel) (by decide) ?_
    refine lv_iload_n C.1 C.2.1 dX2_joined_92 rfl (lv_at hl 1 rfl) ?_
    refine lv_iload_n C.1 C.2.1 dX2_joined_93 rfl (lv_at hl 2 rfl) ?_
    refine lv_iadd C.1 C.2.1 dX2_joined_94 ?_
    exact gx_iret C hr g dX2_joined_95 h
  · have h := h.2 c1
    by_cases c2 : x0 = 9
    · have h := h.1 c2
      refine gx_tabI (tgt := 96) C.1 C.2.1 dX2_joined_1 (off := 95) (k := 9) c2 (by decide +kernel) (by decide) ?_
      refine lv_iload_n C.1 C.2.1 dX2_joined_96 rfl (lv_at hl 1 rfl) ?_
      refine lv_iload_n C.1 C.2.1 dX2_joined_97 rfl (lv_at hl 2 rfl) ?_
      refine lv_isub C.1 C.2.1 dX2_joined_98 ?_
      exact gx_iret C hr g dX2_joined_99 h
    · have h := h.2 c2
      by_cases c3 : x0 = 10
      · have h := h.1 c3
        refine gx_tabI (tgt := 100) C.1 C.2.1 dX2_joined_1 (off := 99) (k := 10) c3 (by decide +kernel) (by decide) ?_
        refine lv_iload_n C.1 C.2.1 dX2_joined_100 rfl (lv_at hl 1 rfl) ?_
        refine lv_iload_n C.1 C.2.1 dX2_joined_101 rfl (lv_at hl 2 rfl) ?_
        refine lv_imul C.1 C.2.1 dX2_joined_102 ?_
        exact gx_iret C hr g dX2_joined_103 h
      · have h := h.2 c3
        by_cases c4 : x0 = 11
        · have h := h.1 c4
          refine gx_tabI (tgt := 104) C.1 C.2.1 dX2_joined_1 (off := 103) (k := 11) c4 (by decide +kernel) (by decide) ?_
          refine lv_iload_n C.1 C.2.1 dX2_joined_104 rfl (lv_at hl 1 rfl) ?_
          refine lv_iload_n C.1 C.2.1 dX2_joined_105 rfl (lv_at hl 2 rfl) ?_
          refine lv_icmp_ne (tgt := 113) C.1 C.2.1 dX2_joined_106 (by decide) (fun c5 => ?_) (fun c5 => ?_)
          · have h := h.2 c5
            refine lv_iconst (v := 0) C.1 C.2.1 dX2_joined_113 (by decide) ?_
            exact gx_iret C hr g dX2_joined_114 h
          · have h := h.1 c5
            refine lv_iconst (v := 1) C.1 C.2.1 dX2_joined_109 (by decide) ?_
            refine lv_goto (tgt := 114) C.1 C.2.1 dX2_joined_110 (by decide) ?_
            exact gx_iret C hr g dX2_joined_114 h
        · have h := h.2 c4
          by_cases c6 : x0 = 12
          · have h := h.1 c6
            refine gx_tabI (tgt := 115) C.1 C.2.1 dX2_joined_1 (off := 114) (k := 12) c6 (by decide +kernel) (by decide) ?_
            refine lv_iload_n C.1 C.2.1 dX2_joined_115 rfl (lv_at hl 1 rfl) ?_
            refine lv_iload_n C.1 C.2.1 dX2_joined_116 rfl (lv_at hl 2 rfl) ?_
            refine lv_icmp_eq (tgt := 124) C.1 C.2.1 dX2_joined_117 (by decide) (fun c7 => ?_) (fun c7 => ?_)
            · have h := h.1 c7
              refine lv_iconst (v := 0) C.1 C.2.1 dX2_joined_124 (by decide) ?_
              exact gx_iret C hr g dX2_joined_125 h
            · have h := h.2 c7
              refine lv_iconst (v := 1) C.1 C.2.1 dX2_joined_120 (by decide) ?_
              refine lv_goto (tgt := 125) C.1 C.2.1 dX2_joined_121 (by decide) ?_
              exact gx_iret C hr g dX2_joined_125 h
          · have h := h.2 c6
            by_cases c8 : x0 = 13
            · have h := h.1 c8
              refine gx_tabI (tgt := 126) C.1 C.2.1 dX2_joined_1 (off := 125) (k := 13) c8 (by decide +kernel) (by decide) ?_
              refine lv_iload_n C.1 C.2.1 dX2_joined_126 rfl (lv_at hl 1 rfl) ?_
              refine lv_iload_n C.1 C.2.1 dX2_joined_127 rfl (lv_at hl 2 rfl) ?_
              refine lv_icmp_ge (tgt := 135) C.1 C.2.1 dX2_joined_128 (by decide) (fun c9 => ?_) (fun c9 => ?_)
              · have h := h.1 c9
                refine lv_iconst (v := 0) C.1 C.2.1 dX2_joined_135 (by decide) ?_
                exact gx_iret C hr g dX2_joined_136 h
              · have h := h.2 c9
                refine lv_iconst (v := 1) C.1 C.2.1 dX2_joined_131 (by decide) ?_
                refine lv_goto (tgt := 136) C.1 C.2.1 dX2_joined_132 (by decide) ?_
                exact gx_iret C hr g dX2_joined_136 h
            · have h := h.2 c8
              by_cases c10 : x0 = 14
              · have h := h.1 c10
                refine gx_tabI (tgt := 137) C.1 C.2.1 dX2_joined_1 (off := 136) (k := 14) c10 (by decide +kernel) (by decide) ?_
                refine lv_iload_n C.1 C.2.1 dX2_joined_137 rfl (lv_at hl 1 rfl) ?_
                refine lv_iload_n C.1 C.2.1 dX2_joined_138 rfl (lv_at hl 2 rfl) ?_
                refine lv_icmp_gt (tgt := 146) C.1 C.2.1 dX2_joined_139 (by decide) (fun c11 => ?_) (fun c11 => ?_)
                · have h := h.1 c11
                  refine lv_iconst (v := 0) C.1 C.2.1 dX2_joined_146 (by decide) ?_
                  exact gx_iret C hr g dX2_joined_147 h
                · have h := h.2 c11
                  refine lv_iconst (v := 1) C.1 C.2.1 dX2_joined_142 (by decide) ?_
                  refine lv_goto (tgt := 147) C.1 C.2.1 dX2_joined_143 (by decide) ?_
                  exact gx_iret C hr g dX2_joined_147 h
              · have h := h.2 c10
                by_cases c12 : x0 = 26
                · have h := h.1 c12
                  refine gx_tabI (tgt := 148) C.1 C.2.1 dX2_joined_1 (off := 147) (k := 26) c12 (by decide +kernel) (by decide) ?_
                  refine lv_iload_n C.1 C.2.1 dX2_joined_148 rfl (lv_at hl 1 rfl) ?_
                  refine lv_iload_n C.1 C.2.1 dX2_joined_149 rfl (lv_at hl 2 rfl) ?_
                  refine lv_iand C.1 C.2.1 dX2_joined_150 ?_
                  exact gx_iret C hr g dX2_joined_151 h
                · have h := h.2 c12
                  refine gx_tabD (tgt := 152) C.1 C.2.1 dX2_joined_1 [8, 9, 10, 11, 12, 13, 14, 26] (List.forall_mem_cons.mpr ⟨c1, List.forall_mem_cons.mpr ⟨c2, List.forall_mem_cons.mpr ⟨c3, List.forall_mem_cons.mpr ⟨c4, List.forall_mem_cons.mpr ⟨c6, List.forall_mem_cons.mpr ⟨c8, List.forall_mem_cons.mpr ⟨c10, List.forall_mem_cons.mpr ⟨c12, fun _ z => by cases z⟩⟩⟩⟩⟩⟩⟩⟩) (by decide +kernel) (by decide +kernel) (by decide) ?_
                  refine lv_iload_n C.1 C.2.1 dX2_joined_152 rfl (lv_at hl 1 rfl) ?_
                  refine lv_iload_n C.1 C.2.1 dX2_joined_153 rfl (lv_at hl 2 rfl) ?_
                  refine lv_ior C.1 C.2.1 dX2_joined_154 ?_
                  exact gx_iret C hr g dX2_joined_155 h
theorem mX2_joined {l : Launch} {E : EE} {base : Nat} (x0 : Int32) (x1 : Int32) (x2 : Int32) (σ : St) (Q : Int32 → St → Prop) (h : wX2_joined x0 x1 x2 σ Q) : Met l yX2_joined (wy yX2_joined cX2_joined 3 (some .int)) rmX2_joined (va_Pc [.int x0, .int x1, .int x2] (fun U => SW E base σ U)) (QI E base Q) (rmX2_joined).cells (rmX2_joined).slots (fun q => base ≤ q) :=
  met_of (by decide) (Nat.le_of_ble_eq_true rfl) (fun p e s m args below meth c C hr g ls hl => tX2_joined_e C hr x0 x1 x2 _ _ _ _ hl g h)
abbrev rmX2_valueOf : Room := { frames := 1, cells := 0, slots := 0, locals := 22 }
def wX2_valueOf_153 (Q : Int32 → St → Prop) (σ : St) : Prop := vp_in (0 : Int32) 32 ∧ Q (gv σ 38 (0 : Int32).toNatClampNeg) σ
def wX2_valueOf_147 (Q : Int32 → St → Prop) (K5 : Int32 → Int32 → Int32 → St → Prop) (x2 : Int32) (x3 : Int32) (x4 : Int32) (σ : St) : Prop := ∀ x4_1 : Int32, x4_1 = x4 + 1 → K5 x2 x3 x4_1 σ
def wX2_valueOf_73 (Q : Int32 → St → Prop) (K5 : Int32 → Int32 → Int32 → St → Prop) (x2 : Int32) (x3 : Int32) (x4 : Int32) (xt1 : Int32) (xt2 : Int32) (σ : St) : Prop := vp_in xt1 32 ∧ ∀ σ2 : St, σ2 = pv σ 38 xt1.toNatClampNeg xt2 → ∀ x3_3 : Int32, x3_3 = x3 + 1 → wX2_valueOf_147 Q K5 x2 x3_3 x4 σ2
def wX2_valueOf_42 (Q : Int32 → St → Prop) (K5 : Int32 → Int32 → Int32 → St → Prop) (x2 : Int32) (x3 : Int32) (x4 : Int32) (x5 : Int32) (σ : St) : Prop := (((32 : Int32) ≤ x3 → wX2_valueOf_147 Q K5 x2 x3 x4 σ) ∧ (¬ ((32 : Int32) ≤ x3) → ((x5 < 0 → wX2_valueOfVar ((-x5) - (27 : Int32)) σ (fun (r3 : Int32) (σ4 : St) => wX2_valueOf_73 Q K5 x2 x3 x4 x3 r3 σ4)) ∧ (¬ (x5 < 0) → wX2_valueOf_73 Q K5 x2 x3 x4 x3 x5 σ))))
def wX2_valueOf_111 (Q : Int32 → St → Prop) (K5 : Int32 → Int32 → Int32 → St → Prop) (x2 : Int32) (x3 : Int32) (x4 : Int32) (x5 : Int32) (σ : St) : Prop := ((x3 ≤ (1 : Int32) → wX2_valueOf_147 Q K5 x2 x3 x4 σ) ∧ (¬ (x3 ≤ (1 : Int32)) → ∀ x3_2 : Int32, x3_2 = x3 + (-1) → vp_in (x3_2 - (1 : Int32)) 32 ∧ vp_in x3_2 32 ∧ wX2_joined (-x5) (gv σ 38 (x3_2 - (1 : Int32)).toNatClampNeg) (gv σ 38 x3_2.toNatClampNeg) σ (fun (r5 : Int32) (σ6 : St) => vp_in (x3_2 - (1 : Int32)) 32 ∧ ∀ σ8 : St, σ8 = pv σ6 38 (x3_2 - (1 : Int32)).toNatClampNeg r5 → wX2_valueOf_147 Q K5 x2 x3_2 x4 σ8)))
def wX2_valueOf_5 (Q : Int32 → St → Prop) : Nat → Int32 → Int32 → Int32 → St → Prop
  | 0, _, _, _, _ => False
  | n + 1, x2, x3, x4, σ => ((x2 ≤ x4 → wX2_valueOf_153 Q σ) ∧ (¬ (x2 ≤ x4) → (((nI (gn σ)) ≤ x4 → wX2_valueOf_153 Q σ) ∧ (¬ ((nI (gn σ)) ≤ x4) → vp_in x4 (gn σ) ∧ ∀ x5_4 : Int32, x5_4 = gv σ 36 x4.toNatClampNeg → ((0 ≤ x5_4 → wX2_valueOf_42 Q (fun x2' x3' x4' σ' => wX2_valueOf_5 Q n x2' x3' x4' σ') x2 x3 x4 x5_4 σ) ∧ (¬ (0 ≤ x5_4) → (((-27 : Int32) < x5_4 → ((x5_4 = (-15 : Int32) → ((x3 ≤ 0 → wX2_valueOf_111 Q (fun x2' x3' x4' σ' => wX2_valueOf_5 Q n x2' x3' x4' σ') x2 x3 x4 x5_4 σ) ∧ (¬ (x3 ≤ 0) → vp_in (x3 - (1 : Int32)) 32 ∧ vp_in (x3 - (1 : Int32)) 32 ∧ ∀ σ11 : St, σ11 = pv σ 38 (x3 - (1 : Int32)).toNatClampNeg (-(gv σ 38 (x3 - (1 : Int32)).toNatClampNeg)) → wX2_valueOf_147 Q (fun x2' x3' x4' σ' => wX2_valueOf_5 Q n x2' x3' x4' σ') x2 x3 x4 σ11))) ∧ (¬ (x5_4 = (-15 : Int32)) → wX2_valueOf_111 Q (fun x2' x3' x4' σ' => wX2_valueOf_5 Q n x2' x3' x4' σ') x2 x3 x4 x5_4 σ))) ∧ (¬ ((-27 : Int32) < x5_4) → wX2_valueOf_42 Q (fun x2' x3' x4' σ' => wX2_valueOf_5 Q n x2' x3' x4' σ') x2 x3 x4 x5_4 σ))))))))
def wX2_valueOf (x1 : Int32) (x2 : Int32) (σ : St) (Q : Int32 → St → Prop) : Prop := ∃ j : Nat, wX2_valueOf_5 Q j x2 (0 : Int32) x1 σ
set_option maxHeartbeats 4000000 in
set_option maxRecDepth 100000 in
theorem tX2_valueOf_153 {p : Program} {l : Launch} {e : Env} {s : State} {m : MethodId} {args : Array Value} {below : List Frame} {meth : Method} {c : Code} {E : EE} {base : Nat} (C : Cx p E base s m args meth c cX2_valueOf 6 RX2) (hr : meth.sig.returnType = (some .int)) {Q : Int32 → St → Prop} : ∀ (σ : St) (H : Heap) (locs : List Loc) (ls : Array Slot), lv_has ls 6 [(0, .ref (ga E 8))] → GW E base s σ H locs → wX2_valueOf_153 Q σ → W p l e rmX2_valueOf s m args below meth c H locs 0 0 (MQ below (QI E base Q) args s 0 0 (fun q => base ≤ q)) (F0 m 153 ls []) := by
  intro σ H locs ls hl g h
  refine lv_aload_n C.1 C.2.1 dX2_valueOf_153 rfl (lv_at hl 0 rfl) ?_
  refine gx_getR C g fl_X2_68 dX2_valueOf_154 sh_8 rfl (by decide) ?_
  refine lv_iconst (v := 0) C.1 C.2.1 dX2_valueOf_157 (by decide) ?_
  obtain ⟨i1, h⟩ := h
  refine gx_iald C g dX2_valueOf_158 sh_38 i1 ?_
  exact gx_iret C hr g dX2_valueOf_159 h
set_option maxHeartbeats 4000000 in
set_option maxRecDepth 100000 in
theorem tX2_valueOf_147 {p : Program} {l : Launch} {e : Env} {s : State} {m : MethodId} {args : Array Value} {below : List Frame} {meth : Method} {c : Code} {E : EE} {base : Nat} (C : Cx p E base s m args meth c cX2_valueOf 6 RX2) (hr : meth.sig.returnType = (some .int)) {Q : Int32 → St → Prop} {K5 : Int32 → Int32 → Int32 → St → Prop} (hK5 : ∀ (x2 : Int32) (x3 : Int32) (x4 : Int32) (σ : St) (H : Heap) (locs : List Loc) (ls : Array Slot), lv_has ls 6 [(0, .ref (ga E 8)), (2, .int x2), (3, .int x3), (4, .int x4)] → GW E base s σ H locs → K5 x2 x3 x4 σ → W p l e rmX2_valueOf s m args below meth c H locs 0 0 (MQ below (QI E base Q) args s 0 0 (fun q => base ≤ q)) (F0 m 5 ls [])) : ∀ (x2 : Int32) (x3 : Int32) (x4 : Int32) (σ : St) (H : Heap) (locs : List Loc) (ls : Array Slot), lv_has ls 6 [(0, .ref (ga E 8)), (2, .int x2), (3, .int x3), (4, .int x4)] → GW E base s σ H locs → wX2_valueOf_147 Q K5 x2 x3 x4 σ → W p l e rmX2_valueOf s m args below meth c H locs 0 0 (MQ below (QI E base Q) args s 0 0 (fun q => base ≤ q)) (F0 m 147 ls []) := by
  intro x2 x3 x4 σ H locs ls hl g h
  obtain ⟨x4_1, ex4_1⟩ : ∃ y : Int32, y = x4 + 1 := ⟨_, rfl⟩
  have h := h x4_1 ex4_1
  refine lv_iinc (v := x4_1) (lv' := [(4, .int x4_1), (0, .ref (ga E 8)), (2, .int x2), (3, .int x3)]) C.1 C.2.1 dX2_valueOf_147 hl (k := 3) rfl (by rw [ex4_1]; rfl) (by decide) rfl (fun ls hl => ?_)
  refine lv_goto (tgt := 5) C.1 C.2.1 dX2_valueOf_150 (by decide) ?_
  exact hK5 x2 x3 x4_1 _ _ _ _ (lv_sub hl [1, 2, 3, 0] rfl) g h
set_option maxHeartbeats 4000000 in
set_option maxRecDepth 100000 in
theorem tX2_valueOf_73 {p : Program} {l : Launch} {e : Env} {s : State} {m : MethodId} {args : Array Value} {below : List Frame} {meth : Method} {c : Code} {E : EE} {base : Nat} (C : Cx p E base s m args meth c cX2_valueOf 6 RX2) (hr : meth.sig.returnType = (some .int)) {Q : Int32 → St → Prop} {K5 : Int32 → Int32 → Int32 → St → Prop} (hK5 : ∀ (x2 : Int32) (x3 : Int32) (x4 : Int32) (σ : St) (H : Heap) (locs : List Loc) (ls : Array Slot), lv_has ls 6 [(0, .ref (ga E 8)), (2, .int x2), (3, .int x3), (4, .int x4)] → GW E base s σ H locs → K5 x2 x3 x4 σ → W p l e rmX2_valueOf s m args below meth c H locs 0 0 (MQ below (QI E base Q) args s 0 0 (fun q => base ≤ q)) (F0 m 5 ls [])) : ∀ (x2 : Int32) (x3 : Int32) (x4 : Int32) (xt1 : Int32) (xt2 : Int32) (σ : St) (H : Heap) (locs : List Loc) (ls : Array Slot), lv_has ls 6 [(0, .ref (ga E 8)), (2, .int x2), (3, .int x3), (4, .int x4)] → GW E base s σ H locs → wX2_valueOf_73 Q K5 x2 x3 x4 xt1 xt2 σ → W p l e rmX2_valueOf s m args below meth c H locs 0 0 (MQ below (QI E base Q) args s 0 0 (fun q => base ≤ q)) (F0 m 73 ls [.int xt2, .int xt1, .ref (ga E 38)]) := by
  intro x2 x3 x4 xt1 xt2 σ H locs ls hl g h
  obtain ⟨i1, h⟩ := h
  refine gx_iast C g dX2_valueOf_73 sh_38 i1 (fun H locs σ2 eσ2 g => ?_)
  have h := h σ2 eσ2
  obtain ⟨x3_3, ex3_3⟩ : ∃ y : Int32, y = x3 + 1 := ⟨_, rfl⟩
  have h := h x3_3 ex3_3
  refine lv_iinc (v := x3_3) (lv' := [(3, .int x3_3), (0, .ref (ga E 8)), (2, .int x2), (4, .int x4)]) C.1 C.2.1 dX2_valueOf_74 hl (k := 2) rfl (by rw [ex3_3]; rfl) (by decide) rfl (fun ls hl => ?_)
  refine lv_goto (tgt := 147) C.1 C.2.1 dX2_valueOf_77 (by decide) ?_
  exact tX2_valueOf_147 C hr hK5 x2 x3_3 x4 _ _ _ _ (lv_sub hl [1, 2, 0, 3] rfl) g h
set_option maxHeartbeats 4000000 in
set_option maxRecDepth 100000 in
theorem tX2_valueOf_42 {p : Program} {l : Launch} {e : Env} {s : State} {m : MethodId} {args : Array Value} {below : List Frame} {meth : Method} {c : Code} {E : EE} {base : Nat} (C : Cx p E base s m args meth c cX2_valueOf 6 RX2) (hr : meth.sig.returnType = (some .int)) {Q : Int32 → St → Prop} {K5 : Int32 → Int32 → Int32 → St → Prop} (hK5 : ∀ (x2 : Int32) (x3 : Int32) (x4 : Int32) (σ : St) (H : Heap) (locs : List Loc) (ls : Array Slot), lv_has ls 6 [(0, .ref (ga E 8)), (2, .int x2), (3, .int x3), (4, .int x4)] → GW E base s σ H locs → K5 x2 x3 x4 σ → W p l e rmX2_valueOf s m args below meth c H locs 0 0 (MQ below (QI E base Q) args s 0 0 (fun q => base ≤ q)) (F0 m 5 ls [])) : ∀ (x2 : Int32) (x3 : Int32) (x4 : Int32) (x5 : Int32) (σ : St) (H : Heap) (locs : List Loc) (ls : Array Slot), lv_has ls 6 [(0, .ref (ga E 8)), (2, .int x2), (3, .int x3), (4, .int x4), (5, .int x5)] → GW E base s σ H locs → wX2_valueOf_42 Q K5 x2 x3 x4 x5 σ → W p l e rmX2_valueOf s m args below meth c H locs 0 0 (MQ below (QI E base Q) args s 0 0 (fun q => base ≤ q)) (F0 m 42 ls []) := by
  intro x2 x3 x4 x5 σ H locs ls hl g h
  refine lv_iload_n C.1 C.2.1 dX2_valueOf_42 rfl (lv_at hl 2 rfl) ?_
  refine lv_bipush (v := 32) C.1 C.2.1 dX2_valueOf_43 (by decide) ?_
  refine lv_icmp_ge (tgt := 147) C.1 C.2.1 dX2_valueOf_45 (by decide) (fun c1 => ?_) (fun c1 => ?_)
  · have h := h.1 c1
    exact tX2_valueOf_147 C hr hK5 x2 x3 x4 _ _ _ _ (lv_sub hl [0, 1, 2, 3] rfl) g h
  · have h := h.2 c1
    refine lv_aload_n C.1 C.2.1 dX2_valueOf_48 rfl (lv_at hl 0 rfl) ?_
    refine gx_getR C g fl_X2_68 dX2_valueOf_49 sh_8 rfl (by decide) ?_
    refine lv_iload_n C.1 C.2.1 dX2_valueOf_52 rfl (lv_at hl 2 rfl) ?_
    refine lv_iload C.1 C.2.1 dX2_valueOf_53 (lv_at hl 4 rfl) ?_
    refine lv_if_lt (tgt := 63) C.1 C.2.1 dX2_valueOf_55 (by decide) (fun c2 => ?_) (fun c2 => ?_)
    · have h := h.1 c2
      refine lv_aload_n C.1 C.2.1 dX2_valueOf_63 rfl (lv_at hl 0 rfl) ?_
      refine lv_iload C.1 C.2.1 dX2_valueOf_64 (lv_at hl 4 rfl) ?_
      refine lv_ineg C.1 C.2.1 dX2_valueOf_66 ?_
      refine lv_bipush (v := 27) C.1 C.2.1 dX2_valueOf_67 (by decide) ?_
      refine lv_isub C.1 C.2.1 dX2_valueOf_69 ?_
      refine gx_calli0 g (gx_runV (k := 8) (rest := [.int x3, .ref (ga E 38)]) C g mb_X2_valueOfVar ml_X2_130 rfl sh_8 (mX2_valueOfVar ((-x5) - (27 : Int32)) _ _ h) ⟨Nat.le_of_ble_eq_true rfl, Nat.le_of_ble_eq_true rfl⟩ ⟨Nat.le_refl _, Nat.le_refl _⟩ rfl hl.1 rfl (Nat.le_of_ble_eq_true rfl) dX2_valueOf_70) rfl rfl (fun r3 σ4 H locs h g => ?_)
      exact tX2_valueOf_73 C hr hK5 x2 x3 x4 x3 r3 _ _ _ _ (lv_sub hl [0, 1, 2, 3] rfl) g h
    · have h := h.2 c2
      refine lv_iload C.1 C.2.1 dX2_valueOf_58 (lv_at hl 4 rfl) ?_
      refine lv_goto (tgt := 73) C.1 C.2.1 dX2_valueOf_60 (by decide) ?_
      exact tX2_valueOf_73 C hr hK5 x2 x3 x4 x3 x5 _ _ _ _ (lv_sub hl [0, 1, 2, 3] rfl) g h
set_option maxHeartbeats 4000000 in
set_option maxRecDepth 100000 in
theorem tX2_valueOf_111 {p : Program} {l : Launch} {e : Env} {s : State} {m : MethodId} {args : Array Value} {below : List Frame} {meth : Method} {c : Code} {E : EE} {base : Nat} (C : Cx p E base s m args meth c cX2_valueOf 6 RX2) (hr : meth.sig.returnType = (some .int)) {Q : Int32 → St → Prop} {K5 : Int32 → Int32 → Int32 → St → Prop} (hK5 : ∀ (x2 : Int32) (x3 : Int32) (x4 : Int32) (σ : St) (H : Heap) (locs : List Loc) (ls : Array Slot), lv_has ls 6 [(0, .ref (ga E 8)), (2, .int x2), (3, .int x3), (4, .int x4)] → GW E base s σ H locs → K5 x2 x3 x4 σ → W p l e rmX2_valueOf s m args below meth c H locs 0 0 (MQ below (QI E base Q) args s 0 0 (fun q => base ≤ q)) (F0 m 5 ls [])) : ∀ (x2 : Int32) (x3 : Int32) (x4 : Int32) (x5 : Int32) (σ : St) (H : Heap) (locs : List Loc) (ls : Array Slot), lv_has ls 6 [(0, .ref (ga E 8)), (2, .int x2), (3, .int x3), (4, .int x4), (5, .int x5)] → GW E base s σ H locs → wX2_valueOf_111 Q K5 x2 x3 x4 x5 σ → W p l e rmX2_valueOf s m args below meth c H locs 0 0 (MQ below (QI E base Q) args s 0 0 (fun q => base ≤ q)) (F0 m 111 ls []) := by
  intro x2 x3 x4 x5 σ H locs ls hl g h
  refine lv_iload_n C.1 C.2.1 dX2_valueOf_111 rfl (lv_at hl 2 rfl) ?_
  refine lv_iconst (v := 1) C.1 C.2.1 dX2_valueOf_112 (by decide) ?_
  refine lv_icmp_le (tgt := 147) C.1 C.2.1 dX2_valueOf_113 (by decide) (fun c1 => ?_) (fun c1 => ?_)
  · have h := h.1 c1
    exact tX2_valueOf_147 C hr hK5 x2 x3 x4 _ _ _ _ (lv_sub hl [0, 1, 2, 3] rfl) g h
  · have h := h.2 c1
    obtain ⟨x3_2, ex3_2⟩ : ∃ y : Int32, y = x3 + (-1) := ⟨_, rfl⟩
    have h := h x3_2 ex3_2
    refine lv_iinc (v := x3_2) (lv' := [(3, .int x3_2), (0, .ref (ga E 8)), (2, .int x2), (4, .int x4), (5, .int x5)]) C.1 C.2.1 dX2_valueOf_116 hl (k := 2) rfl (by rw [ex3_2]; rfl) (by decide) rfl (fun ls hl => ?_)
    refine lv_aload_n C.1 C.2.1 dX2_valueOf_119 rfl (lv_at hl 1 rfl) ?_
    refine gx_getR C g fl_X2_68 dX2_valueOf_120 sh_8 rfl (by decide) ?_
    refine lv_iload_n C.1 C.2.1 dX2_valueOf_123 rfl (lv_at hl 0 rfl) ?_
    refine lv_iconst (v := 1) C.1 C.2.1 dX2_valueOf_124 (by decide) ?_
    refine lv_isub C.1 C.2.1 dX2_valueOf_125 ?_
    refine lv_iload C.1 C.2.1 dX2_valueOf_126 (lv_at hl 4 rfl) ?_
    refine lv_ineg C.1 C.2.1 dX2_valueOf_128 ?_
    refine lv_aload_n C.1 C.2.1 dX2_valueOf_129 rfl (lv_at hl 1 rfl) ?_
    refine gx_getR C g fl_X2_68 dX2_valueOf_130 sh_8 rfl (by decide) ?_
    refine lv_iload_n C.1 C.2.1 dX2_valueOf_133 rfl (lv_at hl 0 rfl) ?_
    refine lv_iconst (v := 1) C.1 C.2.1 dX2_valueOf_134 (by decide) ?_
    refine lv_isub C.1 C.2.1 dX2_valueOf_135 ?_
    obtain ⟨i3, h⟩ := h
    refine gx_iald C g dX2_valueOf_136 sh_38 i3 ?_
    refine lv_aload_n C.1 C.2.1 dX2_valueOf_137 rfl (lv_at hl 1 rfl) ?_
    refine gx_getR C g fl_X2_68 dX2_valueOf_138 sh_8 rfl (by decide) ?_
    refine lv_iload_n C.1 C.2.1 dX2_valueOf_141 rfl (lv_at hl 0 rfl) ?_
    obtain ⟨i4, h⟩ := h
    refine gx_iald C g dX2_valueOf_142 sh_38 i4 ?_
    refine gx_calli0 g (gx_runS (rest := [.int (x3_2 - (1 : Int32)), .ref (ga E 38)]) C g ms_X2_joined ml_X2_134 (mX2_joined (-x5) (gv σ 38 (x3_2 - (1 : Int32)).toNatClampNeg) (gv σ 38 x3_2.toNatClampNeg) _ _ h) ⟨Nat.le_of_ble_eq_true rfl, Nat.le_of_ble_eq_true rfl⟩ ⟨Nat.le_refl _, Nat.le_refl _⟩ rfl hl.1 rfl (Nat.le_of_ble_eq_true rfl) dX2_valueOf_143) rfl rfl (fun r5 σ6 H locs h g => ?_)
    obtain ⟨i7, h⟩ := h
    refine gx_iast C g dX2_valueOf_146 sh_38 i7 (fun H locs σ8 eσ8 g => ?_)
    have h := h σ8 eσ8
    exact tX2_valueOf_147 C hr hK5 x2 x3_2 x4 _ _ _ _ (lv_sub hl [1, 2, 0, 3] rfl) g h
set_option maxHeartbeats 4000000 in
set_option maxRecDepth 100000 in
theorem tX2_valueOf_5 {p : Program} {l : Launch} {e : Env} {s : State} {m : MethodId} {args : Array Value} {below : List Frame} {meth : Method} {c : Code} {E : EE} {base : Nat} (C : Cx p E base s m args meth c cX2_valueOf 6 RX2) (hr : meth.sig.returnType = (some .int)) {Q : Int32 → St → Prop} : ∀ (n : Nat) (x2 : Int32) (x3 : Int32) (x4 : Int32) (σ : St) (H : Heap) (locs : List Loc) (ls : Array Slot), lv_has ls 6 [(0, .ref (ga E 8)), (2, .int x2), (3, .int x3), (4, .int x4)] → GW E base s σ H locs → wX2_valueOf_5 Q n x2 x3 x4 σ → W p l e rmX2_valueOf s m args below meth c H locs 0 0 (MQ below (QI E base Q) args s 0 0 (fun q => base ≤ q)) (F0 m 5 ls []) := by
  intro n
  induction n with
  | zero => intro _ _ _; intros; exact False.elim (by assumption)
  | succ n ih =>
    intro x2 x3 x4 σ H locs ls hl g h
    refine lv_iload C.1 C.2.1 dX2_valueOf_5 (lv_at hl 3 rfl) ?_
    refine lv_iload_n C.1 C.2.1 dX2_valueOf_7 rfl (lv_at hl 1 rfl) ?_
    refine lv_icmp_ge (tgt := 153) C.1 C.2.1 dX2_valueOf_8 (by decide) (fun c1 => ?_) (fun c1 => ?_)
    · have h := h.1 c1
      exact tX2_valueOf_153 C hr _ _ _ _ (lv_sub hl [0] rfl) g h
    · have h := h.2 c1
      refine lv_iload C.1 C.2.1 dX2_valueOf_11 (lv_at hl 3 rfl) ?_
      refine lv_aload_n C.1 C.2.1 dX2_valueOf_13 rfl (lv_at hl 0 rfl) ?_
      refine gx_getC C g fl_X2_59 dX2_valueOf_14 sh_8 rfl ?_
      refine gx_clenC C g dX2_valueOf_17 ?_
      refine lv_icmp_ge (tgt := 153) C.1 C.2.1 dX2_valueOf_18 (by decide) (fun c2 => ?_) (fun c2 => ?_)
      · have h := h.1 c2
        exact tX2_valueOf_153 C hr _ _ _ _ (lv_sub hl [0] rfl) g h
      · have h := h.2 c2
        refine lv_aload_n C.1 C.2.1 dX2_valueOf_21 rfl (lv_at hl 0 rfl) ?_
        refine gx_getC C g fl_X2_59 dX2_valueOf_22 sh_8 rfl ?_
        refine lv_iload C.1 C.2.1 dX2_valueOf_25 (lv_at hl 3 rfl) ?_
        obtain ⟨i3, h⟩ := h
        refine gx_caldC C g dX2_valueOf_27 i3 ?_
        refine lv_topi (fun x5_4 ex5_4 => ?_)
        have h := h x5_4 ex5_4
        refine lv_istore (lv' := [(5, .int x5_4), (0, .ref (ga E 8)), (2, .int x2), (3, .int x3), (4, .int x4)]) C.1 C.2.1 dX2_valueOf_28 hl (by decide) rfl (fun ls hl => ?_)
        refine lv_iload C.1 C.2.1 dX2_valueOf_30 (lv_at hl 0 rfl) ?_
        refine lv_if_ge (tgt := 42) C.1 C.2.1 dX2_valueOf_32 (by decide) (fun c5 => ?_) (fun c5 => ?_)
        · have h := h.1 c5
          exact tX2_valueOf_42 C hr ih x2 x3 x4 x5_4 _ _ _ _ (lv_sub hl [1, 2, 3, 4, 0] rfl) g h
        · have h := h.2 c5
          refine lv_iload C.1 C.2.1 dX2_valueOf_35 (lv_at hl 0 rfl) ?_
          refine lv_bipush (v := -27) C.1 C.2.1 dX2_valueOf_37 (by decide) ?_
          refine lv_icmp_gt (tgt := 80) C.1 C.2.1 dX2_valueOf_39 (by decide) (fun c6 => ?_) (fun c6 => ?_)
          · have h := h.1 c6
            refine lv_iload C.1 C.2.1 dX2_valueOf_80 (lv_at hl 0 rfl) ?_
            refine lv_bipush (v := -15) C.1 C.2.1 dX2_valueOf_82 (by decide) ?_
            refine lv_icmp_ne (tgt := 111) C.1 C.2.1 dX2_valueOf_84 (by decide) (fun c7 => ?_) (fun c7 => ?_)
            · have h := h.2 c7
              exact tX2_valueOf_111 C hr ih x2 x3 x4 x5_4 _ _ _ _ (lv_sub hl [1, 2, 3, 4, 0] rfl) g h
            · have h := h.1 c7
              refine lv_iload_n C.1 C.2.1 dX2_valueOf_87 rfl (lv_at hl 3 rfl) ?_
              refine lv_if_le (tgt := 111) C.1 C.2.1 dX2_valueOf_88 (by decide) (fun c8 => ?_) (fun c8 => ?_)
              · have h := h.1 c8
                exact tX2_valueOf_111 C hr ih x2 x3 x4 x5_4 _ _ _ _ (lv_sub hl [1, 2, 3, 4, 0] rfl) g h
              · have h := h.2 c8
                refine lv_aload_n C.1 C.2.1 dX2_valueOf_91 rfl (lv_at hl 1 rfl) ?_
                refine gx_getR C g fl_X2_68 dX2_valueOf_92 sh_8 rfl (by decide) ?_
                refine lv_iload_n C.1 C.2.1 dX2_valueOf_95 rfl (lv_at hl 3 rfl) ?_
                refine lv_iconst (v := 1) C.1 C.2.1 dX2_valueOf_96 (by decide) ?_
                refine lv_isub C.1 C.2.1 dX2_valueOf_97 ?_
                refine lv_aload_n C.1 C.2.1 dX2_valueOf_98 rfl (lv_at hl 1 rfl) ?_
                refine gx_getR C g fl_X2_68 dX2_valueOf_99 sh_8 rfl (by decide) ?_
                refine lv_iload_n C.1 C.2.1 dX2_valueOf_102 rfl (lv_at hl 3 rfl) ?_
                refine lv_iconst (v := 1) C.1 C.2.1 dX2_valueOf_103 (by decide) ?_
                refine lv_isub C.1 C.2.1 dX2_valueOf_104 ?_
                obtain ⟨i9, h⟩ := h
                refine gx_iald C g dX2_valueOf_105 sh_38 i9 ?_
                refine lv_ineg C.1 C.2.1 dX2_valueOf_106 ?_
                obtain ⟨i10, h⟩ := h
                refine gx_iast C g dX2_valueOf_107 sh_38 i10 (fun H locs σ11 eσ11 g => ?_)
                have h := h σ11 eσ11
                refine lv_goto (tgt := 147) C.1 C.2.1 dX2_valueOf_108 (by decide) ?_
                exact tX2_valueOf_147 C hr ih x2 x3 x4 _ _ _ _ (lv_sub hl [1, 2, 3, 4] rfl) g h
          · have h := h.2 c6
            exact tX2_valueOf_42 C hr ih x2 x3 x4 x5_4 _ _ _ _ (lv_sub hl [1, 2, 3, 4, 0] rfl) g h
set_option maxHeartbeats 4000000 in
set_option maxRecDepth 100000 in
theorem tX2_valueOf_e {p : Program} {l : Launch} {e : Env} {s : State} {m : MethodId} {args : Array Value} {below : List Frame} {meth : Method} {c : Code} {E : EE} {base : Nat} (C : Cx p E base s m args meth c cX2_valueOf 6 RX2) (hr : meth.sig.returnType = (some .int)) {Q : Int32 → St → Prop} : ∀ (x1 : Int32) (x2 : Int32) (σ : St) (H : Heap) (locs : List Loc) (ls : Array Slot), lv_has ls 6 [(0, .ref (ga E 8)), (1, .int x1), (2, .int x2)] → GW E base s σ H locs → wX2_valueOf x1 x2 σ Q → W p l e rmX2_valueOf s m args below meth c H locs 0 0 (MQ below (QI E base Q) args s 0 0 (fun q => base ≤ q)) (F0 m 0 ls []) := by
  intro x1 x2 σ H locs ls hl g h
  refine lv_iconst (v := 0) C.1 C.2.1 dX2_valueOf_0 (by decide) ?_
  refine lv_istore_n (lv' := [(3, .int (0 : Int32)), (0, .ref (ga E 8)), (1, .int x1), (2, .int x2)]) C.1 C.2.1 dX2_valueOf_1 rfl hl (by decide) rfl (fun ls hl => ?_)
  refine lv_iload_n C.1 C.2.1 dX2_valueOf_2 rfl (lv_at hl 2 rfl) ?_
  refine lv_istore (lv' := [(4, .int x1), (3, .int (0 : Int32)), (0, .ref (ga E 8)), (1, .int x1), (2, .int x2)]) C.1 C.2.1 dX2_valueOf_3 hl (by decide) rfl (fun ls hl => ?_)
  obtain ⟨j, h⟩ := h
  exact tX2_valueOf_5 C hr j x2 (0 : Int32) x1 _ _ _ _ (lv_sub hl [2, 4, 1, 0] rfl) g h
theorem mX2_valueOf {l : Launch} {E : EE} {base : Nat} (x1 : Int32) (x2 : Int32) (σ : St) (Q : Int32 → St → Prop) (h : wX2_valueOf x1 x2 σ Q) : Met l yX2_valueOf (wy yX2_valueOf cX2_valueOf 6 (some .int)) rmX2_valueOf (va_Pc [.ref (ga E 8), .int x1, .int x2] (fun U => SW E base σ U)) (QI E base Q) (rmX2_valueOf).cells (rmX2_valueOf).slots (fun q => base ≤ q) :=
  met_of (by decide) (Nat.le_of_ble_eq_true rfl) (fun p e s m args below meth c C hr g ls hl => tX2_valueOf_e C hr x1 x2 _ _ _ _ hl g h)
abbrev rmX2_isFor : Room := { frames := 2, cells := 0, slots := 0, locals := 47 }
def wX2_isFor_77 (Q : Int32 → St → Prop) (σ : St) : Prop := Q (1 : Int32) σ
def wX2_isFor_38 (Q : Int32 → St → Prop) (x1 : Int32) (xt0 : Int32) (σ : St) : Prop := ((xt0 = 0 → Q (0 : Int32) σ) ∧ (¬ (xt0 = 0) → vp_in x1 30 ∧ vp_in x1 30 ∧ (((gv σ 29 x1.toNatClampNeg) = (gv σ 30 x1.toNatClampNeg) → wX2_isFor_77 Q σ) ∧ (¬ ((gv σ 29 x1.toNatClampNeg) = (gv σ 30 x1.toNatClampNeg)) → vp_in x1 30 ∧ vp_in x1 30 ∧ wX2_valueOf (gv σ 29 x1.toNatClampNeg) (gv σ 30 x1.toNatClampNeg) σ (fun (r7 : Int32) (σ8 : St) => ((r7 = 0 → Q (0 : Int32) σ8) ∧ (¬ (r7 = 0) → wX2_isFor_77 Q σ8)))))))
def wX2_isFor_37 (Q : Int32 → St → Prop) (x1 : Int32) (σ : St) : Prop := wX2_isFor_38 Q x1 (0 : Int32) σ
def wX2_isFor_20 (Q : Int32 → St → Prop) (x1 : Int32) (σ : St) : Prop := vp_in x1 30 ∧ wX2_isInForce (gv σ 32 x1.toNatClampNeg) σ (fun (r2 : Int32) (σ3 : St) => ((r2 = 0 → wX2_isFor_37 Q x1 σ3) ∧ (¬ (r2 = 0) → wX2_isFor_38 Q x1 (1 : Int32) σ3)))
def wX2_isFor (x1 : Int32) (x2 : Int32) (σ : St) (Q : Int32 → St → Prop) : Prop := vp_in x1 30 ∧ (((gv σ 27 x1.toNatClampNeg) = (-1 : Int32) → wX2_isFor_20 Q x1 σ) ∧ (¬ ((gv σ 27 x1.toNatClampNeg) = (-1 : Int32)) → vp_in x1 30 ∧ (((gv σ 27 x1.toNatClampNeg) = x2 → wX2_isFor_20 Q x1 σ) ∧ (¬ ((gv σ 27 x1.toNatClampNeg) = x2) → wX2_isFor_37 Q x1 σ))))
set_option maxHeartbeats 4000000 in
set_option maxRecDepth 100000 in
theorem tX2_isFor_77 {p : Program} {l : Launch} {e : Env} {s : State} {m : MethodId} {args : Array Value} {below : List Frame} {meth : Method} {c : Code} {E : EE} {base : Nat} (C : Cx p E base s m args meth c cX2_isFor 4 RX2) (hr : meth.sig.returnType = (some .boolean)) {Q : Int32 → St → Prop} : ∀ (σ : St) (H : Heap) (locs : List Loc) (ls : Array Slot), lv_has ls 4 [] → GW E base s σ H locs → wX2_isFor_77 Q σ → W p l e rmX2_isFor s m args below meth c H locs 0 0 (MQ below (QI E base Q) args s 0 0 (fun q => base ≤ q)) (F0 m 77 ls []) := by
  intro σ H locs ls hl g h
  refine lv_iconst (v := 1) C.1 C.2.1 dX2_isFor_77 (by decide) ?_
  refine lv_goto (tgt := 82) C.1 C.2.1 dX2_isFor_78 (by decide) ?_
  exact gx_zret C hr g dX2_isFor_82 (by decide) h
set_option maxHeartbeats 4000000 in
set_option maxRecDepth 100000 in
theorem tX2_isFor_38 {p : Program} {l : Launch} {e : Env} {s : State} {m : MethodId} {args : Array Value} {below : List Frame} {meth : Method} {c : Code} {E : EE} {base : Nat} (C : Cx p E base s m args meth c cX2_isFor 4 RX2) (hr : meth.sig.returnType = (some .boolean)) {Q : Int32 → St → Prop} : ∀ (x1 : Int32) (xt0 : Int32) (σ : St) (H : Heap) (locs : List Loc) (ls : Array Slot), lv_has ls 4 [(0, .ref (ga E 8)), (1, .int x1)] → GW E base s σ H locs → wX2_isFor_38 Q x1 xt0 σ → W p l e rmX2_isFor s m args below meth c H locs 0 0 (MQ below (QI E base Q) args s 0 0 (fun q => base ≤ q)) (F0 m 38 ls [.int xt0]) := by
  intro x1 xt0 σ H locs ls hl g h
  refine lv_istore_n (lv' := [(3, .int xt0), (0, .ref (ga E 8)), (1, .int x1)]) C.1 C.2.1 dX2_isFor_38 rfl hl (by decide) rfl (fun ls hl => ?_)
  refine lv_iload_n C.1 C.2.1 dX2_isFor_39 rfl (lv_at hl 0 rfl) ?_
  refine lv_if_eq (tgt := 81) C.1 C.2.1 dX2_isFor_40 (by decide) (fun c1 => ?_) (fun c1 => ?_)
  · have h := h.1 c1
    refine lv_iconst (v := 0) C.1 C.2.1 dX2_isFor_81 (by decide) ?_
    exact gx_zret C hr g dX2_isFor_82 (by decide) h
  · have h := h.2 c1
    refine lv_aload_n C.1 C.2.1 dX2_isFor_43 rfl (lv_at hl 1 rfl) ?_
    refine gx_getR C g fl_X2_35 dX2_isFor_44 sh_8 rfl (by decide) ?_
    refine lv_iload_n C.1 C.2.1 dX2_isFor_47 rfl (lv_at hl 2 rfl) ?_
    obtain ⟨i2, h⟩ := h
    refine gx_iald C g dX2_isFor_48 sh_29 i2 ?_
    refine lv_aload_n C.1 C.2.1 dX2_isFor_49 rfl (lv_at hl 1 rfl) ?_
    refine gx_getR C g fl_X2_38 dX2_isFor_50 sh_8 rfl (by decide) ?_
    refine lv_iload_n C.1 C.2.1 dX2_isFor_53 rfl (lv_at hl 2 rfl) ?_
    obtain ⟨i3, h⟩ := h
    refine gx_iald C g dX2_isFor_54 sh_30 i3 ?_
    refine lv_icmp_eq (tgt := 77) C.1 C.2.1 dX2_isFor_55 (by decide) (fun c4 => ?_) (fun c4 => ?_)
    · have h := h.1 c4
      exact tX2_isFor_77 C hr _ _ _ _ (lv_sub hl [] rfl) g h
    · have h := h.2 c4
      refine lv_aload_n C.1 C.2.1 dX2_isFor_58 rfl (lv_at hl 1 rfl) ?_
      refine lv_aload_n C.1 C.2.1 dX2_isFor_59 rfl (lv_at hl 1 rfl) ?_
      refine gx_getR C g fl_X2_35 dX2_isFor_60 sh_8 rfl (by decide) ?_
      refine lv_iload_n C.1 C.2.1 dX2_isFor_63 rfl (lv_at hl 2 rfl) ?_
      obtain ⟨i5, h⟩ := h
      refine gx_iald C g dX2_isFor_64 sh_29 i5 ?_
      refine lv_aload_n C.1 C.2.1 dX2_isFor_65 rfl (lv_at hl 1 rfl) ?_
      refine gx_getR C g fl_X2_38 dX2_isFor_66 sh_8 rfl (by decide) ?_
      refine lv_iload_n C.1 C.2.1 dX2_isFor_69 rfl (lv_at hl 2 rfl) ?_
      obtain ⟨i6, h⟩ := h
      refine gx_iald C g dX2_isFor_70 sh_30 i6 ?_
      refine gx_calli0 g (gx_runV (k := 8) (rest := []) C g mb_X2_valueOf ml_X2_93 rfl sh_8 (mX2_valueOf (gv σ 29 x1.toNatClampNeg) (gv σ 30 x1.toNatClampNeg) _ _ h) ⟨Nat.le_of_ble_eq_true rfl, Nat.le_of_ble_eq_true rfl⟩ ⟨Nat.le_refl _, Nat.le_refl _⟩ rfl hl.1 rfl (Nat.le_of_ble_eq_true rfl) dX2_isFor_71) rfl rfl (fun r7 σ8 H locs h g => ?_)
      refine lv_if_eq (tgt := 81) C.1 C.2.1 dX2_isFor_74 (by decide) (fun c9 => ?_) (fun c9 => ?_)
      · have h := h.1 c9
        refine lv_iconst (v := 0) C.1 C.2.1 dX2_isFor_81 (by decide) ?_
        exact gx_zret C hr g dX2_isFor_82 (by decide) h
      · have h := h.2 c9
        exact tX2_isFor_77 C hr _ _ _ _ (lv_sub hl [] rfl) g h
set_option maxHeartbeats 4000000 in
set_option maxRecDepth 100000 in
theorem tX2_isFor_37 {p : Program} {l : Launch} {e : Env} {s : State} {m : MethodId} {args : Array Value} {below : List Frame} {meth : Method} {c : Code} {E : EE} {base : Nat} (C : Cx p E base s m args meth c cX2_isFor 4 RX2) (hr : meth.sig.returnType = (some .boolean)) {Q : Int32 → St → Prop} : ∀ (x1 : Int32) (σ : St) (H : Heap) (locs : List Loc) (ls : Array Slot), lv_has ls 4 [(0, .ref (ga E 8)), (1, .int x1)] → GW E base s σ H locs → wX2_isFor_37 Q x1 σ → W p l e rmX2_isFor s m args below meth c H locs 0 0 (MQ below (QI E base Q) args s 0 0 (fun q => base ≤ q)) (F0 m 37 ls []) := by
  intro x1 σ H locs ls hl g h
  refine lv_iconst (v := 0) C.1 C.2.1 dX2_isFor_37 (by decide) ?_
  exact tX2_isFor_38 C hr x1 (0 : Int32) _ _ _ _ (lv_sub hl [0, 1] rfl) g h
set_option maxHeartbeats 4000000 in
set_option maxRecDepth 100000 in
theorem tX2_isFor_20 {p : Program} {l : Launch} {e : Env} {s : State} {m : MethodId} {args : Array Value} {below : List Frame} {meth : Method} {c : Code} {E : EE} {base : Nat} (C : Cx p E base s m args meth c cX2_isFor 4 RX2) (hr : meth.sig.returnType = (some .boolean)) {Q : Int32 → St → Prop} : ∀ (x1 : Int32) (σ : St) (H : Heap) (locs : List Loc) (ls : Array Slot), lv_has ls 4 [(0, .ref (ga E 8)), (1, .int x1)] → GW E base s σ H locs → wX2_isFor_20 Q x1 σ → W p l e rmX2_isFor s m args below meth c H locs 0 0 (MQ below (QI E base Q) args s 0 0 (fun q => base ≤ q)) (F0 m 20 ls []) := by
  intro x1 σ H locs ls hl g h
  refine lv_aload_n C.1 C.2.1 dX2_isFor_20 rfl (lv_at hl 0 rfl) ?_
  refine lv_aload_n C.1 C.2.1 dX2_isFor_21 rfl (lv_at hl 0 rfl) ?_
  refine gx_getR C g fl_X2_44 dX2_isFor_22 sh_8 rfl (by decide) ?_
  refine lv_iload_n C.1 C.2.1 dX2_isFor_25 rfl (lv_at hl 1 rfl) ?_
  obtain ⟨i1, h⟩ := h
  refine gx_iald C g dX2_isFor_26 sh_32 i1 ?_
  refine gx_calli0 g (gx_runV (k := 8) (rest := []) C g mb_X2_isInForce ml_X2_126 rfl sh_8 (mX2_isInForce (gv σ 32 x1.toNatClampNeg) _ _ h) ⟨Nat.le_of_ble_eq_true rfl, Nat.le_of_ble_eq_true rfl⟩ ⟨Nat.le_refl _, Nat.le_refl _⟩ rfl hl.1 rfl (Nat.le_of_ble_eq_true rfl) dX2_isFor_27) rfl rfl (fun r2 σ3 H locs h g => ?_)
  refine lv_if_eq (tgt := 37) C.1 C.2.1 dX2_isFor_30 (by decide) (fun c4 => ?_) (fun c4 => ?_)
  · have h := h.1 c4
    exact tX2_isFor_37 C hr x1 _ _ _ _ (lv_sub hl [0, 1] rfl) g h
  · have h := h.2 c4
    refine lv_iconst (v := 1) C.1 C.2.1 dX2_isFor_33 (by decide) ?_
    refine lv_goto (tgt := 38) C.1 C.2.1 dX2_isFor_34 (by decide) ?_
    exact tX2_isFor_38 C hr x1 (1 : Int32) _ _ _ _ (lv_sub hl [0, 1] rfl) g h
set_option maxHeartbeats 4000000 in
set_option maxRecDepth 100000 in
theorem tX2_isFor_e {p : Program} {l : Launch} {e : Env} {s : State} {m : MethodId} {args : Array Value} {below : List Frame} {meth : Method} {c : Code} {E : EE} {base : Nat} (C : Cx p E base s m args meth c cX2_isFor 4 RX2) (hr : meth.sig.returnType = (some .boolean)) {Q : Int32 → St → Prop} : ∀ (x1 : Int32) (x2 : Int32) (σ : St) (H : Heap) (locs : List Loc) (ls : Array Slot), lv_has ls 4 [(0, .ref (ga E 8)), (1, .int x1), (2, .int x2)] → GW E base s σ H locs → wX2_isFor x1 x2 σ Q → W p l e rmX2_isFor s m args below meth c H locs 0 0 (MQ below (QI E base Q) args s 0 0 (fun q => base ≤ q)) (F0 m 0 ls []) := by
  intro x1 x2 σ H locs ls hl g h
  refine lv_aload_n C.1 C.2.1 dX2_isFor_0 rfl (lv_at hl 0 rfl) ?_
  refine gx_getR C g fl_X2_27 dX2_isFor_1 sh_8 rfl (by decide) ?_
  refine lv_iload_n C.1 C.2.1 dX2_isFor_4 rfl (lv_at hl 1 rfl) ?_
  obtain ⟨i1, h⟩ := h
  refine gx_iald C g dX2_isFor_5 sh_27 i1 ?_
  refine lv_iconst (v := -1) C.1 C.2.1 dX2_isFor_6 (by decide) ?_
  refine lv_icmp_eq (tgt := 20) C.1 C.2.1 dX2_isFor_7 (by decide) (fun c2 => ?_) (fun c2 => ?_)
  · have h := h.1 c2
    exact tX2_isFor_20 C hr x1 _ _ _ _ (lv_sub hl [0, 1] rfl) g h
  · have h := h.2 c2
    refine lv_aload_n C.1 C.2.1 dX2_isFor_10 rfl (lv_at hl 0 rfl) ?_
    refine gx_getR C g fl_X2_27 dX2_isFor_11 sh_8 rfl (by decide) ?_
    refine lv_iload_n C.1 C.2.1 dX2_isFor_14 rfl (lv_at hl 1 rfl) ?_
    obtain ⟨i3, h⟩ := h
    refine gx_iald C g dX2_isFor_15 sh_27 i3 ?_
    refine lv_iload_n C.1 C.2.1 dX2_isFor_16 rfl (lv_at hl 2 rfl) ?_
    refine lv_icmp_ne (tgt := 37) C.1 C.2.1 dX2_isFor_17 (by decide) (fun c4 => ?_) (fun c4 => ?_)
    · have h := h.2 c4
      exact tX2_isFor_37 C hr x1 _ _ _ _ (lv_sub hl [0, 1] rfl) g h
    · have h := h.1 c4
      exact tX2_isFor_20 C hr x1 _ _ _ _ (lv_sub hl [0, 1] rfl) g h
theorem mX2_isFor {l : Launch} {E : EE} {base : Nat} (x1 : Int32) (x2 : Int32) (σ : St) (Q : Int32 → St → Prop) (h : wX2_isFor x1 x2 σ Q) : Met l yX2_isFor (wy yX2_isFor cX2_isFor 4 (some .boolean)) rmX2_isFor (va_Pc [.ref (ga E 8), .int x1, .int x2] (fun U => SW E base σ U)) (QI E base Q) (rmX2_isFor).cells (rmX2_isFor).slots (fun q => base ≤ q) :=
  met_of (by decide) (Nat.le_of_ble_eq_true rfl) (fun p e s m args below meth c C hr g ls hl => tX2_isFor_e C hr x1 x2 _ _ _ _ hl g h)
abbrev rmX2_opened : Room := { frames := 3, cells := 0, slots := 0, locals := 70 }
def wX2_opened_88 (k1 : Nat) (Q : Int32 → St → Prop) (K25 : Int32 → Int32 → Int32 → St → Prop) (x2 : Int32) (x4 : Int32) (x5 : Int32) (σ : St) : Prop := ∀ x5_1 : Int32, x5_1 = x5 + 1 → K25 x2 x4 x5_1 σ
def wX2_opened_25 (k1 : Nat) (Q : Int32 → St → Prop) : Nat → Int32 → Int32 → Int32 → St → Prop
  | 0, _, _, _, _ => False
  | n + 1, x2, x4, x5, σ => (((gv σ 8 1) ≤ x5 → Q x4 σ) ∧ (¬ ((gv σ 8 1) ≤ x5) → vp_in x5 30 ∧ (((gv σ 28 x5.toNatClampNeg) = 0 → wX2_opened_88 k1 Q (fun x2' x4' x5' σ' => wX2_opened_25 k1 Q n x2' x4' x5' σ') x2 x4 x5 σ) ∧ (¬ ((gv σ 28 x5.toNatClampNeg) = 0) → wX2_isFor x5 x2 σ (fun (r4 : Int32) (σ5 : St) => ((r4 = 0 → wX2_opened_88 k1 Q (fun x2' x4' x5' σ' => wX2_opened_25 k1 Q n x2' x4' x5' σ') x2 x4 x5 σ5) ∧ (¬ (r4 = 0) → vp_in x5 30 ∧ vp_in x5 30 ∧ wX2_valueOf (gv σ5 31 x5.toNatClampNeg) (gv σ5 29 x5.toNatClampNeg) σ5 (fun (r9 : Int32) (σ10 : St) => vp_in x2 7 ∧ ∀ x4_12 : Int32, x4_12 = jmax x4 (jmin r9 (gv σ10 15 x2.toNatClampNeg)) → wX2_opened_88 k1 Q (fun x2' x4' x5' σ' => wX2_opened_25 k1 Q n x2' x4' x5' σ') x2 x4_12 x5 σ10))))))))
def wX2_opened_22 (k1 : Nat) (Q : Int32 → St → Prop) (x2 : Int32) (x4 : Int32) (σ : St) : Prop := ∃ j : Nat, wX2_opened_25 k1 Q j x2 x4 (0 : Int32) σ
def wX2_opened (k1 : Nat) (x2 : Int32) (σ : St) (Q : Int32 → St → Prop) : Prop := vp_in x2 7 ∧ ∀ x4_2 : Int32, x4_2 = gv σ (k1 + 2) x2.toNatClampNeg → (((gv σ 8 1) ≤ 0 → wX2_opened_22 k1 Q x2 x4_2 σ) ∧ (¬ ((gv σ 8 1) ≤ 0) → wX2_look k1 x2 σ (fun (σ5 : St) => wX2_opened_22 k1 Q x2 x4_2 σ5)))
set_option maxHeartbeats 4000000 in
set_option maxRecDepth 100000 in
theorem tX2_opened_88 {p : Program} {l : Launch} {e : Env} {s : State} {m : MethodId} {args : Array Value} {below : List Frame} {meth : Method} {c : Code} {E : EE} {base : Nat} (C : Cx p E base s m args meth c cX2_opened 6 RX2) (hr : meth.sig.returnType = (some .int)) {Q : Int32 → St → Prop} {k1 : Nat} (hk1 : Stg k1) {K25 : Int32 → Int32 → Int32 → St → Prop} (hK25 : ∀ (x2 : Int32) (x4 : Int32) (x5 : Int32) (σ : St) (H : Heap) (locs : List Loc) (ls : Array Slot), lv_has ls 6 [(0, .ref (ga E 8)), (2, .int x2), (3, .ref (ga E 2)), (4, .int x4), (5, .int x5)] → GW E base s σ H locs → K25 x2 x4 x5 σ → W p l e rmX2_opened s m args below meth c H locs 0 0 (MQ below (QI E base Q) args s 0 0 (fun q => base ≤ q)) (F0 m 25 ls [])) : ∀ (x2 : Int32) (x4 : Int32) (x5 : Int32) (σ : St) (H : Heap) (locs : List Loc) (ls : Array Slot), lv_has ls 6 [(0, .ref (ga E 8)), (2, .int x2), (3, .ref (ga E 2)), (4, .int x4), (5, .int x5)] → GW E base s σ H locs → wX2_opened_88 k1 Q K25 x2 x4 x5 σ → W p l e rmX2_opened s m args below meth c H locs 0 0 (MQ below (QI E base Q) args s 0 0 (fun q => base ≤ q)) (F0 m 88 ls []) := by
  intro x2 x4 x5 σ H locs ls hl g h
  obtain ⟨x5_1, ex5_1⟩ : ∃ y : Int32, y = x5 + 1 := ⟨_, rfl⟩
  have h := h x5_1 ex5_1
  refine lv_iinc (v := x5_1) (lv' := [(5, .int x5_1), (0, .ref (ga E 8)), (2, .int x2), (3, .ref (ga E 2)), (4, .int x4)]) C.1 C.2.1 dX2_opened_88 hl (k := 4) rfl (by rw [ex5_1]; rfl) (by decide) rfl (fun ls hl => ?_)
  refine lv_goto (tgt := 25) C.1 C.2.1 dX2_opened_91 (by decide) ?_
  exact hK25 x2 x4 x5_1 _ _ _ _ (lv_sub hl [1, 2, 3, 4, 0] rfl) g h
set_option maxHeartbeats 4000000 in
set_option maxRecDepth 100000 in
theorem tX2_opened_25 {p : Program} {l : Launch} {e : Env} {s : State} {m : MethodId} {args : Array Value} {below : List Frame} {meth : Method} {c : Code} {E : EE} {base : Nat} (C : Cx p E base s m args meth c cX2_opened 6 RX2) (hr : meth.sig.returnType = (some .int)) {Q : Int32 → St → Prop} {k1 : Nat} (hk1 : Stg k1) : ∀ (n : Nat) (x2 : Int32) (x4 : Int32) (x5 : Int32) (σ : St) (H : Heap) (locs : List Loc) (ls : Array Slot), lv_has ls 6 [(0, .ref (ga E 8)), (2, .int x2), (3, .ref (ga E 2)), (4, .int x4), (5, .int x5)] → GW E base s σ H locs → wX2_opened_25 k1 Q n x2 x4 x5 σ → W p l e rmX2_opened s m args below meth c H locs 0 0 (MQ below (QI E base Q) args s 0 0 (fun q => base ≤ q)) (F0 m 25 ls []) := by
  intro n
  induction n with
  | zero => intro _ _ _; intros; exact False.elim (by assumption)
  | succ n ih =>
    intro x2 x4 x5 σ H locs ls hl g h
    refine lv_iload C.1 C.2.1 dX2_opened_25 (lv_at hl 4 rfl) ?_
    refine lv_aload_n C.1 C.2.1 dX2_opened_27 rfl (lv_at hl 0 rfl) ?_
    refine gx_getI C g fl_X2_15 dX2_opened_28 sh_8 rfl ?_
    refine lv_icmp_ge (tgt := 94) C.1 C.2.1 dX2_opened_31 (by decide) (fun c1 => ?_) (fun c1 => ?_)
    · have h := h.1 c1
      refine lv_iload C.1 C.2.1 dX2_opened_94 (lv_at hl 3 rfl) ?_
      exact gx_iret C hr g dX2_opened_96 h
    · have h := h.2 c1
      refine lv_aload_n C.1 C.2.1 dX2_opened_34 rfl (lv_at hl 0 rfl) ?_
      refine gx_getR C g fl_X2_31 dX2_opened_35 sh_8 rfl (by decide) ?_
      refine lv_iload C.1 C.2.1 dX2_opened_38 (lv_at hl 4 rfl) ?_
      obtain ⟨i2, h⟩ := h
      refine gx_zald C g dX2_opened_40 sh_28 i2 ?_
      refine lv_if_eq (tgt := 88) C.1 C.2.1 dX2_opened_41 (by decide) (fun c3 => ?_) (fun c3 => ?_)
      · have h := h.1 c3
        exact tX2_opened_88 C hr hk1 ih x2 x4 x5 _ _ _ _ (lv_sub hl [0, 1, 2, 3, 4] rfl) g h
      · have h := h.2 c3
        refine lv_aload_n C.1 C.2.1 dX2_opened_44 rfl (lv_at hl 0 rfl) ?_
        refine lv_iload C.1 C.2.1 dX2_opened_45 (lv_at hl 4 rfl) ?_
        refine lv_iload_n C.1 C.2.1 dX2_opened_47 rfl (lv_at hl 1 rfl) ?_
        refine gx_calli0 g (gx_runV (k := 8) (rest := []) C g mb_X2_isFor ml_X2_89 rfl sh_8 (mX2_isFor x5 x2 _ _ h) ⟨Nat.le_of_ble_eq_true rfl, Nat.le_of_ble_eq_true rfl⟩ ⟨Nat.le_refl _, Nat.le_refl _⟩ rfl hl.1 rfl (Nat.le_of_ble_eq_true rfl) dX2_opened_48) rfl rfl (fun r4 σ5 H locs h g => ?_)
        refine lv_if_eq (tgt := 88) C.1 C.2.1 dX2_opened_51 (by decide) (fun c6 => ?_) (fun c6 => ?_)
        · have h := h.1 c6
          exact tX2_opened_88 C hr hk1 ih x2 x4 x5 _ _ _ _ (lv_sub hl [0, 1, 2, 3, 4] rfl) g h
        · have h := h.2 c6
          refine lv_iload C.1 C.2.1 dX2_opened_54 (lv_at hl 3 rfl) ?_
          refine lv_aload_n C.1 C.2.1 dX2_opened_56 rfl (lv_at hl 0 rfl) ?_
          refine lv_aload_n C.1 C.2.1 dX2_opened_57 rfl (lv_at hl 0 rfl) ?_
          refine gx_getR C g fl_X2_41 dX2_opened_58 sh_8 rfl (by decide) ?_
          refine lv_iload C.1 C.2.1 dX2_opened_61 (lv_at hl 4 rfl) ?_
          obtain ⟨i7, h⟩ := h
          refine gx_iald C g dX2_opened_63 sh_31 i7 ?_
          refine lv_aload_n C.1 C.2.1 dX2_opened_64 rfl (lv_at hl 0 rfl) ?_
          refine gx_getR C g fl_X2_35 dX2_opened_65 sh_8 rfl (by decide) ?_
          refine lv_iload C.1 C.2.1 dX2_opened_68 (lv_at hl 4 rfl) ?_
          obtain ⟨i8, h⟩ := h
          refine gx_iald C g dX2_opened_70 sh_29 i8 ?_
          refine gx_calli0 g (gx_runV (k := 8) (rest := [.int x4]) C g mb_X2_valueOf ml_X2_93 rfl sh_8 (mX2_valueOf (gv σ5 31 x5.toNatClampNeg) (gv σ5 29 x5.toNatClampNeg) _ _ h) ⟨Nat.le_of_ble_eq_true rfl, Nat.le_of_ble_eq_true rfl⟩ ⟨Nat.le_refl _, Nat.le_refl _⟩ rfl hl.1 rfl (Nat.le_of_ble_eq_true rfl) dX2_opened_71) rfl rfl (fun r9 σ10 H locs h g => ?_)
          refine lv_aload_n C.1 C.2.1 dX2_opened_74 rfl (lv_at hl 2 rfl) ?_
          refine gx_getR C g fl_X2_97 dX2_opened_75 sh_2 rfl (by decide) ?_
          refine lv_iload_n C.1 C.2.1 dX2_opened_78 rfl (lv_at hl 1 rfl) ?_
          obtain ⟨i11, h⟩ := h
          refine gx_iald C g dX2_opened_79 sh_15 i11 ?_
          refine gx_min (rest := [.int x4]) C ml_X2_102 hl.1 (Nat.le_of_ble_eq_true rfl) (Nat.le_of_ble_eq_true rfl) (Nat.le_refl _) (Nat.le_refl _) dX2_opened_80 ?_
          refine gx_max (rest := []) C ml_X2_107 hl.1 (Nat.le_of_ble_eq_true rfl) (Nat.le_of_ble_eq_true rfl) (Nat.le_refl _) (Nat.le_refl _) dX2_opened_83 ?_
          refine lv_topi (fun x4_12 ex4_12 => ?_)
          have h := h x4_12 ex4_12
          refine lv_istore (lv' := [(4, .int x4_12), (0, .ref (ga E 8)), (2, .int x2), (3, .ref (ga E 2)), (5, .int x5)]) C.1 C.2.1 dX2_opened_86 hl (by decide) rfl (fun ls hl => ?_)
          exact tX2_opened_88 C hr hk1 ih x2 x4_12 x5 _ _ _ _ (lv_sub hl [1, 2, 3, 0, 4] rfl) g h
set_option maxHeartbeats 4000000 in
set_option maxRecDepth 100000 in
theorem tX2_opened_22 {p : Program} {l : Launch} {e : Env} {s : State} {m : MethodId} {args : Array Value} {below : List Frame} {meth : Method} {c : Code} {E : EE} {base : Nat} (C : Cx p E base s m args meth c cX2_opened 6 RX2) (hr : meth.sig.returnType = (some .int)) {Q : Int32 → St → Prop} {k1 : Nat} (hk1 : Stg k1) : ∀ (x2 : Int32) (x4 : Int32) (σ : St) (H : Heap) (locs : List Loc) (ls : Array Slot), lv_has ls 6 [(0, .ref (ga E 8)), (2, .int x2), (3, .ref (ga E 2)), (4, .int x4)] → GW E base s σ H locs → wX2_opened_22 k1 Q x2 x4 σ → W p l e rmX2_opened s m args below meth c H locs 0 0 (MQ below (QI E base Q) args s 0 0 (fun q => base ≤ q)) (F0 m 22 ls []) := by
  intro x2 x4 σ H locs ls hl g h
  refine lv_iconst (v := 0) C.1 C.2.1 dX2_opened_22 (by decide) ?_
  refine lv_istore (lv' := [(5, .int (0 : Int32)), (0, .ref (ga E 8)), (2, .int x2), (3, .ref (ga E 2)), (4, .int x4)]) C.1 C.2.1 dX2_opened_23 hl (by decide) rfl (fun ls hl => ?_)
  obtain ⟨j, h⟩ := h
  exact tX2_opened_25 C hr hk1 j x2 x4 (0 : Int32) _ _ _ _ (lv_sub hl [1, 2, 3, 4, 0] rfl) g h
set_option maxHeartbeats 4000000 in
set_option maxRecDepth 100000 in
theorem tX2_opened_e {p : Program} {l : Launch} {e : Env} {s : State} {m : MethodId} {args : Array Value} {below : List Frame} {meth : Method} {c : Code} {E : EE} {base : Nat} (C : Cx p E base s m args meth c cX2_opened 6 RX2) (hr : meth.sig.returnType = (some .int)) {Q : Int32 → St → Prop} {k1 : Nat} (hk1 : Stg k1) : ∀ (x2 : Int32) (σ : St) (H : Heap) (locs : List Loc) (ls : Array Slot), lv_has ls 6 [(0, .ref (ga E 8)), (1, .ref (ga E k1)), (2, .int x2), (3, .ref (ga E 2))] → GW E base s σ H locs → wX2_opened k1 x2 σ Q → W p l e rmX2_opened s m args below meth c H locs 0 0 (MQ below (QI E base Q) args s 0 0 (fun q => base ≤ q)) (F0 m 0 ls []) := by
  intro x2 σ H locs ls hl g h
  refine lv_aload_n C.1 C.2.1 dX2_opened_0 rfl (lv_at hl 1 rfl) ?_
  refine gx_getR C g fl_X2_80 dX2_opened_1 (stg_obj hk1) rfl (stg_ne hk1 2) ?_
  refine lv_iload_n C.1 C.2.1 dX2_opened_4 rfl (lv_at hl 2 rfl) ?_
  obtain ⟨i1, h⟩ := h
  refine gx_iald C g dX2_opened_5 (stg_arr hk1 2 (by decide) (by decide)) i1 ?_
  refine lv_topi (fun x4_2 ex4_2 => ?_)
  have h := h x4_2 ex4_2
  refine lv_istore (lv' := [(4, .int x4_2), (0, .ref (ga E 8)), (1, .ref (ga E k1)), (2, .int x2), (3, .ref (ga E 2))]) C.1 C.2.1 dX2_opened_6 hl (by decide) rfl (fun ls hl => ?_)
  refine lv_aload_n C.1 C.2.1 dX2_opened_8 rfl (lv_at hl 1 rfl) ?_
  refine gx_getI C g fl_X2_15 dX2_opened_9 sh_8 rfl ?_
  refine lv_if_le (tgt := 22) C.1 C.2.1 dX2_opened_12 (by decide) (fun c3 => ?_) (fun c3 => ?_)
  · have h := h.1 c3
    exact tX2_opened_22 C hr hk1 x2 x4_2 _ _ _ _ (lv_sub hl [1, 3, 4, 0] rfl) g h
  · have h := h.2 c3
    refine lv_aload_n C.1 C.2.1 dX2_opened_15 rfl (lv_at hl 1 rfl) ?_
    refine lv_aload_n C.1 C.2.1 dX2_opened_16 rfl (lv_at hl 2 rfl) ?_
    refine lv_iload_n C.1 C.2.1 dX2_opened_17 rfl (lv_at hl 3 rfl) ?_
    refine lv_aload_n C.1 C.2.1 dX2_opened_18 rfl (lv_at hl 4 rfl) ?_
    refine gx_callv0 g (gx_runV (k := 8) (rest := []) C g mb_X2_look ml_X2_85 rfl sh_8 (mX2_look k1 x2 hk1 _ _ h) ⟨Nat.le_of_ble_eq_true rfl, Nat.le_of_ble_eq_true rfl⟩ ⟨Nat.le_refl _, Nat.le_refl _⟩ rfl hl.1 rfl (Nat.le_of_ble_eq_true rfl) dX2_opened_19) rfl rfl (fun σ5 H locs h g => ?_)
    exact tX2_opened_22 C hr hk1 x2 x4_2 _ _ _ _ (lv_sub hl [1, 3, 4, 0] rfl) g h
theorem mX2_opened {l : Launch} {E : EE} {base : Nat} (k1 : Nat) (x2 : Int32) (hk1 : Stg k1) (σ : St) (Q : Int32 → St → Prop) (h : wX2_opened k1 x2 σ Q) : Met l yX2_opened (wy yX2_opened cX2_opened 6 (some .int)) rmX2_opened (va_Pc [.ref (ga E 8), .ref (ga E k1), .int x2, .ref (ga E 2)] (fun U => SW E base σ U)) (QI E base Q) (rmX2_opened).cells (rmX2_opened).slots (fun q => base ≤ q) :=
  met_of (by decide) (Nat.le_of_ble_eq_true rfl) (fun p e s m args below meth c C hr g ls hl => tX2_opened_e C hr hk1 x2 _ _ _ _ hl g h)
abbrev rmX2_seeOutcome : Room := { frames := 0, cells := 0, slots := 0, locals := 0 }
def wX2_seeOutcome (k1 : Nat) (x2 : Int32) (σ : St) (Q : St → Prop) : Prop := vp_in x2 7 ∧ vp_in (7 : Int32) 12 ∧ ∀ σ3 : St, σ3 = pv σ 37 (7 : Int32).toNatClampNeg (gv σ (k1 + 6) x2.toNatClampNeg) → vp_in x2 7 ∧ vp_in (10 : Int32) 12 ∧ ∀ σ6 : St, σ6 = pv σ3 37 (10 : Int32).toNatClampNeg (gv σ3 (k1 + 9) x2.toNatClampNeg) → vp_in x2 7 ∧ vp_in (11 : Int32) 12 ∧ ∀ σ9 : St, σ9 = pv σ6 37 (11 : Int32).toNatClampNeg (gv σ6 (k1 + 12) x2.toNatClampNeg) → Q σ9
set_option maxHeartbeats 4000000 in
set_option maxRecDepth 100000 in
theorem tX2_seeOutcome_e {p : Program} {l : Launch} {e : Env} {s : State} {m : MethodId} {args : Array Value} {below : List Frame} {meth : Method} {c : Code} {E : EE} {base : Nat} (C : Cx p E base s m args meth c cX2_seeOutcome 3 RX2) (hr : meth.sig.returnType = none) {Q : St → Prop} {k1 : Nat} (hk1 : Stg k1) : ∀ (x2 : Int32) (σ : St) (H : Heap) (locs : List Loc) (ls : Array Slot), lv_has ls 3 [(0, .ref (ga E 8)), (1, .ref (ga E k1)), (2, .int x2)] → GW E base s σ H locs → wX2_seeOutcome k1 x2 σ Q → W p l e rmX2_seeOutcome s m args below meth c H locs 0 0 (MQ below (QV E base Q) args s 0 0 (fun q => base ≤ q)) (F0 m 0 ls []) := by
  intro x2 σ H locs ls hl g h
  refine lv_aload_n C.1 C.2.1 dX2_seeOutcome_0 rfl (lv_at hl 0 rfl) ?_
  refine gx_getR C g fl_X2_65 dX2_seeOutcome_1 sh_8 rfl (by decide) ?_
  refine lv_bipush (v := 7) C.1 C.2.1 dX2_seeOutcome_4 (by decide) ?_
  refine lv_aload_n C.1 C.2.1 dX2_seeOutcome_6 rfl (lv_at hl 1 rfl) ?_
  refine gx_getR C g fl_X2_113 dX2_seeOutcome_7 (stg_obj hk1) rfl (stg_ne hk1 1) ?_
  refine lv_iconst (v := 3) C.1 C.2.1 dX2_seeOutcome_10 (by decide) ?_
  refine gx_aald (r := (k1 + 6)) C g dX2_seeOutcome_11 (stg_row hk1) (Or.inr rfl) vi_3 rfl (stg_ne hk1 6) ?_
  refine lv_iload_n C.1 C.2.1 dX2_seeOutcome_12 rfl (lv_at hl 2 rfl) ?_
  obtain ⟨i1, h⟩ := h
  refine gx_iald C g dX2_seeOutcome_13 (stg_arr hk1 6 (by decide) (by decide)) i1 ?_
  obtain ⟨i2, h⟩ := h
  refine gx_iast C g dX2_seeOutcome_14 sh_37 i2 (fun H locs σ3 eσ3 g => ?_)
  have h := h σ3 eσ3
  refine lv_aload_n C.1 C.2.1 dX2_seeOutcome_15 rfl (lv_at hl 0 rfl) ?_
  refine gx_getR C g fl_X2_65 dX2_seeOutcome_16 sh_8 rfl (by decide) ?_
  refine lv_bipush (v := 10) C.1 C.2.1 dX2_seeOutcome_19 (by decide) ?_
  refine lv_aload_n C.1 C.2.1 dX2_seeOutcome_21 rfl (lv_at hl 1 rfl) ?_
  refine gx_getR C g fl_X2_113 dX2_seeOutcome_22 (stg_obj hk1) rfl (stg_ne hk1 1) ?_
  refine lv_bipush (v := 6) C.1 C.2.1 dX2_seeOutcome_25 (by decide) ?_
  refine gx_aald (r := (k1 + 9)) C g dX2_seeOutcome_27 (stg_row hk1) (Or.inr rfl) vi_6 rfl (stg_ne hk1 9) ?_
  refine lv_iload_n C.1 C.2.1 dX2_seeOutcome_28 rfl (lv_at hl 2 rfl) ?_
  obtain ⟨i4, h⟩ := h
  refine gx_iald C g dX2_seeOutcome_29 (stg_arr hk1 9 (by decide) (by decide)) i4 ?_
  obtain ⟨i5, h⟩ := h
  refine gx_iast C g dX2_seeOutcome_30 sh_37 i5 (fun H locs σ6 eσ6 g => ?_)
  have h := h σ6 eσ6
  refine lv_aload_n C.1 C.2.1 dX2_seeOutcome_31 rfl (lv_at hl 0 rfl) ?_
  refine gx_getR C g fl_X2_65 dX2_seeOutcome_32 sh_8 rfl (by decide) ?_
  refine lv_bipush (v := 11) C.1 C.2.1 dX2_seeOutcome_35 (by decide) ?_
  refine lv_aload_n C.1 C.2.1 dX2_seeOutcome_37 rfl (lv_at hl 1 rfl) ?_
  refine gx_getR C g fl_X2_113 dX2_seeOutcome_38 (stg_obj hk1) rfl (stg_ne hk1 1) ?_
  refine lv_bipush (v := 9) C.1 C.2.1 dX2_seeOutcome_41 (by decide) ?_
  refine gx_aald (r := (k1 + 12)) C g dX2_seeOutcome_43 (stg_row hk1) (Or.inr rfl) vi_9 rfl (stg_ne hk1 12) ?_
  refine lv_iload_n C.1 C.2.1 dX2_seeOutcome_44 rfl (lv_at hl 2 rfl) ?_
  obtain ⟨i7, h⟩ := h
  refine gx_iald C g dX2_seeOutcome_45 (stg_arr hk1 12 (by decide) (by decide)) i7 ?_
  obtain ⟨i8, h⟩ := h
  refine gx_iast C g dX2_seeOutcome_46 sh_37 i8 (fun H locs σ9 eσ9 g => ?_)
  have h := h σ9 eσ9
  exact gx_vret C hr g dX2_seeOutcome_47 h
theorem mX2_seeOutcome {l : Launch} {E : EE} {base : Nat} (k1 : Nat) (x2 : Int32) (hk1 : Stg k1) (σ : St) (Q : St → Prop) (h : wX2_seeOutcome k1 x2 σ Q) : Met l yX2_seeOutcome (wy yX2_seeOutcome cX2_seeOutcome 3 none) rmX2_seeOutcome (va_Pc [.ref (ga E 8), .ref (ga E k1), .int x2] (fun U => SW E base σ U)) (QV E base Q) (rmX2_seeOutcome).cells (rmX2_seeOutcome).slots (fun q => base ≤ q) :=
  met_of (by decide) (Nat.le_of_ble_eq_true rfl) (fun p e s m args below meth c C hr g ls hl => tX2_seeOutcome_e C hr hk1 x2 _ _ _ _ hl g h)
abbrev rmX2_isBroken : Room := { frames := 3, cells := 0, slots := 0, locals := 70 }
def wX2_isBroken (x1 : Int32) (x2 : Int32) (σ : St) (Q : Int32 → St → Prop) : Prop := vp_in x1 30 ∧ (((gv σ 28 x1.toNatClampNeg) = 0 → wX2_isFor x1 x2 σ (fun (r3 : Int32) (σ4 : St) => ((r3 = 0 → Q (0 : Int32) σ4) ∧ (¬ (r3 = 0) → vp_in x1 30 ∧ vp_in x1 30 ∧ wX2_valueOf (gv σ4 31 x1.toNatClampNeg) (gv σ4 29 x1.toNatClampNeg) σ4 (fun (r8 : Int32) (σ9 : St) => ((r8 = 0 → Q (1 : Int32) σ9) ∧ (¬ (r8 = 0) → Q (0 : Int32) σ9))))))) ∧ (¬ ((gv σ 28 x1.toNatClampNeg) = 0) → Q (0 : Int32) σ))
set_option maxHeartbeats 4000000 in
set_option maxRecDepth 100000 in
theorem tX2_isBroken_e {p : Program} {l : Launch} {e : Env} {s : State} {m : MethodId} {args : Array Value} {below : List Frame} {meth : Method} {c : Code} {E : EE} {base : Nat} (C : Cx p E base s m args meth c cX2_isBroken 3 RX2) (hr : meth.sig.returnType = (some .boolean)) {Q : Int32 → St → Prop} : ∀ (x1 : Int32) (x2 : Int32) (σ : St) (H : Heap) (locs : List Loc) (ls : Array Slot), lv_has ls 3 [(0, .ref (ga E 8)), (1, .int x1), (2, .int x2)] → GW E base s σ H locs → wX2_isBroken x1 x2 σ Q → W p l e rmX2_isBroken s m args below meth c H locs 0 0 (MQ below (QI E base Q) args s 0 0 (fun q => base ≤ q)) (F0 m 0 ls []) := by
  intro x1 x2 σ H locs ls hl g h
  refine lv_aload_n C.1 C.2.1 dX2_isBroken_0 rfl (lv_at hl 0 rfl) ?_
  refine gx_getR C g fl_X2_31 dX2_isBroken_1 sh_8 rfl (by decide) ?_
  refine lv_iload_n C.1 C.2.1 dX2_isBroken_4 rfl (lv_at hl 1 rfl) ?_
  obtain ⟨i1, h⟩ := h
  refine gx_zald C g dX2_isBroken_5 sh_28 i1 ?_
  refine lv_if_ne (tgt := 41) C.1 C.2.1 dX2_isBroken_6 (by decide) (fun c2 => ?_) (fun c2 => ?_)
  · have h := h.2 c2
    refine lv_iconst (v := 0) C.1 C.2.1 dX2_isBroken_41 (by decide) ?_
    exact gx_zret C hr g dX2_isBroken_42 (by decide) h
  · have h := h.1 c2
    refine lv_aload_n C.1 C.2.1 dX2_isBroken_9 rfl (lv_at hl 0 rfl) ?_
    refine lv_iload_n C.1 C.2.1 dX2_isBroken_10 rfl (lv_at hl 1 rfl) ?_
    refine lv_iload_n C.1 C.2.1 dX2_isBroken_11 rfl (lv_at hl 2 rfl) ?_
    refine gx_calli0 g (gx_runV (k := 8) (rest := []) C g mb_X2_isFor ml_X2_89 rfl sh_8 (mX2_isFor x1 x2 _ _ h) ⟨Nat.le_of_ble_eq_true rfl, Nat.le_of_ble_eq_true rfl⟩ ⟨Nat.le_refl _, Nat.le_refl _⟩ rfl hl.1 rfl (Nat.le_of_ble_eq_true rfl) dX2_isBroken_12) rfl rfl (fun r3 σ4 H locs h g => ?_)
    refine lv_if_eq (tgt := 41) C.1 C.2.1 dX2_isBroken_15 (by decide) (fun c5 => ?_) (fun c5 => ?_)
    · have h := h.1 c5
      refine lv_iconst (v := 0) C.1 C.2.1 dX2_isBroken_41 (by decide) ?_
      exact gx_zret C hr g dX2_isBroken_42 (by decide) h
    · have h := h.2 c5
      refine lv_aload_n C.1 C.2.1 dX2_isBroken_18 rfl (lv_at hl 0 rfl) ?_
      refine lv_aload_n C.1 C.2.1 dX2_isBroken_19 rfl (lv_at hl 0 rfl) ?_
      refine gx_getR C g fl_X2_41 dX2_isBroken_20 sh_8 rfl (by decide) ?_
      refine lv_iload_n C.1 C.2.1 dX2_isBroken_23 rfl (lv_at hl 1 rfl) ?_
      obtain ⟨i6, h⟩ := h
      refine gx_iald C g dX2_isBroken_24 sh_31 i6 ?_
      refine lv_aload_n C.1 C.2.1 dX2_isBroken_25 rfl (lv_at hl 0 rfl) ?_
      refine gx_getR C g fl_X2_35 dX2_isBroken_26 sh_8 rfl (by decide) ?_
      refine lv_iload_n C.1 C.2.1 dX2_isBroken_29 rfl (lv_at hl 1 rfl) ?_
      obtain ⟨i7, h⟩ := h
      refine gx_iald C g dX2_isBroken_30 sh_29 i7 ?_
      refine gx_calli0 g (gx_runV (k := 8) (rest := []) C g mb_X2_valueOf ml_X2_93 rfl sh_8 (mX2_valueOf (gv σ4 31 x1.toNatClampNeg) (gv σ4 29 x1.toNatClampNeg) _ _ h) ⟨Nat.le_of_ble_eq_true rfl, Nat.le_of_ble_eq_true rfl⟩ ⟨Nat.le_refl _, Nat.le_refl _⟩ rfl hl.1 rfl (Nat.le_of_ble_eq_true rfl) dX2_isBroken_31) rfl rfl (fun r8 σ9 H locs h g => ?_)
      refine lv_if_ne (tgt := 41) C.1 C.2.1 dX2_isBroken_34 (by decide) (fun c10 => ?_) (fun c10 => ?_)
      · have h := h.2 c10
        refine lv_iconst (v := 0) C.1 C.2.1 dX2_isBroken_41 (by decide) ?_
        exact gx_zret C hr g dX2_isBroken_42 (by decide) h
      · have h := h.1 c10
        refine lv_iconst (v := 1) C.1 C.2.1 dX2_isBroken_37 (by decide) ?_
        refine lv_goto (tgt := 42) C.1 C.2.1 dX2_isBroken_38 (by decide) ?_
        exact gx_zret C hr g dX2_isBroken_42 (by decide) h
theorem mX2_isBroken {l : Launch} {E : EE} {base : Nat} (x1 : Int32) (x2 : Int32) (σ : St) (Q : Int32 → St → Prop) (h : wX2_isBroken x1 x2 σ Q) : Met l yX2_isBroken (wy yX2_isBroken cX2_isBroken 3 (some .boolean)) rmX2_isBroken (va_Pc [.ref (ga E 8), .int x1, .int x2] (fun U => SW E base σ U)) (QI E base Q) (rmX2_isBroken).cells (rmX2_isBroken).slots (fun q => base ≤ q) :=
  met_of (by decide) (Nat.le_of_ble_eq_true rfl) (fun p e s m args below meth c C hr g ls hl => tX2_isBroken_e C hr x1 x2 _ _ _ _ hl g h)
