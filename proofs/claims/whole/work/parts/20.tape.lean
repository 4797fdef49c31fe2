abbrev rmX8_append : Room := { frames := 0, cells := 0, slots := 0, locals := 0 }
def wX8_append_3 (Q : St → Prop) : Nat → Int32 → Int32 → St → Prop
  | 0, _, _, _ => False
  | n + 1, x1, x2, σ => ((x2 < 0 → Q σ) ∧ (¬ (x2 < 0) → (((2000 : Int32) ≤ (gv σ 6 0) → Q σ) ∧ (¬ ((2000 : Int32) ≤ (gv σ 6 0)) → vp_in (gv σ 6 0) 2000 ∧ ∀ σ4 : St, σ4 = pv σ 24 (gv σ 6 0).toNatClampNeg (vp_nar .byte ((x1 >>> (x2 &&& 31)).toInt8.toInt32)) → ∀ σ5 : St, σ5 = pv σ4 6 0 ((gv σ4 6 0) + (1 : Int32)) → ∀ x2_6 : Int32, x2_6 = x2 + (-8) → wX8_append_3 Q n x1 x2_6 σ5))))
def wX8_append (x1 : Int32) (σ : St) (Q : St → Prop) : Prop := ∃ j : Nat, wX8_append_3 Q j x1 (24 : Int32) σ
set_option maxHeartbeats 4000000 in
set_option maxRecDepth 100000 in
theorem tX8_append_3 {p : Program} {l : Launch} {e : Env} {s : State} {m : MethodId} {args : Array Value} {below : List Frame} {meth : Method} {c : Code} {E : EE} {base : Nat} (C : Cx p E base s m args meth c cX8_append 3 RX8) (hr : meth.sig.returnType = none) {Q : St → Prop} : ∀ (n : Nat) (x1 : Int32) (x2 : Int32) (σ : St) (H : Heap) (locs : List Loc) (ls : Array Slot), lv_has ls 3 [(0, .ref (ga E 6)), (1, .int x1), (2, .int x2)] → GW E base s σ H locs → wX8_append_3 Q n x1 x2 σ → W p l e rmX8_append s m args below meth c H locs 0 0 (MQ below (QV E base Q) args s 0 0 (fun q => base ≤ q)) (F0 m 3 ls []) := by
  intro n
  induction n with
  | zero => intro _ _; intros; exact False.elim (by assumption)
  | succ n ih =>
    intro x1 x2 σ H locs ls hl g h
    refine lv_iload_n C.1 C.2.1 dX8_append_3 rfl (lv_at hl 2 rfl) ?_
    refine lv_if_lt (tgt := 46) C.1 C.2.1 dX8_append_4 (by decide) (fun c1 => ?_) (fun c1 => ?_)
    · have h := h.1 c1
      exact gx_vret C hr g dX8_append_46 h
    · have h := h.2 c1
      refine lv_aload_n C.1 C.2.1 dX8_append_7 rfl (lv_at hl 0 rfl) ?_
      refine gx_getI C g fl_X8_7 dX8_append_8 sh_6 rfl ?_
      refine lv_sipush (v := 2000) C.1 C.2.1 dX8_append_11 (by decide) ?_
      refine lv_icmp_ge (tgt := 46) C.1 C.2.1 dX8_append_14 (by decide) (fun c2 => ?_) (fun c2 => ?_)
      · have h := h.1 c2
        exact gx_vret C hr g dX8_append_46 h
      · have h := h.2 c2
        refine lv_aload_n C.1 C.2.1 dX8_append_17 rfl (lv_at hl 0 rfl) ?_
        refine gx_getR C g fl_X8_13 dX8_append_18 sh_6 rfl (by decide) ?_
        refine lv_aload_n C.1 C.2.1 dX8_append_21 rfl (lv_at hl 0 rfl) ?_
        refine gx_getI C g fl_X8_7 dX8_append_22 sh_6 rfl ?_
        refine lv_iload_n C.1 C.2.1 dX8_append_25 rfl (lv_at hl 1 rfl) ?_
        refine lv_iload_n C.1 C.2.1 dX8_append_26 rfl (lv_at hl 2 rfl) ?_
        refine lv_ishr C.1 C.2.1 dX8_append_27 ?_
        refine lv_i2b C.1 C.2.1 dX8_append_28 rfl ?_
        obtain ⟨i3, h⟩ := h
        refine gx_bast C g dX8_append_29 sh_24 i3 (fun H locs σ4 eσ4 g => ?_)
        have h := h σ4 eσ4
        refine lv_aload_n C.1 C.2.1 dX8_append_30 rfl (lv_at hl 0 rfl) ?_
        refine lv_dup C.1 C.2.1 dX8_append_31 rfl ?_
        refine gx_getI C g fl_X8_7 dX8_append_32 sh_6 rfl ?_
        refine lv_iconst (v := 1) C.1 C.2.1 dX8_append_35 (by decide) ?_
        refine lv_iadd C.1 C.2.1 dX8_append_36 ?_
        refine gx_putI C g fi_X8_7 dX8_append_37 sh_6 rfl (fun H locs σ5 eσ5 g => ?_)
        have h := h σ5 eσ5
        obtain ⟨x2_6, ex2_6⟩ : ∃ y : Int32, y = x2 + (-8) := ⟨_, rfl⟩
        have h := h x2_6 ex2_6
        refine lv_iinc (v := x2_6) (lv' := [(2, .int x2_6), (0, .ref (ga E 6)), (1, .int x1)]) C.1 C.2.1 dX8_append_40 hl (k := 2) rfl (by rw [ex2_6]; rfl) (by decide) rfl (fun ls hl => ?_)
        refine lv_goto (tgt := 3) C.1 C.2.1 dX8_append_43 (by decide) ?_
        exact ih x1 x2_6 _ _ _ _ (lv_sub hl [1, 2, 0] rfl) g h
set_option maxHeartbeats 4000000 in
set_option maxRecDepth 100000 in
theorem tX8_append_e {p : Program} {l : Launch} {e : Env} {s : State} {m : MethodId} {args : Array Value} {below : List Frame} {meth : Method} {c : Code} {E : EE} {base : Nat} (C : Cx p E base s m args meth c cX8_append 3 RX8) (hr : meth.sig.returnType = none) {Q : St → Prop} : ∀ (x1 : Int32) (σ : St) (H : Heap) (locs : List Loc) (ls : Array Slot), lv_has ls 3 [(0, .ref (ga E 6)), (1, .int x1)] → GW E base s σ H locs → wX8_append x1 σ Q → W p l e rmX8_append s m args below meth c H locs 0 0 (MQ below (QV E base Q) args s 0 0 (fun q => base ≤ q)) (F0 m 0 ls []) := by
  intro x1 σ H locs ls hl g h
  refine lv_bipush (v := 24) C.1 C.2.1 dX8_append_0 (by decide) ?_
  refine lv_istore_n (lv' := [(2, .int (24 : Int32)), (0, .ref (ga E 6)), (1, .int x1)]) C.1 C.2.1 dX8_append_2 rfl hl (by decide) rfl (fun ls hl => ?_)
  obtain ⟨j, h⟩ := h
  exact tX8_append_3 C hr j x1 (24 : Int32) _ _ _ _ (lv_sub hl [1, 2, 0] rfl) g h
theorem mX8_append {l : Launch} {E : EE} {base : Nat} (x1 : Int32) (σ : St) (Q : St → Prop) (h : wX8_append x1 σ Q) : Met l yX8_append (wy yX8_append cX8_append 3 none) rmX8_append (va_Pc [.ref (ga E 6), .int x1] (fun U => SW E base σ U)) (QV E base Q) (rmX8_append).cells (rmX8_append).slots (fun q => base ≤ q) :=
  met_of (by decide) (Nat.le_of_ble_eq_true rfl) (fun p e s m args below meth c C hr g ls hl => tX8_append_e C hr x1 _ _ _ _ hl g h)
abbrev rmX8_peek : Room := { frames := 0, cells := 0, slots := 0, locals := 0 }
def wX8_peek (x1 : Int32) (σ : St) (Q : Int32 → St → Prop) : Prop := ((x1 < 0 → Q (-1 : Int32) σ) ∧ (¬ (x1 < 0) → (((gv σ 6 0) ≤ x1 → Q (-1 : Int32) σ) ∧ (¬ ((gv σ 6 0) ≤ x1) → vp_in x1 2000 ∧ Q ((gv σ 24 x1.toNatClampNeg) &&& (255 : Int32)) σ))))
set_option maxHeartbeats 4000000 in
set_option maxRecDepth 100000 in
theorem tX8_peek_e {p : Program} {l : Launch} {e : Env} {s : State} {m : MethodId} {args : Array Value} {below : List Frame} {meth : Method} {c : Code} {E : EE} {base : Nat} (C : Cx p E base s m args meth c cX8_peek 2 RX8) (hr : meth.sig.returnType = (some .int)) {Q : Int32 → St → Prop} : ∀ (x1 : Int32) (σ : St) (H : Heap) (locs : List Loc) (ls : Array Slot), lv_has ls 2 [(0, .ref (ga E 6)), (1, .int x1)] → GW E base s σ H locs → wX8_peek x1 σ Q → W p l e rmX8_peek s m args below meth c H locs 0 0 (MQ below (QI E base Q) args s 0 0 (fun q => base ≤ q)) (F0 m 0 ls []) := by
  intro x1 σ H locs ls hl g h
  refine lv_iload_n C.1 C.2.1 dX8_peek_0 rfl (lv_at hl 1 rfl) ?_
  refine lv_if_lt (tgt := 25) C.1 C.2.1 dX8_peek_1 (by decide) (fun c1 => ?_) (fun c1 => ?_)
  · have h := h.1 c1
    refine lv_iconst (v := -1) C.1 C.2.1 dX8_peek_25 (by decide) ?_
    exact gx_iret C hr g dX8_peek_26 h
  · have h := h.2 c1
    refine lv_iload_n C.1 C.2.1 dX8_peek_4 rfl (lv_at hl 1 rfl) ?_
    refine lv_aload_n C.1 C.2.1 dX8_peek_5 rfl (lv_at hl 0 rfl) ?_
    refine gx_getI C g fl_X8_7 dX8_peek_6 sh_6 rfl ?_
    refine lv_icmp_ge (tgt := 25) C.1 C.2.1 dX8_peek_9 (by decide) (fun c2 => ?_) (fun c2 => ?_)
    · have h := h.1 c2
      refine lv_iconst (v := -1) C.1 C.2.1 dX8_peek_25 (by decide) ?_
      exact gx_iret C hr g dX8_peek_26 h
    · have h := h.2 c2
      refine lv_aload_n C.1 C.2.1 dX8_peek_12 rfl (lv_at hl 0 rfl) ?_
      refine gx_getR C g fl_X8_13 dX8_peek_13 sh_6 rfl (by decide) ?_
      refine lv_iload_n C.1 C.2.1 dX8_peek_16 rfl (lv_at hl 1 rfl) ?_
      obtain ⟨i3, h⟩ := h
      refine gx_bald C g dX8_peek_17 sh_24 i3 ?_
      refine lv_sipush (v := 255) C.1 C.2.1 dX8_peek_18 (by decide) ?_
      refine lv_iand C.1 C.2.1 dX8_peek_21 ?_
      refine lv_goto (tgt := 26) C.1 C.2.1 dX8_peek_22 (by decide) ?_
      exact gx_iret C hr g dX8_peek_26 h
theorem mX8_peek {l : Launch} {E : EE} {base : Nat} (x1 : Int32) (σ : St) (Q : Int32 → St → Prop) (h : wX8_peek x1 σ Q) : Met l yX8_peek (wy yX8_peek cX8_peek 2 (some .int)) rmX8_peek (va_Pc [.ref (ga E 6), .int x1] (fun U => SW E base σ U)) (QI E base Q) (rmX8_peek).cells (rmX8_peek).slots (fun q => base ≤ q) :=
  met_of (by decide) (Nat.le_of_ble_eq_true rfl) (fun p e s m args below meth c C hr g ls hl => tX8_peek_e C hr x1 _ _ _ _ hl g h)
