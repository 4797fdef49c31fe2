abbrev rmX8_append : Room := { frames := 0, cells := 0, slots := 0, locals := 0 }
def wX8_append_3 (Q : St → Prop) : Nat → Int32 → Int32 → St → Prop
  | 0, _, _, _ => False
  | n + 1, x1, x2, σ => ((x2 < 0 → Q σ) ∧ (¬ (x2 < 0) → (((2000 : Int32) ≤ (gv σ 6 0) → Q σ) ∧ (¬ ((2000 : Int32) ≤ (gv σ 6 0)) → vp_in (gv σ 6 0) 2000 ∧ ∀ σ4 : St, σ4 = pv σ 24 (gv σ 6 0).toNatClampNeg (vp_nar .byte ((x1 >>> (x2 &&& 31)).toInt8.toInt32)) → ∀ σ5 : St, σ5 = pv σ4 6 0 ((gv σ4 6 0) + (1 : Int32)) → ∀ x2_6 : Int32, x2_6 = x2 + (-8) → wX8_append_3 Q n x1 x2_6 σ5))))
def wX8_append (x1 : Int32) (σ : St) (Q : St → Prop) : Prop := ∃ n, wX8_append_3 Q n x1 (24 : Int32) σ
abbrev rmX8_peek : Room := { frames := 0, cells := 0, slots := 0, locals := 0 }
def wX8_peek (x1 : Int32) (σ : St) (Q : Int32 → St → Prop) : Prop := ((x1 < 0 → Q (-1 : Int32) σ) ∧ (¬ (x1 < 0) → (((gv σ 6 0) ≤ x1 → Q (-1 : Int32) σ) ∧ (¬ ((gv σ 6 0) ≤ x1) → vp_in x1 2000 ∧ Q ((gv σ 24 x1.toNatClampNeg) &&& (255 : Int32)) σ))))
abbrev rmX11_back : Room := { frames := 0, cells := 0, slots := 0, locals := 0 }
def wX11_back (x1 : Int32) (σ : St) (Q : Int32 → St → Prop) : Prop := ((x1 < 0 → Q (-1 : Int32) σ) ∧ (¬ (x1 < 0) → ((x1 ≤ (gv σ 6 0) → ∀ σ3 : St, σ3 = pv σ 6 0 ((gv σ 6 0) - x1) → Q (gv σ3 6 0) σ3) ∧ (¬ (x1 ≤ (gv σ 6 0)) → Q (-1 : Int32) σ))))
abbrev rmX11_feed : Room := { frames := 1, cells := 0, slots := 0, locals := 22 }
def wX11_feed (x1 : Int32) (x2 : Int32) (x3 : Int32) (x4 : Int32) (x5 : Int32) (σ : St) (Q : Int32 → St → Prop) : Prop := ((((gv σ 6 0) + (20 : Int32)) ≤ (2000 : Int32) → wX8_append x1 σ (fun (σ3 : St) => wX8_append x2 σ3 (fun (σ5 : St) => wX8_append x3 σ5 (fun (σ7 : St) => wX8_append x4 σ7 (fun (σ9 : St) => wX8_append x5 σ9 (fun (σ11 : St) => Q (gv σ11 6 0) σ11)))))) ∧ (¬ (((gv σ 6 0) + (20 : Int32)) ≤ (2000 : Int32)) → Q (-1 : Int32) σ))
abbrev rmX11_count : Room := { frames := 0, cells := 0, slots := 0, locals := 0 }
def wX11_count (x1 : Int32) (σ : St) (Q : Int32 → St → Prop) : Prop := ((x1 = 0 → Q (gv σ 2 4) σ) ∧ (¬ (x1 = 0) → ((x1 = 1 → Q (gv σ 3 0) σ) ∧ (¬ (x1 = 1) → ((x1 = 2 → Q (gv σ 4 4) σ) ∧ (¬ (x1 = 2) → ((x1 = 3 → Q (gv σ 9 5) σ) ∧ (¬ (x1 = 3) → ((x1 = 4 → Q (gv σ 8 0) σ) ∧ (¬ (x1 = 4) → ((x1 = 5 → Q (gv σ 8 1) σ) ∧ (¬ (x1 = 5) → ((x1 = 6 → Q (gv σ 0 5) σ) ∧ (¬ (x1 = 6) → ((x1 = 7 → Q (gv σ 2 6) σ) ∧ (¬ (x1 = 7) → ((x1 = 8 → Q (gv σ 6 0) σ) ∧ (¬ (x1 = 8) → Q (-1 : Int32) σ))))))))))))))))))
set_option maxHeartbeats 4000000 in
set_option maxRecDepth 100000 in
theorem tX8_append_3 {p : Program} {l : Launch} {e : Env} {s : State} {m : MethodId} {args : Array Value} {below : List Frame} {meth : Method} {c : Code} {E : EE} {base : Nat} (C : Cx p E base s m args meth c cX8_append 3 RX8) (hr : meth.sig.returnType = none) {Q : St → Prop} : ∀ (n : Nat) (x1 : Int32) (x2 : Int32) (σ : St) (H : Heap) (locs : List Loc) (ls : Array Slot), lv_has ls 3 [(0, .ref (ga E 6)), (1, .int x1), (2, .int x2)] → GW E base s σ H locs → wX8_append_3 Q n x1 x2 σ → W p l e rmX8_append s m args below meth c H locs 0 0 (MQ below (QV E base Q) args s 0 0 (fun q => base ≤ q)) (F0 m 3 ls []) := by
  intro n
  induction n with
  | zero => intro _ _; intros; exact False.elim (by assumption)
  | succ n ih =>
    intro x1 x2 σ H locs ls hl g h
    refine lv_iload_n C.1 C.2.1 dX8_append_3 rfl (lv_at hl 2 rfl) ?_
    refine lv_if_lt (tgt := 46) C.1 C.2.1 dX8_append_4 (by decide) (fun c1 => ?_) (fun c1 => ?_)
    · have h := h.1 c1
      exact gx_vret C hr g dX8_append_46 h
    · have h := h.2 c1
      refine lv_aload_n C.1 C.2.1 dX8_append_7 rfl (lv_at hl 0 rfl) ?_
      refine gx_getI C g fl_X8_7 dX8_append_8 sh_6 rfl ?_
      refine lv_sipush (v := 2000) C.1 C.2.1 dX8_append_11 (by decide) ?_
      refine lv_icmp_ge (tgt := 46) C.1 C.2.1 dX8_append_14 (by decide) (fun c2 => ?_) (fun c2 => ?_)
      · have h := h.1 c2
        exact gx_vret C hr g dX8_append_46 h
      · have h := h.2 c2
        refine lv_aload_n C.1 C.2.1 dX8_append_17 rfl (lv_at hl 0 rfl) ?_
        refine gx_getR C g fl_X8_13 dX8_append_18 sh_6 rfl (by decide) ?_
        refine lv_aload_n C.1 C.2.1 dX8_append_21 rfl (lv_at hl 0 rfl) ?_
        refine gx_getI C g fl_X8_7 dX8_append_22 sh_6 rfl ?_
        refine lv_iload_n C.1 C.2.1 dX8_append_25 rfl (lv_at hl 1 rfl) ?_
        refine lv_iload_n C.1 C.2.1 dX8_append_26 rfl (lv_at hl 2 rfl) ?_
        refine lv_ishr C.1 C.2.1 dX8_append_27 ?_
        refine lv_i2b C.1 C.2.1 dX8_append_28 rfl ?_
        obtain ⟨i3, h⟩ := h
        refine gx_bast C g dX8_append_29 sh_24 i3 (fun H locs σ4 eσ4 g => ?_)
        have h := h σ4 eσ4
        refine lv_aload_n C.1 C.2.1 dX8_append_30 rfl (lv_at hl 0 rfl) ?_
        refine lv_dup C.1 C.2.1 dX8_append_31 rfl ?_
        refine gx_getI C g fl_X8_7 dX8_append_32 sh_6 rfl ?_
        refine lv_iconst (v := 1) C.1 C.2.1 dX8_append_35 (by decide) ?_
        refine lv_iadd C.1 C.2.1 dX8_append_36 ?_
        refine gx_putI C g fi_X8_7 dX8_append_37 sh_6 rfl (fun H locs σ5 eσ5 g => ?_)
        have h := h σ5 eσ5
        obtain ⟨x2_6, ex2_6⟩ : ∃ y : Int32, y = x2 + (-8) := ⟨_, rfl⟩
        have h := h x2_6 ex2_6
        refine lv_iinc (v := x2_6) (lv' := [(2, .int x2_6), (0, .ref (ga E 6)), (1, .int x1)]) C.1 C.2.1 dX8_append_40 hl (k := 2) rfl (by rw [ex2_6]; rfl) (by decide) rfl (fun ls hl => ?_)
        refine lv_goto (tgt := 3) C.1 C.2.1 dX8_append_43 (by decide) ?_
        exact ih x1 x2_6 _ _ _ _ (lv_sub hl [1, 2, 0] rfl) g h
set_option maxHeartbeats 4000000 in
set_option maxRecDepth 100000 in
theorem tX8_append_0 {p : Program} {l : Launch} {e : Env} {s : State} {m : MethodId} {args : Array Value} {below : List Frame} {meth : Method} {c : Code} {E : EE} {base : Nat} (C : Cx p E base s m args meth c cX8_append 3 RX8) (hr : meth.sig.returnType = none) {Q : St → Prop} : ∀ (x1 : Int32) (σ : St) (H : Heap) (locs : List Loc) (ls : Array Slot), lv_has ls 3 [(0, .ref (ga E 6)), (1, .int x1)] → GW E base s σ H locs → wX8_append x1 σ Q → W p l e rmX8_append s m args below meth c H locs 0 0 (MQ below (QV E base Q) args s 0 0 (fun q => base ≤ q)) (F0 m 0 ls []) := by
  intro x1 σ H locs ls hl g h
  refine lv_bipush (v := 24) C.1 C.2.1 dX8_append_0 (by decide) ?_
  refine lv_istore_n (lv' := [(2, .int (24 : Int32)), (0, .ref (ga E 6)), (1, .int x1)]) C.1 C.2.1 dX8_append_2 rfl hl (by decide) rfl (fun ls hl => ?_)
  obtain ⟨n, h⟩ := h
  exact tX8_append_3 C hr n x1 (24 : Int32) _ _ _ _ (lv_sub hl [1, 2, 0] rfl) g h
theorem mX8_append {l : Launch} {E : EE} {base : Nat} (x1 : Int32) (σ : St) (Q : St → Prop) (h : wX8_append x1 σ Q) : Met l yX8_append (wy yX8_append cX8_append 3 none) rmX8_append (va_Pc [.ref (ga E 6), .int x1] (fun U => SW E base σ U)) (QV E base Q) (rmX8_append).cells (rmX8_append).slots (fun q => base ≤ q) :=
  met_of (by decide) (Nat.le_of_ble_eq_true rfl) (fun p e s m args below meth c C hr g ls hl => tX8_append_0 C hr x1 _ _ _ _ hl g h)
set_option maxHeartbeats 4000000 in
set_option maxRecDepth 100000 in
theorem tX8_peek_0 {p : Program} {l : Launch} {e : Env} {s : State} {m : MethodId} {args : Array Value} {below : List Frame} {meth : Method} {c : Code} {E : EE} {base : Nat} (C : Cx p E base s m args meth c cX8_peek 2 RX8) (hr : meth.sig.returnType = (some .int)) {Q : Int32 → St → Prop} : ∀ (x1 : Int32) (σ : St) (H : Heap) (locs : List Loc) (ls : Array Slot), lv_has ls 2 [(0, .ref (ga E 6)), (1, .int x1)] → GW E base s σ H locs → wX8_peek x1 σ Q → W p l e rmX8_peek s m args below meth c H locs 0 0 (MQ below (QI E base Q) args s 0 0 (fun q => base ≤ q)) (F0 m 0 ls []) := by
  intro x1 σ H locs ls hl g h
  refine lv_iload_n C.1 C.2.1 dX8_peek_0 rfl (lv_at hl 1 rfl) ?_
  refine lv_if_lt (tgt := 25) C.1 C.2.1 dX8_peek_1 (by decide) (fun c1 => ?_) (fun c1 => ?_)
  · have h := h.1 c1
    refine lv_iconst (v := -1) C.1 C.2.1 dX8_peek_25 (by decide) ?_
    exact gx_iret C hr g dX8_peek_26 h
  · have h := h.2 c1
    refine lv_iload_n C.1 C.2.1 dX8_peek_4 rfl (lv_at hl 1 rfl) ?_
    refine lv_aload_n C.1 C.2.1 dX8_peek_5 rfl (lv_at hl 0 rfl) ?_
    refine gx_getI C g fl_X8_7 dX8_peek_6 sh_6 rfl ?_
    refine lv_icmp_ge (tgt := 25) C.1 C.2.1 dX8_peek_9 (by decide) (fun c2 => ?_) (fun c2 => ?_)
    · have h := h.1 c2
      refine lv_iconst (v := -1) C.1 C.2.1 dX8_peek_25 (by decide) ?_
      exact gx_iret C hr g dX8_peek_26 h
    · have h := h.2 c2
      refine lv_aload_n C.1 C.2.1 dX8_peek_12 rfl (lv_at hl 0 rfl) ?_
      refine gx_getR C g fl_X8_13 dX8_peek_13 sh_6 rfl (by decide) ?_
      refine lv_iload_n C.1 C.2.1 dX8_peek_16 rfl (lv_at hl 1 rfl) ?_
      obtain ⟨i3, h⟩ := h
      refine gx_bald C g dX8_peek_17 sh_24 i3 ?_
      refine lv_sipush (v := 255) C.1 C.2.1 dX8_peek_18 (by decide) ?_
      refine lv_iand C.1 C.2.1 dX8_peek_21 ?_
      refine lv_goto (tgt := 26) C.1 C.2.1 dX8_peek_22 (by decide) ?_
      exact gx_iret C hr g dX8_peek_26 h
theorem mX8_peek {l : Launch} {E : EE} {base : Nat} (x1 : Int32) (σ : St) (Q : Int32 → St → Prop) (h : wX8_peek x1 σ Q) : Met l yX8_peek (wy yX8_peek cX8_peek 2 (some .int)) rmX8_peek (va_Pc [.ref (ga E 6), .int x1] (fun U => SW E base σ U)) (QI E base Q) (rmX8_peek).cells (rmX8_peek).slots (fun q => base ≤ q) :=
  met_of (by decide) (Nat.le_of_ble_eq_true rfl) (fun p e s m args below meth c C hr g ls hl => tX8_peek_0 C hr x1 _ _ _ _ hl g h)
set_option maxHeartbeats 4000000 in
set_option maxRecDepth 100000 in
theorem tX11_back_0 {p : Program} {l : Launch} {e : Env} {s : State} {m : MethodId} {args : Array Value} {below : List Frame} {meth : Method} {c : Code} {E : EE} {base : Nat} (C : Cx p E base s m args meth c cX11_back 3 RX11) (hr : meth.sig.returnType = (some .int)) {Q : Int32 → St → Prop} : ∀ (x1 : Int32) (σ : St) (H : Heap) (locs : List Loc) (ls : Array Slot), lv_has ls 3 [(0, .ref (ga E 0)), (1, .int x1)] → GW E base s σ H locs → wX11_back x1 σ Q → W p l e rmX11_back s m args below meth c H locs 0 0 (MQ below (QI E base Q) args s 0 0 (fun q => base ≤ q)) (F0 m 0 ls []) := by
  intro x1 σ H locs ls hl g h
  refine lv_aload_n C.1 C.2.1 dX11_back_0 rfl (lv_at hl 0 rfl) ?_
  refine gx_getR C g fl_X11_10 dX11_back_1 sh_0 rfl (by decide) ?_
  refine gx_getR C g fl_X11_44 dX11_back_4 sh_1 rfl (by decide) ?_
  refine gx_getR C g fl_X11_48 dX11_back_7 sh_5 rfl (by decide) ?_
  refine lv_astore_n (lv' := [(2, .ref (ga E 6)), (0, .ref (ga E 0)), (1, .int x1)]) C.1 C.2.1 dX11_back_10 rfl hl (by decide) rfl (fun ls hl => ?_)
  refine lv_iload_n C.1 C.2.1 dX11_back_11 rfl (lv_at hl 2 rfl) ?_
  refine lv_if_lt (tgt := 23) C.1 C.2.1 dX11_back_12 (by decide) (fun c1 => ?_) (fun c1 => ?_)
  · have h := h.1 c1
    refine lv_iconst (v := -1) C.1 C.2.1 dX11_back_23 (by decide) ?_
    exact gx_iret C hr g dX11_back_24 h
  · have h := h.2 c1
    refine lv_iload_n C.1 C.2.1 dX11_back_15 rfl (lv_at hl 2 rfl) ?_
    refine lv_aload_n C.1 C.2.1 dX11_back_16 rfl (lv_at hl 0 rfl) ?_
    refine gx_getI C g fl_X11_54 dX11_back_17 sh_6 rfl ?_
    refine lv_icmp_le (tgt := 25) C.1 C.2.1 dX11_back_20 (by decide) (fun c2 => ?_) (fun c2 => ?_)
    · have h := h.1 c2
      refine lv_aload_n C.1 C.2.1 dX11_back_25 rfl (lv_at hl 0 rfl) ?_
      refine lv_dup C.1 C.2.1 dX11_back_26 rfl ?_
      refine gx_getI C g fl_X11_54 dX11_back_27 sh_6 rfl ?_
      refine lv_iload_n C.1 C.2.1 dX11_back_30 rfl (lv_at hl 2 rfl) ?_
      refine lv_isub C.1 C.2.1 dX11_back_31 ?_
      refine gx_putI C g fi_X11_54 dX11_back_32 sh_6 rfl (fun H locs σ3 eσ3 g => ?_)
      have h := h σ3 eσ3
      refine lv_aload_n C.1 C.2.1 dX11_back_35 rfl (lv_at hl 0 rfl) ?_
      refine gx_getI C g fl_X11_54 dX11_back_36 sh_6 rfl ?_
      exact gx_iret C hr g dX11_back_39 h
    · have h := h.2 c2
      refine lv_iconst (v := -1) C.1 C.2.1 dX11_back_23 (by decide) ?_
      exact gx_iret C hr g dX11_back_24 h
theorem mX11_back {l : Launch} {E : EE} {base : Nat} (x1 : Int32) (σ : St) (Q : Int32 → St → Prop) (h : wX11_back x1 σ Q) : Met l yX11_back (wy yX11_back cX11_back 3 (some .int)) rmX11_back (va_Pc [.ref (ga E 0), .int x1] (fun U => SW E base σ U)) (QI E base Q) (rmX11_back).cells (rmX11_back).slots (fun q => base ≤ q) :=
  met_of (by decide) (Nat.le_of_ble_eq_true rfl) (fun p e s m args below meth c C hr g ls hl => tX11_back_0 C hr x1 _ _ _ _ hl g h)
set_option maxHeartbeats 4000000 in
set_option maxRecDepth 100000 in
theorem tX11_feed_0 {p : Program} {l : Launch} {e : Env} {s : State} {m : MethodId} {args : Array Value} {below : List Frame} {meth : Method} {c : Code} {E : EE} {base : Nat} (C : Cx p E base s m args meth c cX11_feed 7 RX11) (hr : meth.sig.returnType = (some .int)) {Q : Int32 → St → Prop} : ∀ (x1 : Int32) (x2 : Int32) (x3 : Int32) (x4 : Int32) (x5 : Int32) (σ : St) (H : Heap) (locs : List Loc) (ls : Array Slot), lv_has ls 7 [(0, .ref (ga E 0)), (1, .int x1), (2, .int x2), (3, .int x3), (4, .int x4), (5, .int x5)] → GW E base s σ H locs → wX11_feed x1 x2 x3 x4 x5 σ Q → W p l e rmX11_feed s m args below meth c H locs 0 0 (MQ below (QI E base Q) args s 0 0 (fun q => base ≤ q)) (F0 m 0 ls []) := by
  intro x1 x2 x3 x4 x5 σ H locs ls hl g h
  refine lv_aload_n C.1 C.2.1 dX11_feed_0 rfl (lv_at hl 0 rfl) ?_
  refine gx_getR C g fl_X11_10 dX11_feed_1 sh_0 rfl (by decide) ?_
  refine gx_getR C g fl_X11_44 dX11_feed_4 sh_1 rfl (by decide) ?_
  refine gx_getR C g fl_X11_48 dX11_feed_7 sh_5 rfl (by decide) ?_
  refine lv_astore (lv' := [(6, .ref (ga E 6)), (0, .ref (ga E 0)), (1, .int x1), (2, .int x2), (3, .int x3), (4, .int x4), (5, .int x5)]) C.1 C.2.1 dX11_feed_10 hl (by decide) rfl (fun ls hl => ?_)
  refine lv_aload C.1 C.2.1 dX11_feed_12 (lv_at hl 0 rfl) ?_
  refine gx_getI C g fl_X11_54 dX11_feed_14 sh_6 rfl ?_
  refine lv_bipush (v := 20) C.1 C.2.1 dX11_feed_17 (by decide) ?_
  refine lv_iadd C.1 C.2.1 dX11_feed_19 ?_
  refine lv_sipush (v := 2000) C.1 C.2.1 dX11_feed_20 (by decide) ?_
  refine lv_icmp_le (tgt := 28) C.1 C.2.1 dX11_feed_23 (by decide) (fun c1 => ?_) (fun c1 => ?_)
  · have h := h.1 c1
    refine lv_aload C.1 C.2.1 dX11_feed_28 (lv_at hl 0 rfl) ?_
    refine lv_iload_n C.1 C.2.1 dX11_feed_30 rfl (lv_at hl 2 rfl) ?_
    refine gx_callv0 g (gx_runV (k := 6) (rest := []) C g mb_X8_append ml_X11_59 rfl sh_6 (mX8_append x1 _ _ h) ⟨Nat.le_of_ble_eq_true rfl, Nat.le_of_ble_eq_true rfl⟩ ⟨Nat.le_refl _, Nat.le_refl _⟩ rfl hl.1 rfl (by decide) dX11_feed_31) rfl rfl (fun σ3 H locs h g => ?_)
    refine lv_aload C.1 C.2.1 dX11_feed_34 (lv_at hl 0 rfl) ?_
    refine lv_iload_n C.1 C.2.1 dX11_feed_36 rfl (lv_at hl 3 rfl) ?_
    refine gx_callv0 g (gx_runV (k := 6) (rest := []) C g mb_X8_append ml_X11_59 rfl sh_6 (mX8_append x2 _ _ h) ⟨Nat.le_of_ble_eq_true rfl, Nat.le_of_ble_eq_true rfl⟩ ⟨Nat.le_refl _, Nat.le_refl _⟩ rfl hl.1 rfl (by decide) dX11_feed_37) rfl rfl (fun σ5 H locs h g => ?_)
    refine lv_aload C.1 C.2.1 dX11_feed_40 (lv_at hl 0 rfl) ?_
    refine lv_iload_n C.1 C.2.1 dX11_feed_42 rfl (lv_at hl 4 rfl) ?_
    refine gx_callv0 g (gx_runV (k := 6) (rest := []) C g mb_X8_append ml_X11_59 rfl sh_6 (mX8_append x3 _ _ h) ⟨Nat.le_of_ble_eq_true rfl, Nat.le_of_ble_eq_true rfl⟩ ⟨Nat.le_refl _, Nat.le_refl _⟩ rfl hl.1 rfl (by decide) dX11_feed_43) rfl rfl (fun σ7 H locs h g => ?_)
    refine lv_aload C.1 C.2.1 dX11_feed_46 (lv_at hl 0 rfl) ?_
    refine lv_iload C.1 C.2.1 dX11_feed_48 (lv_at hl 5 rfl) ?_
    refine gx_callv0 g (gx_runV (k := 6) (rest := []) C g mb_X8_append ml_X11_59 rfl sh_6 (mX8_append x4 _ _ h) ⟨Nat.le_of_ble_eq_true rfl, Nat.le_of_ble_eq_true rfl⟩ ⟨Nat.le_refl _, Nat.le_refl _⟩ rfl hl.1 rfl (by decide) dX11_feed_50) rfl rfl (fun σ9 H locs h g => ?_)
    refine lv_aload C.1 C.2.1 dX11_feed_53 (lv_at hl 0 rfl) ?_
    refine lv_iload C.1 C.2.1 dX11_feed_55 (lv_at hl 6 rfl) ?_
    refine gx_callv0 g (gx_runV (k := 6) (rest := []) C g mb_X8_append ml_X11_59 rfl sh_6 (mX8_append x5 _ _ h) ⟨Nat.le_of_ble_eq_true rfl, Nat.le_of_ble_eq_true rfl⟩ ⟨Nat.le_refl _, Nat.le_refl _⟩ rfl hl.1 rfl (by decide) dX11_feed_57) rfl rfl (fun σ11 H locs h g => ?_)
    refine lv_aload C.1 C.2.1 dX11_feed_60 (lv_at hl 0 rfl) ?_
    refine gx_getI C g fl_X11_54 dX11_feed_62 sh_6 rfl ?_
    exact gx_iret C hr g dX11_feed_65 h
  · have h := h.2 c1
    refine lv_iconst (v := -1) C.1 C.2.1 dX11_feed_26 (by decide) ?_
    exact gx_iret C hr g dX11_feed_27 h
theorem mX11_feed {l : Launch} {E : EE} {base : Nat} (x1 : Int32) (x2 : Int32) (x3 : Int32) (x4 : Int32) (x5 : Int32) (σ : St) (Q : Int32 → St → Prop) (h : wX11_feed x1 x2 x3 x4 x5 σ Q) : Met l yX11_feed (wy yX11_feed cX11_feed 7 (some .int)) rmX11_feed (va_Pc [.ref (ga E 0), .int x1, .int x2, .int x3, .int x4, .int x5] (fun U => SW E base σ U)) (QI E base Q) (rmX11_feed).cells (rmX11_feed).slots (fun q => base ≤ q) :=
  met_of (by decide) (Nat.le_of_ble_eq_true rfl) (fun p e s m args below meth c C hr g ls hl => tX11_feed_0 C hr x1 x2 x3 x4 x5 _ _ _ _ hl g h)
set_option maxHeartbeats 4000000 in
set_option maxRecDepth 100000 in
theorem tX11_count_0 {p : Program} {l : Launch} {e : Env} {s : State} {m : MethodId} {args : Array Value} {below : List Frame} {meth : Method} {c : Code} {E : EE} {base : Nat} (C : Cx p E base s m args meth c cX11_count 2 RX11) (hr : meth.sig.returnType = (some .int)) {Q : Int32 → St → Prop} : ∀ (x1 : Int32) (σ : St) (H : Heap) (locs : List Loc) (ls : Array Slot), lv_has ls 2 [(0, .ref (ga E 0)), (1, .int x1)] → GW E base s σ H locs → wX11_count x1 σ Q → W p l e rmX11_count s m args below meth c H locs 0 0 (MQ below (QI E base Q) args s 0 0 (fun q => base ≤ q)) (F0 m 0 ls []) := by
  intro x1 σ H locs ls hl g h
  refine lv_iload_n C.1 C.2.1 dX11_count_0 rfl (lv_at hl 1 rfl) ?_
  by_cases c1 : x1 = 0
  · have h := h.1 c1
    refine gx_tabI (tgt := 52) C.1 C.2.1 dX11_count_1 (off := 51) (k := 0) c1 (by decide +kernel) (by decide) ?_
    refine lv_aload_n C.1 C.2.1 dX11_count_52 rfl (lv_at hl 0 rfl) ?_
    refine gx_getR C g fl_X11_10 dX11_count_53 sh_0 rfl (by decide) ?_
    refine gx_getR C g fl_X11_77 dX11_count_56 sh_1 rfl (by decide) ?_
    refine gx_getI C g fl_X11_146 dX11_count_59 sh_2 rfl ?_
    exact gx_iret C hr g dX11_count_62 h
  · have h := h.2 c1
    by_cases c2 : x1 = 1
    · have h := h.1 c2
      refine gx_tabI (tgt := 63) C.1 C.2.1 dX11_count_1 (off := 62) (k := 1) c2 (by decide +kernel) (by decide) ?_
      refine lv_aload_n C.1 C.2.1 dX11_count_63 rfl (lv_at hl 0 rfl) ?_
      refine gx_getR C g fl_X11_10 dX11_count_64 sh_0 rfl (by decide) ?_
      refine gx_getR C g fl_X11_104 dX11_count_67 sh_1 rfl (by decide) ?_
      refine gx_getI C g fl_X11_180 dX11_count_70 sh_3 rfl ?_
      exact gx_iret C hr g dX11_count_73 h
    · have h := h.2 c2
      by_cases c3 : x1 = 2
      · have h := h.1 c3
        refine gx_tabI (tgt := 74) C.1 C.2.1 dX11_count_1 (off := 73) (k := 2) c3 (by decide +kernel) (by decide) ?_
        refine lv_aload_n C.1 C.2.1 dX11_count_74 rfl (lv_at hl 0 rfl) ?_
        refine gx_getR C g fl_X11_10 dX11_count_75 sh_0 rfl (by decide) ?_
        refine gx_getR C g fl_X11_117 dX11_count_78 sh_1 rfl (by decide) ?_
        refine gx_getI C g fl_X11_155 dX11_count_81 sh_4 rfl ?_
        exact gx_iret C hr g dX11_count_84 h
      · have h := h.2 c3
        by_cases c4 : x1 = 3
        · have h := h.1 c4
          refine gx_tabI (tgt := 85) C.1 C.2.1 dX11_count_1 (off := 84) (k := 3) c4 (by decide +kernel) (by decide) ?_
          refine lv_aload_n C.1 C.2.1 dX11_count_85 rfl (lv_at hl 0 rfl) ?_
          refine gx_getR C g fl_X11_19 dX11_count_86 sh_0 rfl (by decide) ?_
          refine gx_getI C g fl_X11_193 dX11_count_89 sh_9 rfl ?_
          exact gx_iret C hr g dX11_count_92 h
        · have h := h.2 c4
          by_cases c5 : x1 = 4
          · have h := h.1 c5
            refine gx_tabI (tgt := 93) C.1 C.2.1 dX11_count_1 (off := 92) (k := 4) c5 (by decide +kernel) (by decide) ?_
            refine lv_aload_n C.1 C.2.1 dX11_count_93 rfl (lv_at hl 0 rfl) ?_
            refine gx_getR C g fl_X11_10 dX11_count_94 sh_0 rfl (by decide) ?_
            refine gx_getR C g fl_X11_44 dX11_count_97 sh_1 rfl (by decide) ?_
            refine gx_getR C g fl_X11_213 dX11_count_100 sh_5 rfl (by decide) ?_
            refine gx_getI C g fl_X11_217 dX11_count_103 sh_8 rfl ?_
            exact gx_iret C hr g dX11_count_106 h
          · have h := h.2 c5
            by_cases c6 : x1 = 5
            · have h := h.1 c6
              refine gx_tabI (tgt := 107) C.1 C.2.1 dX11_count_1 (off := 106) (k := 5) c6 (by decide +kernel) (by decide) ?_
              refine lv_aload_n C.1 C.2.1 dX11_count_107 rfl (lv_at hl 0 rfl) ?_
              refine gx_getR C g fl_X11_10 dX11_count_108 sh_0 rfl (by decide) ?_
              refine gx_getR C g fl_X11_44 dX11_count_111 sh_1 rfl (by decide) ?_
              refine gx_getR C g fl_X11_213 dX11_count_114 sh_5 rfl (by decide) ?_
              refine gx_getI C g fl_X11_222 dX11_count_117 sh_8 rfl ?_
              exact gx_iret C hr g dX11_count_120 h
            · have h := h.2 c6
              by_cases c7 : x1 = 6
              · have h := h.1 c7
                refine gx_tabI (tgt := 121) C.1 C.2.1 dX11_count_1 (off := 120) (k := 6) c7 (by decide +kernel) (by decide) ?_
                refine lv_aload_n C.1 C.2.1 dX11_count_121 rfl (lv_at hl 0 rfl) ?_
                refine gx_getI C g fl_X11_40 dX11_count_122 sh_0 rfl ?_
                exact gx_iret C hr g dX11_count_125 h
              · have h := h.2 c7
                by_cases c8 : x1 = 7
                · have h := h.1 c8
                  refine gx_tabI (tgt := 126) C.1 C.2.1 dX11_count_1 (off := 125) (k := 7) c8 (by decide +kernel) (by decide) ?_
                  refine lv_aload_n C.1 C.2.1 dX11_count_126 rfl (lv_at hl 0 rfl) ?_
                  refine gx_getR C g fl_X11_10 dX11_count_127 sh_0 rfl (by decide) ?_
                  refine gx_getR C g fl_X11_77 dX11_count_130 sh_1 rfl (by decide) ?_
                  refine gx_getI C g fl_X11_225 dX11_count_133 sh_2 rfl ?_
                  exact gx_iret C hr g dX11_count_136 h
                · have h := h.2 c8
                  by_cases c9 : x1 = 8
                  · have h := h.1 c9
                    refine gx_tabI (tgt := 137) C.1 C.2.1 dX11_count_1 (off := 136) (k := 8) c9 (by decide +kernel) (by decide) ?_
                    refine lv_aload_n C.1 C.2.1 dX11_count_137 rfl (lv_at hl 0 rfl) ?_
                    refine gx_getR C g fl_X11_10 dX11_count_138 sh_0 rfl (by decide) ?_
                    refine gx_getR C g fl_X11_44 dX11_count_141 sh_1 rfl (by decide) ?_
                    refine gx_getR C g fl_X11_48 dX11_count_144 sh_5 rfl (by decide) ?_
                    refine gx_getI C g fl_X11_54 dX11_count_147 sh_6 rfl ?_
                    exact gx_iret C hr g dX11_count_150 h
                  · have h := h.2 c9
                    refine gx_tabD (tgt := 151) C.1 C.2.1 dX11_count_1 [0, 1, 2, 3, 4, 5, 6, 7, 8] (List.forall_mem_cons.mpr ⟨c1, List.forall_mem_cons.mpr ⟨c2, List.forall_mem_cons.mpr ⟨c3, List.forall_mem_cons.mpr ⟨c4, List.forall_mem_cons.mpr ⟨c5, List.forall_mem_cons.mpr ⟨c6, List.forall_mem_cons.mpr ⟨c7, List.forall_mem_cons.mpr ⟨c8, List.forall_mem_cons.mpr ⟨c9, fun _ z => by cases z⟩⟩⟩⟩⟩⟩⟩⟩⟩) (by decide +kernel) (by decide +kernel) (by decide) ?_
                    refine lv_iconst (v := -1) C.1 C.2.1 dX11_count_151 (by decide) ?_
                    exact gx_iret C hr g dX11_count_152 h
theorem mX11_count {l : Launch} {E : EE} {base : Nat} (x1 : Int32) (σ : St) (Q : Int32 → St → Prop) (h : wX11_count x1 σ Q) : Met l yX11_count (wy yX11_count cX11_count 2 (some .int)) rmX11_count (va_Pc [.ref (ga E 0), .int x1] (fun U => SW E base σ U)) (QI E base Q) (rmX11_count).cells (rmX11_count).slots (fun q => base ≤ q) :=
  met_of (by decide) (Nat.le_of_ble_eq_true rfl) (fun p e s m args below meth c C hr g ls hl => tX11_count_0 C hr x1 _ _ _ _ hl g h)
