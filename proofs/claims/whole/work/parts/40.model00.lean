abbrev rmX12_put : Room := { frames := 0, cells := 0, slots := 0, locals := 0 }
def wX12_put_3 (Q : St → Prop) : Nat → Int32 → Int32 → St → Prop
  | 0, _, _, _ => False
  | n + 1, x1, x2, σ => ((x2 < 0 → Q σ) ∧ (¬ (x2 < 0) → vp_in (gv σ 11 2) 2000 ∧ ∀ σ3 : St, σ3 = pv σ 48 (gv σ 11 2).toNatClampNeg (vp_nar .byte ((x1 >>> (x2 &&& 31)).toInt8.toInt32)) → ∀ σ4 : St, σ4 = pv σ3 11 2 ((gv σ3 11 2) + (1 : Int32)) → ∀ x2_5 : Int32, x2_5 = x2 + (-8) → wX12_put_3 Q n x1 x2_5 σ4))
def wX12_put (x1 : Int32) (σ : St) (Q : St → Prop) : Prop := ∃ j : Nat, wX12_put_3 Q j x1 (24 : Int32) σ
set_option maxHeartbeats 4000000 in
set_option maxRecDepth 100000 in
theorem tX12_put_3 {p : Program} {l : Launch} {e : Env} {s : State} {m : MethodId} {args : Array Value} {below : List Frame} {meth : Method} {c : Code} {E : EE} {base : Nat} (C : Cx p E base s m args meth c cX12_put 3 RX12) (hr : meth.sig.returnType = none) {Q : St → Prop} : ∀ (n : Nat) (x1 : Int32) (x2 : Int32) (σ : St) (H : Heap) (locs : List Loc) (ls : Array Slot), lv_has ls 3 [(0, .ref (ga E 11)), (1, .int x1), (2, .int x2)] → GW E base s σ H locs → wX12_put_3 Q n x1 x2 σ → W p l e rmX12_put s m args below meth c H locs 0 0 (MQ below (QV E base Q) args s 0 0 (fun q => base ≤ q)) (F0 m 3 ls []) := by
  intro n
  induction n with
  | zero => intro _ _; intros; exact False.elim (by assumption)
  | succ n ih =>
    intro x1 x2 σ H locs ls hl g h
    refine lv_iload_n C.1 C.2.1 dX12_put_3 rfl (lv_at hl 2 rfl) ?_
    refine lv_if_lt (tgt := 36) C.1 C.2.1 dX12_put_4 (by decide) (fun c1 => ?_) (fun c1 => ?_)
    · have h := h.1 c1
      exact gx_vret C hr g dX12_put_36 h
    · have h := h.2 c1
      refine lv_aload_n C.1 C.2.1 dX12_put_7 rfl (lv_at hl 0 rfl) ?_
      refine gx_getR C g fl_X12_13 dX12_put_8 sh_11 rfl (by decide) ?_
      refine lv_aload_n C.1 C.2.1 dX12_put_11 rfl (lv_at hl 0 rfl) ?_
      refine gx_getI C g fl_X12_189 dX12_put_12 sh_11 rfl ?_
      refine lv_iload_n C.1 C.2.1 dX12_put_15 rfl (lv_at hl 1 rfl) ?_
      refine lv_iload_n C.1 C.2.1 dX12_put_16 rfl (lv_at hl 2 rfl) ?_
      refine lv_ishr C.1 C.2.1 dX12_put_17 ?_
      refine lv_i2b C.1 C.2.1 dX12_put_18 rfl ?_
      obtain ⟨i2, h⟩ := h
      refine gx_bast C g dX12_put_19 sh_48 i2 (fun H locs σ3 eσ3 g => ?_)
      have h := h σ3 eσ3
      refine lv_aload_n C.1 C.2.1 dX12_put_20 rfl (lv_at hl 0 rfl) ?_
      refine lv_dup C.1 C.2.1 dX12_put_21 rfl ?_
      refine gx_getI C g fl_X12_189 dX12_put_22 sh_11 rfl ?_
      refine lv_iconst (v := 1) C.1 C.2.1 dX12_put_25 (by decide) ?_
      refine lv_iadd C.1 C.2.1 dX12_put_26 ?_
      refine gx_putI C g fi_X12_189 dX12_put_27 sh_11 rfl (fun H locs σ4 eσ4 g => ?_)
      have h := h σ4 eσ4
      obtain ⟨x2_5, ex2_5⟩ : ∃ y : Int32, y = x2 + (-8) := ⟨_, rfl⟩
      have h := h x2_5 ex2_5
      refine lv_iinc (v := x2_5) (lv' := [(2, .int x2_5), (0, .ref (ga E 11)), (1, .int x1)]) C.1 C.2.1 dX12_put_30 hl (k := 2) rfl (by rw [ex2_5]; rfl) (by decide) rfl (fun ls hl => ?_)
      refine lv_goto (tgt := 3) C.1 C.2.1 dX12_put_33 (by decide) ?_
      exact ih x1 x2_5 _ _ _ _ (lv_sub hl [1, 2, 0] rfl) g h
set_option maxHeartbeats 4000000 in
set_option maxRecDepth 100000 in
theorem tX12_put_e {p : Program} {l : Launch} {e : Env} {s : State} {m : MethodId} {args : Array Value} {below : List Frame} {meth : Method} {c : Code} {E : EE} {base : Nat} (C : Cx p E base s m args meth c cX12_put 3 RX12) (hr : meth.sig.returnType = none) {Q : St → Prop} : ∀ (x1 : Int32) (σ : St) (H : Heap) (locs : List Loc) (ls : Array Slot), lv_has ls 3 [(0, .ref (ga E 11)), (1, .int x1)] → GW E base s σ H locs → wX12_put x1 σ Q → W p l e rmX12_put s m args below meth c H locs 0 0 (MQ below (QV E base Q) args s 0 0 (fun q => base ≤ q)) (F0 m 0 ls []) := by
  intro x1 σ H locs ls hl g h
  refine lv_bipush (v := 24) C.1 C.2.1 dX12_put_0 (by decide) ?_
  refine lv_istore_n (lv' := [(2, .int (24 : Int32)), (0, .ref (ga E 11)), (1, .int x1)]) C.1 C.2.1 dX12_put_2 rfl hl (by decide) rfl (fun ls hl => ?_)
  obtain ⟨j, h⟩ := h
  exact tX12_put_3 C hr j x1 (24 : Int32) _ _ _ _ (lv_sub hl [1, 2, 0] rfl) g h
theorem mX12_put {l : Launch} {E : EE} {base : Nat} (x1 : Int32) (σ : St) (Q : St → Prop) (h : wX12_put x1 σ Q) : Met l yX12_put (wy yX12_put cX12_put 3 none) rmX12_put (va_Pc [.ref (ga E 11), .int x1] (fun U => SW E base σ U)) (QV E base Q) (rmX12_put).cells (rmX12_put).slots (fun q => base ≤ q) :=
  met_of (by decide) (Nat.le_of_ble_eq_true rfl) (fun p e s m args below meth c C hr g ls hl => tX12_put_e C hr x1 _ _ _ _ hl g h)
abbrev rmX12_feed : Room := { frames := 1, cells := 0, slots := 0, locals := 22 }
def wX12_feed (x1 : Int32) (x2 : Int32) (x3 : Int32) (x4 : Int32) (x5 : Int32) (σ : St) (Q : Int32 → St → Prop) : Prop := ((((gv σ 11 2) + (20 : Int32)) ≤ (2000 : Int32) → wX12_put x1 σ (fun (σ3 : St) => wX12_put x2 σ3 (fun (σ5 : St) => wX12_put x3 σ5 (fun (σ7 : St) => wX12_put x4 σ7 (fun (σ9 : St) => wX12_put x5 σ9 (fun (σ11 : St) => Q (gv σ11 11 2) σ11)))))) ∧ (¬ (((gv σ 11 2) + (20 : Int32)) ≤ (2000 : Int32)) → Q (-1 : Int32) σ))
set_option maxHeartbeats 4000000 in
set_option maxRecDepth 100000 in
theorem tX12_feed_e {p : Program} {l : Launch} {e : Env} {s : State} {m : MethodId} {args : Array Value} {below : List Frame} {meth : Method} {c : Code} {E : EE} {base : Nat} (C : Cx p E base s m args meth c cX12_feed 6 RX12) (hr : meth.sig.returnType = (some .int)) {Q : Int32 → St → Prop} : ∀ (x1 : Int32) (x2 : Int32) (x3 : Int32) (x4 : Int32) (x5 : Int32) (σ : St) (H : Heap) (locs : List Loc) (ls : Array Slot), lv_has ls 6 [(0, .ref (ga E 11)), (1, .int x1), (2, .int x2), (3, .int x3), (4, .int x4), (5, .int x5)] → GW E base s σ H locs → wX12_feed x1 x2 x3 x4 x5 σ Q → W p l e rmX12_feed s m args below meth c H locs 0 0 (MQ below (QI E base Q) args s 0 0 (fun q => base ≤ q)) (F0 m 0 ls []) := by
  intro x1 x2 x3 x4 x5 σ H locs ls hl g h
  refine lv_aload_n C.1 C.2.1 dX12_feed_0 rfl (lv_at hl 0 rfl) ?_
  refine gx_getI C g fl_X12_189 dX12_feed_1 sh_11 rfl ?_
  refine lv_bipush (v := 20) C.1 C.2.1 dX12_feed_4 (by decide) ?_
  refine lv_iadd C.1 C.2.1 dX12_feed_6 ?_
  refine lv_sipush (v := 2000) C.1 C.2.1 dX12_feed_7 (by decide) ?_
  refine lv_icmp_le (tgt := 15) C.1 C.2.1 dX12_feed_10 (by decide) (fun c1 => ?_) (fun c1 => ?_)
  · have h := h.1 c1
    refine lv_aload_n C.1 C.2.1 dX12_feed_15 rfl (lv_at hl 0 rfl) ?_
    refine lv_iload_n C.1 C.2.1 dX12_feed_16 rfl (lv_at hl 1 rfl) ?_
    refine gx_callv0 g (gx_runV (k := 11) (rest := []) C g mb_X12_put ml_X12_192 rfl sh_11 (mX12_put x1 _ _ h) ⟨Nat.le_of_ble_eq_true rfl, Nat.le_of_ble_eq_true rfl⟩ ⟨Nat.le_refl _, Nat.le_refl _⟩ rfl hl.1 rfl (Nat.le_of_ble_eq_true rfl) dX12_feed_17) rfl rfl (fun σ3 H locs h g => ?_)
    refine lv_aload_n C.1 C.2.1 dX12_feed_20 rfl (lv_at hl 0 rfl) ?_
    refine lv_iload_n C.1 C.2.1 dX12_feed_21 rfl (lv_at hl 2 rfl) ?_
    refine gx_callv0 g (gx_runV (k := 11) (rest := []) C g mb_X12_put ml_X12_192 rfl sh_11 (mX12_put x2 _ _ h) ⟨Nat.le_of_ble_eq_true rfl, Nat.le_of_ble_eq_true rfl⟩ ⟨Nat.le_refl _, Nat.le_refl _⟩ rfl hl.1 rfl (Nat.le_of_ble_eq_true rfl) dX12_feed_22) rfl rfl (fun σ5 H locs h g => ?_)
    refine lv_aload_n C.1 C.2.1 dX12_feed_25 rfl (lv_at hl 0 rfl) ?_
    refine lv_iload_n C.1 C.2.1 dX12_feed_26 rfl (lv_at hl 3 rfl) ?_
    refine gx_callv0 g (gx_runV (k := 11) (rest := []) C g mb_X12_put ml_X12_192 rfl sh_11 (mX12_put x3 _ _ h) ⟨Nat.le_of_ble_eq_true rfl, Nat.le_of_ble_eq_true rfl⟩ ⟨Nat.le_refl _, Nat.le_refl _⟩ rfl hl.1 rfl (Nat.le_of_ble_eq_true rfl) dX12_feed_27) rfl rfl (fun σ7 H locs h g => ?_)
    refine lv_aload_n C.1 C.2.1 dX12_feed_30 rfl (lv_at hl 0 rfl) ?_
    refine lv_iload C.1 C.2.1 dX12_feed_31 (lv_at hl 4 rfl) ?_
    refine gx_callv0 g (gx_runV (k := 11) (rest := []) C g mb_X12_put ml_X12_192 rfl sh_11 (mX12_put x4 _ _ h) ⟨Nat.le_of_ble_eq_true rfl, Nat.le_of_ble_eq_true rfl⟩ ⟨Nat.le_refl _, Nat.le_refl _⟩ rfl hl.1 rfl (Nat.le_of_ble_eq_true rfl) dX12_feed_33) rfl rfl (fun σ9 H locs h g => ?_)
    refine lv_aload_n C.1 C.2.1 dX12_feed_36 rfl (lv_at hl 0 rfl) ?_
    refine lv_iload C.1 C.2.1 dX12_feed_37 (lv_at hl 5 rfl) ?_
    refine gx_callv0 g (gx_runV (k := 11) (rest := []) C g mb_X12_put ml_X12_192 rfl sh_11 (mX12_put x5 _ _ h) ⟨Nat.le_of_ble_eq_true rfl, Nat.le_of_ble_eq_true rfl⟩ ⟨Nat.le_refl _, Nat.le_refl _⟩ rfl hl.1 rfl (Nat.le_of_ble_eq_true rfl) dX12_feed_39) rfl rfl (fun σ11 H locs h g => ?_)
    refine lv_aload_n C.1 C.2.1 dX12_feed_42 rfl (lv_at hl 0 rfl) ?_
    refine gx_getI C g fl_X12_189 dX12_feed_43 sh_11 rfl ?_
    exact gx_iret C hr g dX12_feed_46 h
  · have h := h.2 c1
    refine lv_iconst (v := -1) C.1 C.2.1 dX12_feed_13 (by decide) ?_
    exact gx_iret C hr g dX12_feed_14 h
theorem mX12_feed {l : Launch} {E : EE} {base : Nat} (x1 : Int32) (x2 : Int32) (x3 : Int32) (x4 : Int32) (x5 : Int32) (σ : St) (Q : Int32 → St → Prop) (h : wX12_feed x1 x2 x3 x4 x5 σ Q) : Met l yX12_feed (wy yX12_feed cX12_feed 6 (some .int)) rmX12_feed (va_Pc [.ref (ga E 11), .int x1, .int x2, .int x3, .int x4, .int x5] (fun U => SW E base σ U)) (QI E base Q) (rmX12_feed).cells (rmX12_feed).slots (fun q => base ≤ q) :=
  met_of (by decide) (Nat.le_of_ble_eq_true rfl) (fun p e s m args below meth c C hr g ls hl => tX12_feed_e C hr x1 x2 x3 x4 x5 _ _ _ _ hl g h)
abbrev rmX12_back : Room := { frames := 0, cells := 0, slots := 0, locals := 0 }
def wX12_back (x1 : Int32) (σ : St) (Q : Int32 → St → Prop) : Prop := ((x1 < 0 → Q (-1 : Int32) σ) ∧ (¬ (x1 < 0) → ((x1 ≤ (gv σ 11 2) → ∀ σ3 : St, σ3 = pv σ 11 2 ((gv σ 11 2) - x1) → Q (gv σ3 11 2) σ3) ∧ (¬ (x1 ≤ (gv σ 11 2)) → Q (-1 : Int32) σ))))
set_option maxHeartbeats 4000000 in
set_option maxRecDepth 100000 in
theorem tX12_back_e {p : Program} {l : Launch} {e : Env} {s : State} {m : MethodId} {args : Array Value} {below : List Frame} {meth : Method} {c : Code} {E : EE} {base : Nat} (C : Cx p E base s m args meth c cX12_back 2 RX12) (hr : meth.sig.returnType = (some .int)) {Q : Int32 → St → Prop} : ∀ (x1 : Int32) (σ : St) (H : Heap) (locs : List Loc) (ls : Array Slot), lv_has ls 2 [(0, .ref (ga E 11)), (1, .int x1)] → GW E base s σ H locs → wX12_back x1 σ Q → W p l e rmX12_back s m args below meth c H locs 0 0 (MQ below (QI E base Q) args s 0 0 (fun q => base ≤ q)) (F0 m 0 ls []) := by
  intro x1 σ H locs ls hl g h
  refine lv_iload_n C.1 C.2.1 dX12_back_0 rfl (lv_at hl 1 rfl) ?_
  refine lv_if_lt (tgt := 12) C.1 C.2.1 dX12_back_1 (by decide) (fun c1 => ?_) (fun c1 => ?_)
  · have h := h.1 c1
    refine lv_iconst (v := -1) C.1 C.2.1 dX12_back_12 (by decide) ?_
    exact gx_iret C hr g dX12_back_13 h
  · have h := h.2 c1
    refine lv_iload_n C.1 C.2.1 dX12_back_4 rfl (lv_at hl 1 rfl) ?_
    refine lv_aload_n C.1 C.2.1 dX12_back_5 rfl (lv_at hl 0 rfl) ?_
    refine gx_getI C g fl_X12_189 dX12_back_6 sh_11 rfl ?_
    refine lv_icmp_le (tgt := 14) C.1 C.2.1 dX12_back_9 (by decide) (fun c2 => ?_) (fun c2 => ?_)
    · have h := h.1 c2
      refine lv_aload_n C.1 C.2.1 dX12_back_14 rfl (lv_at hl 0 rfl) ?_
      refine lv_dup C.1 C.2.1 dX12_back_15 rfl ?_
      refine gx_getI C g fl_X12_189 dX12_back_16 sh_11 rfl ?_
      refine lv_iload_n C.1 C.2.1 dX12_back_19 rfl (lv_at hl 1 rfl) ?_
      refine lv_isub C.1 C.2.1 dX12_back_20 ?_
      refine gx_putI C g fi_X12_189 dX12_back_21 sh_11 rfl (fun H locs σ3 eσ3 g => ?_)
      have h := h σ3 eσ3
      refine lv_aload_n C.1 C.2.1 dX12_back_24 rfl (lv_at hl 0 rfl) ?_
      refine gx_getI C g fl_X12_189 dX12_back_25 sh_11 rfl ?_
      exact gx_iret C hr g dX12_back_28 h
    · have h := h.2 c2
      refine lv_iconst (v := -1) C.1 C.2.1 dX12_back_12 (by decide) ?_
      exact gx_iret C hr g dX12_back_13 h
theorem mX12_back {l : Launch} {E : EE} {base : Nat} (x1 : Int32) (σ : St) (Q : Int32 → St → Prop) (h : wX12_back x1 σ Q) : Met l yX12_back (wy yX12_back cX12_back 2 (some .int)) rmX12_back (va_Pc [.ref (ga E 11), .int x1] (fun U => SW E base σ U)) (QI E base Q) (rmX12_back).cells (rmX12_back).slots (fun q => base ≤ q) :=
  met_of (by decide) (Nat.le_of_ble_eq_true rfl) (fun p e s m args below meth c C hr g ls hl => tX12_back_e C hr x1 _ _ _ _ hl g h)
abbrev rmX12_at : Room := { frames := 0, cells := 0, slots := 0, locals := 0 }
def wX12_at (x1 : Int32) (σ : St) (Q : Int32 → St → Prop) : Prop := (((gv σ 11 4) ≤ x1 → Q (0 : Int32) σ) ∧ (¬ ((gv σ 11 4) ≤ x1) → vp_in x1 2000 ∧ Q ((gv σ 49 x1.toNatClampNeg) &&& (255 : Int32)) σ))
set_option maxHeartbeats 4000000 in
set_option maxRecDepth 100000 in
theorem tX12_at_e {p : Program} {l : Launch} {e : Env} {s : State} {m : MethodId} {args : Array Value} {below : List Frame} {meth : Method} {c : Code} {E : EE} {base : Nat} (C : Cx p E base s m args meth c cX12_at 2 RX12) (hr : meth.sig.returnType = (some .int)) {Q : Int32 → St → Prop} : ∀ (x1 : Int32) (σ : St) (H : Heap) (locs : List Loc) (ls : Array Slot), lv_has ls 2 [(0, .ref (ga E 11)), (1, .int x1)] → GW E base s σ H locs → wX12_at x1 σ Q → W p l e rmX12_at s m args below meth c H locs 0 0 (MQ below (QI E base Q) args s 0 0 (fun q => base ≤ q)) (F0 m 0 ls []) := by
  intro x1 σ H locs ls hl g h
  refine lv_iload_n C.1 C.2.1 dX12_at_0 rfl (lv_at hl 1 rfl) ?_
  refine lv_aload_n C.1 C.2.1 dX12_at_1 rfl (lv_at hl 0 rfl) ?_
  refine gx_getI C g fl_X12_196 dX12_at_2 sh_11 rfl ?_
  refine lv_icmp_ge (tgt := 21) C.1 C.2.1 dX12_at_5 (by decide) (fun c1 => ?_) (fun c1 => ?_)
  · have h := h.1 c1
    refine lv_iconst (v := 0) C.1 C.2.1 dX12_at_21 (by decide) ?_
    exact gx_iret C hr g dX12_at_22 h
  · have h := h.2 c1
    refine lv_aload_n C.1 C.2.1 dX12_at_8 rfl (lv_at hl 0 rfl) ?_
    refine gx_getR C g fl_X12_17 dX12_at_9 sh_11 rfl (by decide) ?_
    refine lv_iload_n C.1 C.2.1 dX12_at_12 rfl (lv_at hl 1 rfl) ?_
    obtain ⟨i2, h⟩ := h
    refine gx_bald C g dX12_at_13 sh_49 i2 ?_
    refine lv_sipush (v := 255) C.1 C.2.1 dX12_at_14 (by decide) ?_
    refine lv_iand C.1 C.2.1 dX12_at_17 ?_
    refine lv_goto (tgt := 22) C.1 C.2.1 dX12_at_18 (by decide) ?_
    exact gx_iret C hr g dX12_at_22 h
theorem mX12_at {l : Launch} {E : EE} {base : Nat} (x1 : Int32) (σ : St) (Q : Int32 → St → Prop) (h : wX12_at x1 σ Q) : Met l yX12_at (wy yX12_at cX12_at 2 (some .int)) rmX12_at (va_Pc [.ref (ga E 11), .int x1] (fun U => SW E base σ U)) (QI E base Q) (rmX12_at).cells (rmX12_at).slots (fun q => base ≤ q) :=
  met_of (by decide) (Nat.le_of_ble_eq_true rfl) (fun p e s m args below meth c C hr g ls hl => tX12_at_e C hr x1 _ _ _ _ hl g h)
abbrev rmX12_isDigit : Room := { frames := 0, cells := 0, slots := 0, locals := 0 }
def wX12_isDigit (x0 : Int32) (σ : St) (Q : Int32 → St → Prop) : Prop := ((x0 < (48 : Int32) → Q (0 : Int32) σ) ∧ (¬ (x0 < (48 : Int32)) → (((57 : Int32) < x0 → Q (0 : Int32) σ) ∧ (¬ ((57 : Int32) < x0) → Q (1 : Int32) σ))))
set_option maxHeartbeats 4000000 in
set_option maxRecDepth 100000 in
theorem tX12_isDigit_e {p : Program} {l : Launch} {e : Env} {s : State} {m : MethodId} {args : Array Value} {below : List Frame} {meth : Method} {c : Code} {E : EE} {base : Nat} (C : Cx p E base s m args meth c cX12_isDigit 1 RX12) (hr : meth.sig.returnType = (some .boolean)) {Q : Int32 → St → Prop} : ∀ (x0 : Int32) (σ : St) (H : Heap) (locs : List Loc) (ls : Array Slot), lv_has ls 1 [(0, .int x0)] → GW E base s σ H locs → wX12_isDigit x0 σ Q → W p l e rmX12_isDigit s m args below meth c H locs 0 0 (MQ below (QI E base Q) args s 0 0 (fun q => base ≤ q)) (F0 m 0 ls []) := by
  intro x0 σ H locs ls hl g h
  refine lv_iload_n C.1 C.2.1 dX12_isDigit_0 rfl (lv_at hl 0 rfl) ?_
  refine lv_bipush (v := 48) C.1 C.2.1 dX12_isDigit_1 (by decide) ?_
  refine lv_icmp_lt (tgt := 16) C.1 C.2.1 dX12_isDigit_3 (by decide) (fun c1 => ?_) (fun c1 => ?_)
  · have h := h.1 c1
    refine lv_iconst (v := 0) C.1 C.2.1 dX12_isDigit_16 (by decide) ?_
    exact gx_zret C hr g dX12_isDigit_17 (by decide) h
  · have h := h.2 c1
    refine lv_iload_n C.1 C.2.1 dX12_isDigit_6 rfl (lv_at hl 0 rfl) ?_
    refine lv_bipush (v := 57) C.1 C.2.1 dX12_isDigit_7 (by decide) ?_
    refine lv_icmp_gt (tgt := 16) C.1 C.2.1 dX12_isDigit_9 (by decide) (fun c2 => ?_) (fun c2 => ?_)
    · have h := h.1 c2
      refine lv_iconst (v := 0) C.1 C.2.1 dX12_isDigit_16 (by decide) ?_
      exact gx_zret C hr g dX12_isDigit_17 (by decide) h
    · have h := h.2 c2
      refine lv_iconst (v := 1) C.1 C.2.1 dX12_isDigit_12 (by decide) ?_
      refine lv_goto (tgt := 17) C.1 C.2.1 dX12_isDigit_13 (by decide) ?_
      exact gx_zret C hr g dX12_isDigit_17 (by decide) h
theorem mX12_isDigit {l : Launch} {E : EE} {base : Nat} (x0 : Int32) (σ : St) (Q : Int32 → St → Prop) (h : wX12_isDigit x0 σ Q) : Met l yX12_isDigit (wy yX12_isDigit cX12_isDigit 1 (some .boolean)) rmX12_isDigit (va_Pc [.int x0] (fun U => SW E base σ U)) (QI E base Q) (rmX12_isDigit).cells (rmX12_isDigit).slots (fun q => base ≤ q) :=
  met_of (by decide) (Nat.le_of_ble_eq_true rfl) (fun p e s m args below meth c C hr g ls hl => tX12_isDigit_e C hr x0 _ _ _ _ hl g h)
abbrev rmX12_isLetter : Room := { frames := 0, cells := 0, slots := 0, locals := 0 }
def wX12_isLetter (x0 : Int32) (σ : St) (Q : Int32 → St → Prop) : Prop := ((x0 < (97 : Int32) → Q (0 : Int32) σ) ∧ (¬ (x0 < (97 : Int32)) → (((122 : Int32) < x0 → Q (0 : Int32) σ) ∧ (¬ ((122 : Int32) < x0) → Q (1 : Int32) σ))))
set_option maxHeartbeats 4000000 in
set_option maxRecDepth 100000 in
theorem tX12_isLetter_e {p : Program} {l : Launch} {e : Env} {s : State} {m : MethodId} {args : Array Value} {below : List Frame} {meth : Method} {c : Code} {E : EE} {base : Nat} (C : Cx p E base s m args meth c cX12_isLetter 1 RX12) (hr : meth.sig.returnType = (some .boolean)) {Q : Int32 → St → Prop} : ∀ (x0 : Int32) (σ : St) (H : Heap) (locs : List Loc) (ls : Array Slot), lv_has ls 1 [(0, .int x0)] → GW E base s σ H locs → wX12_isLetter x0 σ Q → W p l e rmX12_isLetter s m args below meth c H locs 0 0 (MQ below (QI E base Q) args s 0 0 (fun q => base ≤ q)) (F0 m 0 ls []) := by
  intro x0 σ H locs ls hl g h
  refine lv_iload_n C.1 C.2.1 dX12_isLetter_0 rfl (lv_at hl 0 rfl) ?_
  refine lv_bipush (v := 97) C.1 C.2.1 dX12_isLetter_1 (by decide) ?_
  refine lv_icmp_lt (tgt := 16) C.1 C.2.1 dX12_isLetter_3 (by decide) (fun c1 => ?_) (fun c1 => ?_)
  · have h := h.1 c1
    refine lv_iconst (v := 0) C.1 C.2.1 dX12_isLetter_16 (by decide) ?_
    exact gx_zret C hr g dX12_isLetter_17 (by decide) h
  · have h := h.2 c1
    refine lv_iload_n C.1 C.2.1 dX12_isLetter_6 rfl (lv_at hl 0 rfl) ?_
    refine lv_bipush (v := 122) C.1 C.2.1 dX12_isLetter_7 (by decide) ?_
    refine lv_icmp_gt (tgt := 16) C.1 C.2.1 dX12_isLetter_9 (by decide) (fun c2 => ?_) (fun c2 => ?_)
    · have h := h.1 c2
      refine lv_iconst (v := 0) C.1 C.2.1 dX12_isLetter_16 (by decide) ?_
      exact gx_zret C hr g dX12_isLetter_17 (by decide) h
    · have h := h.2 c2
      refine lv_iconst (v := 1) C.1 C.2.1 dX12_isLetter_12 (by decide) ?_
      refine lv_goto (tgt := 17) C.1 C.2.1 dX12_isLetter_13 (by decide) ?_
      exact gx_zret C hr g dX12_isLetter_17 (by decide) h
theorem mX12_isLetter {l : Launch} {E : EE} {base : Nat} (x0 : Int32) (σ : St) (Q : Int32 → St → Prop) (h : wX12_isLetter x0 σ Q) : Met l yX12_isLetter (wy yX12_isLetter cX12_isLetter 1 (some .boolean)) rmX12_isLetter (va_Pc [.int x0] (fun U => SW E base σ U)) (QI E base Q) (rmX12_isLetter).cells (rmX12_isLetter).slots (fun q => base ≤ q) :=
  met_of (by decide) (Nat.le_of_ble_eq_true rfl) (fun p e s m args below meth c C hr g ls hl => tX12_isLetter_e C hr x0 _ _ _ _ hl g h)
abbrev rmX12_more : Room := { frames := 0, cells := 0, slots := 0, locals := 0 }
def wX12_more (y0 : Int64) (x2 : Int32) (σ : St) (Q : Int64 → St → Prop) : Prop := ((x2 = 0 → Q y0 σ) ∧ (¬ (x2 = 0) → Q (((27 : Int64) * y0) + (((x2 - (97 : Int32)) + (1 : Int32)).toInt64)) σ))
set_option maxHeartbeats 4000000 in
set_option maxRecDepth 100000 in
theorem tX12_more_e {p : Program} {l : Launch} {e : Env} {s : State} {m : MethodId} {args : Array Value} {below : List Frame} {meth : Method} {c : Code} {E : EE} {base : Nat} (C : Cx p E base s m args meth c cX12_more 3 RX12) (hr : meth.sig.returnType = (some .long)) {Q : Int64 → St → Prop} : ∀ (y0 : Int64) (x2 : Int32) (σ : St) (H : Heap) (locs : List Loc) (ls : Array Slot), lv_has ls 3 [(0, .long y0), (2, .int x2)] → GW E base s σ H locs → wX12_more y0 x2 σ Q → W p l e rmX12_more s m args below meth c H locs 0 0 (MQ below (QL E base Q) args s 0 0 (fun q => base ≤ q)) (F0 m 0 ls []) := by
  intro y0 x2 σ H locs ls hl g h
  refine lv_iload_n C.1 C.2.1 dX12_more_0 rfl (lv_at hl 1 rfl) ?_
  refine lv_if_ne (tgt := 8) C.1 C.2.1 dX12_more_1 (by decide) (fun c1 => ?_) (fun c1 => ?_)
  · have h := h.2 c1
    refine gx_ldc2 C ck_X12_199 dX12_more_8 ?_
    refine lv_lload_n C.1 C.2.1 dX12_more_11 rfl (lv_at hl 0 rfl) ?_
    refine lv_lmul C.1 C.2.1 dX12_more_12 ?_
    refine lv_iload_n C.1 C.2.1 dX12_more_13 rfl (lv_at hl 1 rfl) ?_
    refine lv_bipush (v := 97) C.1 C.2.1 dX12_more_14 (by decide) ?_
    refine lv_isub C.1 C.2.1 dX12_more_16 ?_
    refine lv_iconst (v := 1) C.1 C.2.1 dX12_more_17 (by decide) ?_
    refine lv_iadd C.1 C.2.1 dX12_more_18 ?_
    refine lv_i2l C.1 C.2.1 dX12_more_19 rfl ?_
    refine lv_ladd C.1 C.2.1 dX12_more_20 ?_
    exact gx_lret C hr g dX12_more_21 h
  · have h := h.1 c1
    refine lv_lload_n C.1 C.2.1 dX12_more_4 rfl (lv_at hl 0 rfl) ?_
    refine lv_goto (tgt := 21) C.1 C.2.1 dX12_more_5 (by decide) ?_
    exact gx_lret C hr g dX12_more_21 h
theorem mX12_more {l : Launch} {E : EE} {base : Nat} (y0 : Int64) (x2 : Int32) (σ : St) (Q : Int64 → St → Prop) (h : wX12_more y0 x2 σ Q) : Met l yX12_more (wy yX12_more cX12_more 3 (some .long)) rmX12_more (va_Pc [.long y0, .int x2] (fun U => SW E base σ U)) (QL E base Q) (rmX12_more).cells (rmX12_more).slots (fun q => base ≤ q) :=
  met_of (by decide) (Nat.le_of_ble_eq_true rfl) (fun p e s m args below meth c C hr g ls hl => tX12_more_e C hr y0 x2 _ _ _ _ hl g h)
abbrev rmX12_word : Room := { frames := 1, cells := 0, slots := 0, locals := 22 }
def wX12_word (x0 : Int32) (x1 : Int32) (x2 : Int32) (x3 : Int32) (x4 : Int32) (σ : St) (Q : Int64 → St → Prop) : Prop := wX12_more (0 : Int64) x0 σ (fun (r1 : Int64) (σ2 : St) => wX12_more r1 x1 σ2 (fun (r3 : Int64) (σ4 : St) => wX12_more r3 x2 σ4 (fun (r5 : Int64) (σ6 : St) => wX12_more r5 x3 σ6 (fun (r7 : Int64) (σ8 : St) => wX12_more r7 x4 σ8 (fun (r9 : Int64) (σ10 : St) => Q r9 σ10)))))
set_option maxHeartbeats 4000000 in
set_option maxRecDepth 100000 in
theorem tX12_word_e {p : Program} {l : Launch} {e : Env} {s : State} {m : MethodId} {args : Array Value} {below : List Frame} {meth : Method} {c : Code} {E : EE} {base : Nat} (C : Cx p E base s m args meth c cX12_word 5 RX12) (hr : meth.sig.returnType = (some .long)) {Q : Int64 → St → Prop} : ∀ (x0 : Int32) (x1 : Int32) (x2 : Int32) (x3 : Int32) (x4 : Int32) (σ : St) (H : Heap) (locs : List Loc) (ls : Array Slot), lv_has ls 5 [(0, .int x0), (1, .int x1), (2, .int x2), (3, .int x3), (4, .int x4)] → GW E base s σ H locs → wX12_word x0 x1 x2 x3 x4 σ Q → W p l e rmX12_word s m args below meth c H locs 0 0 (MQ below (QL E base Q) args s 0 0 (fun q => base ≤ q)) (F0 m 0 ls []) := by
  intro x0 x1 x2 x3 x4 σ H locs ls hl g h
  refine lv_lconst (v := 0) C.1 C.2.1 dX12_word_0 (by decide) ?_
  refine lv_iload_n C.1 C.2.1 dX12_word_1 rfl (lv_at hl 0 rfl) ?_
  refine gx_calll0 g (gx_runS (rest := []) C g ms_X12_more ml_X12_201 (mX12_more (0 : Int64) x0 _ _ h) ⟨Nat.le_of_ble_eq_true rfl, Nat.le_of_ble_eq_true rfl⟩ ⟨Nat.le_refl _, Nat.le_refl _⟩ rfl hl.1 rfl (Nat.le_of_ble_eq_true rfl) dX12_word_2) rfl rfl (fun r1 σ2 H locs h g => ?_)
  refine lv_iload_n C.1 C.2.1 dX12_word_5 rfl (lv_at hl 1 rfl) ?_
  refine gx_calll0 g (gx_runS (rest := []) C g ms_X12_more ml_X12_201 (mX12_more r1 x1 _ _ h) ⟨Nat.le_of_ble_eq_true rfl, Nat.le_of_ble_eq_true rfl⟩ ⟨Nat.le_refl _, Nat.le_refl _⟩ rfl hl.1 rfl (Nat.le_of_ble_eq_true rfl) dX12_word_6) rfl rfl (fun r3 σ4 H locs h g => ?_)
  refine lv_iload_n C.1 C.2.1 dX12_word_9 rfl (lv_at hl 2 rfl) ?_
  refine gx_calll0 g (gx_runS (rest := []) C g ms_X12_more ml_X12_201 (mX12_more r3 x2 _ _ h) ⟨Nat.le_of_ble_eq_true rfl, Nat.le_of_ble_eq_true rfl⟩ ⟨Nat.le_refl _, Nat.le_refl _⟩ rfl hl.1 rfl (Nat.le_of_ble_eq_true rfl) dX12_word_10) rfl rfl (fun r5 σ6 H locs h g => ?_)
  refine lv_iload_n C.1 C.2.1 dX12_word_13 rfl (lv_at hl 3 rfl) ?_
  refine gx_calll0 g (gx_runS (rest := []) C g ms_X12_more ml_X12_201 (mX12_more r5 x3 _ _ h) ⟨Nat.le_of_ble_eq_true rfl, Nat.le_of_ble_eq_true rfl⟩ ⟨Nat.le_refl _, Nat.le_refl _⟩ rfl hl.1 rfl (Nat.le_of_ble_eq_true rfl) dX12_word_14) rfl rfl (fun r7 σ8 H locs h g => ?_)
  refine lv_iload C.1 C.2.1 dX12_word_17 (lv_at hl 4 rfl) ?_
  refine gx_calll0 g (gx_runS (rest := []) C g ms_X12_more ml_X12_201 (mX12_more r7 x4 _ _ h) ⟨Nat.le_of_ble_eq_true rfl, Nat.le_of_ble_eq_true rfl⟩ ⟨Nat.le_refl _, Nat.le_refl _⟩ rfl hl.1 rfl (Nat.le_of_ble_eq_true rfl) dX12_word_19) rfl rfl (fun r9 σ10 H locs h g => ?_)
  exact gx_lret C hr g dX12_word_22 h
theorem mX12_word {l : Launch} {E : EE} {base : Nat} (x0 : Int32) (x1 : Int32) (x2 : Int32) (x3 : Int32) (x4 : Int32) (σ : St) (Q : Int64 → St → Prop) (h : wX12_word x0 x1 x2 x3 x4 σ Q) : Met l yX12_word (wy yX12_word cX12_word 5 (some .long)) rmX12_word (va_Pc [.int x0, .int x1, .int x2, .int x3, .int x4] (fun U => SW E base σ U)) (QL E base Q) (rmX12_word).cells (rmX12_word).slots (fun q => base ≤ q) :=
  met_of (by decide) (Nat.le_of_ble_eq_true rfl) (fun p e s m args below meth c C hr g ls hl => tX12_word_e C hr x0 x1 x2 x3 x4 _ _ _ _ hl g h)
abbrev rmX12_token : Room := { frames := 0, cells := 0, slots := 0, locals := 0 }
def wX12_token (x1 : Int32) (x2 : Int32) (x3 : Int32) (y4 : Int64) (σ : St) (Q : St → Prop) : Prop := vp_in (gv σ 11 10) 603 ∧ ∀ σ2 : St, σ2 = pv σ 50 (gv σ 11 10).toNatClampNeg x1 → vp_in (gv σ2 11 10) 603 ∧ ∀ σ4 : St, σ4 = pv σ2 51 (gv σ2 11 10).toNatClampNeg x2 → vp_in (gv σ4 11 10) 603 ∧ ∀ σ6 : St, σ6 = pv σ4 52 (gv σ4 11 10).toNatClampNeg x3 → vp_in (gv σ6 11 10) 603 ∧ ∀ σ8 : St, σ8 = pw σ6 53 (gv σ6 11 10).toNatClampNeg y4 → ∀ σ9 : St, σ9 = pv σ8 11 10 ((gv σ8 11 10) + (1 : Int32)) → Q σ9
set_option maxHeartbeats 4000000 in
set_option maxRecDepth 100000 in
theorem tX12_token_e {p : Program} {l : Launch} {e : Env} {s : State} {m : MethodId} {args : Array Value} {below : List Frame} {meth : Method} {c : Code} {E : EE} {base : Nat} (C : Cx p E base s m args meth c cX12_token 6 RX12) (hr : meth.sig.returnType = none) {Q : St → Prop} : ∀ (x1 : Int32) (x2 : Int32) (x3 : Int32) (y4 : Int64) (σ : St) (H : Heap) (locs : List Loc) (ls : Array Slot), lv_has ls 6 [(0, .ref (ga E 11)), (1, .int x1), (2, .int x2), (3, .int x3), (4, .long y4)] → GW E base s σ H locs → wX12_token x1 x2 x3 y4 σ Q → W p l e rmX12_token s m args below meth c H locs 0 0 (MQ below (QV E base Q) args s 0 0 (fun q => base ≤ q)) (F0 m 0 ls []) := by
  intro x1 x2 x3 y4 σ H locs ls hl g h
  refine lv_aload_n C.1 C.2.1 dX12_token_0 rfl (lv_at hl 0 rfl) ?_
  refine gx_getR C g fl_X12_20 dX12_token_1 sh_11 rfl (by decide) ?_
  refine lv_aload_n C.1 C.2.1 dX12_token_4 rfl (lv_at hl 0 rfl) ?_
  refine gx_getI C g fl_X12_205 dX12_token_5 sh_11 rfl ?_
  refine lv_iload_n C.1 C.2.1 dX12_token_8 rfl (lv_at hl 1 rfl) ?_
  obtain ⟨i1, h⟩ := h
  refine gx_iast C g dX12_token_9 sh_50 i1 (fun H locs σ2 eσ2 g => ?_)
  have h := h σ2 eσ2
  refine lv_aload_n C.1 C.2.1 dX12_token_10 rfl (lv_at hl 0 rfl) ?_
  refine gx_getR C g fl_X12_24 dX12_token_11 sh_11 rfl (by decide) ?_
  refine lv_aload_n C.1 C.2.1 dX12_token_14 rfl (lv_at hl 0 rfl) ?_
  refine gx_getI C g fl_X12_205 dX12_token_15 sh_11 rfl ?_
  refine lv_iload_n C.1 C.2.1 dX12_token_18 rfl (lv_at hl 2 rfl) ?_
  obtain ⟨i3, h⟩ := h
  refine gx_iast C g dX12_token_19 sh_51 i3 (fun H locs σ4 eσ4 g => ?_)
  have h := h σ4 eσ4
  refine lv_aload_n C.1 C.2.1 dX12_token_20 rfl (lv_at hl 0 rfl) ?_
  refine gx_getR C g fl_X12_27 dX12_token_21 sh_11 rfl (by decide) ?_
  refine lv_aload_n C.1 C.2.1 dX12_token_24 rfl (lv_at hl 0 rfl) ?_
  refine gx_getI C g fl_X12_205 dX12_token_25 sh_11 rfl ?_
  refine lv_iload_n C.1 C.2.1 dX12_token_28 rfl (lv_at hl 3 rfl) ?_
  obtain ⟨i5, h⟩ := h
  refine gx_iast C g dX12_token_29 sh_52 i5 (fun H locs σ6 eσ6 g => ?_)
  have h := h σ6 eσ6
  refine lv_aload_n C.1 C.2.1 dX12_token_30 rfl (lv_at hl 0 rfl) ?_
  refine gx_getR C g fl_X12_30 dX12_token_31 sh_11 rfl (by decide) ?_
  refine lv_aload_n C.1 C.2.1 dX12_token_34 rfl (lv_at hl 0 rfl) ?_
  refine gx_getI C g fl_X12_205 dX12_token_35 sh_11 rfl ?_
  refine lv_lload C.1 C.2.1 dX12_token_38 (lv_at hl 4 rfl) ?_
  obtain ⟨i7, h⟩ := h
  refine gx_last C g dX12_token_40 sh_53 i7 (fun H locs σ8 eσ8 g => ?_)
  have h := h σ8 eσ8
  refine lv_aload_n C.1 C.2.1 dX12_token_41 rfl (lv_at hl 0 rfl) ?_
  refine lv_dup C.1 C.2.1 dX12_token_42 rfl ?_
  refine gx_getI C g fl_X12_205 dX12_token_43 sh_11 rfl ?_
  refine lv_iconst (v := 1) C.1 C.2.1 dX12_token_46 (by decide) ?_
  refine lv_iadd C.1 C.2.1 dX12_token_47 ?_
  refine gx_putI C g fi_X12_205 dX12_token_48 sh_11 rfl (fun H locs σ9 eσ9 g => ?_)
  have h := h σ9 eσ9
  exact gx_vret C hr g dX12_token_51 h
theorem mX12_token {l : Launch} {E : EE} {base : Nat} (x1 : Int32) (x2 : Int32) (x3 : Int32) (y4 : Int64) (σ : St) (Q : St → Prop) (h : wX12_token x1 x2 x3 y4 σ Q) : Met l yX12_token (wy yX12_token cX12_token 6 none) rmX12_token (va_Pc [.ref (ga E 11), .int x1, .int x2, .int x3, .long y4] (fun U => SW E base σ U)) (QV E base Q) (rmX12_token).cells (rmX12_token).slots (fun q => base ≤ q) :=
  met_of (by decide) (Nat.le_of_ble_eq_true rfl) (fun p e s m args below meth c C hr g ls hl => tX12_token_e C hr x1 x2 x3 y4 _ _ _ _ hl g h)
abbrev rmX12_sign : Room := { frames := 1, cells := 0, slots := 0, locals := 25 }
def wX12_sign_160 (Q : Int32 → St → Prop) (x1 : Int32) (x4 : Int32) (x5 : Int32) (σ : St) : Prop := wX12_token x5 x1 (0 : Int32) (0 : Int64) σ (fun (σ2 : St) => ((x4 ≤ 0 → Q (1 : Int32) σ2) ∧ (¬ (x4 ≤ 0) → Q (2 : Int32) σ2)))
def wX12_sign_44 (Q : Int32 → St → Prop) (x1 : Int32) (x2 : Int32) (xt0 : Int32) (σ : St) : Prop := ((xt0 ≤ 0 → ((x2 = (59 : Int32) → wX12_sign_160 Q x1 xt0 (4 : Int32) σ) ∧ (¬ (x2 = (59 : Int32)) → ((x2 = (58 : Int32) → wX12_sign_160 Q x1 xt0 (5 : Int32) σ) ∧ (¬ (x2 = (58 : Int32)) → ((x2 = (40 : Int32) → wX12_sign_160 Q x1 xt0 (6 : Int32) σ) ∧ (¬ (x2 = (40 : Int32)) → ((x2 = (41 : Int32) → wX12_sign_160 Q x1 xt0 (7 : Int32) σ) ∧ (¬ (x2 = (41 : Int32)) → ((x2 = (43 : Int32) → wX12_sign_160 Q x1 xt0 (8 : Int32) σ) ∧ (¬ (x2 = (43 : Int32)) → ((x2 = (45 : Int32) → wX12_sign_160 Q x1 xt0 (9 : Int32) σ) ∧ (¬ (x2 = (45 : Int32)) → ((x2 = (42 : Int32) → wX12_sign_160 Q x1 xt0 (10 : Int32) σ) ∧ (¬ (x2 = (42 : Int32)) → ((x2 = (60 : Int32) → wX12_sign_160 Q x1 xt0 (13 : Int32) σ) ∧ (¬ (x2 = (60 : Int32)) → wX12_sign_160 Q x1 xt0 (3 : Int32) σ))))))))))))))))) ∧ (¬ (xt0 ≤ 0) → wX12_sign_160 Q x1 xt0 xt0 σ))
def wX12_sign (x1 : Int32) (x2 : Int32) (x3 : Int32) (σ : St) (Q : Int32 → St → Prop) : Prop := ((x3 = (61 : Int32) → ((x2 = (61 : Int32) → wX12_sign_44 Q x1 x2 (11 : Int32) σ) ∧ (¬ (x2 = (61 : Int32)) → ((x2 = (33 : Int32) → wX12_sign_44 Q x1 x2 (12 : Int32) σ) ∧ (¬ (x2 = (33 : Int32)) → ((x2 = (60 : Int32) → wX12_sign_44 Q x1 x2 (14 : Int32) σ) ∧ (¬ (x2 = (60 : Int32)) → wX12_sign_44 Q x1 x2 (0 : Int32) σ))))))) ∧ (¬ (x3 = (61 : Int32)) → wX12_sign_44 Q x1 x2 (0 : Int32) σ))
set_option maxHeartbeats 4000000 in
set_option maxRecDepth 100000 in
theorem tX12_sign_160 {p : Program} {l : Launch} {e : Env} {s : State} {m : MethodId} {args : Array Value} {below : List Frame} {meth : Method} {c : Code} {E : EE} {base : Nat} (C : Cx p E base s m args meth c cX12_sign 6 RX12) (hr : meth.sig.returnType = (some .int)) {Q : Int32 → St → Prop} : ∀ (x1 : Int32) (x4 : Int32) (x5 : Int32) (σ : St) (H : Heap) (locs : List Loc) (ls : Array Slot), lv_has ls 6 [(0, .ref (ga E 11)), (1, .int x1), (4, .int x4), (5, .int x5)] → GW E base s σ H locs → wX12_sign_160 Q x1 x4 x5 σ → W p l e rmX12_sign s m args below meth c H locs 0 0 (MQ below (QI E base Q) args s 0 0 (fun q => base ≤ q)) (F0 m 160 ls []) := by
  intro x1 x4 x5 σ H locs ls hl g h
  refine lv_aload_n C.1 C.2.1 dX12_sign_160 rfl (lv_at hl 0 rfl) ?_
  refine lv_iload C.1 C.2.1 dX12_sign_161 (lv_at hl 3 rfl) ?_
  refine lv_iload_n C.1 C.2.1 dX12_sign_163 rfl (lv_at hl 1 rfl) ?_
  refine lv_iconst (v := 0) C.1 C.2.1 dX12_sign_164 (by decide) ?_
  refine lv_lconst (v := 0) C.1 C.2.1 dX12_sign_165 (by decide) ?_
  refine gx_callv0 g (gx_runV (k := 11) (rest := []) C g mb_X12_token ml_X12_212 rfl sh_11 (mX12_token x5 x1 (0 : Int32) (0 : Int64) _ _ h) ⟨Nat.le_of_ble_eq_true rfl, Nat.le_of_ble_eq_true rfl⟩ ⟨Nat.le_refl _, Nat.le_refl _⟩ rfl hl.1 rfl (Nat.le_of_ble_eq_true rfl) dX12_sign_166) rfl rfl (fun σ2 H locs h g => ?_)
  refine lv_iload C.1 C.2.1 dX12_sign_169 (lv_at hl 2 rfl) ?_
  refine lv_if_le (tgt := 178) C.1 C.2.1 dX12_sign_171 (by decide) (fun c3 => ?_) (fun c3 => ?_)
  · have h := h.1 c3
    refine lv_iconst (v := 1) C.1 C.2.1 dX12_sign_178 (by decide) ?_
    exact gx_iret C hr g dX12_sign_179 h
  · have h := h.2 c3
    refine lv_iconst (v := 2) C.1 C.2.1 dX12_sign_174 (by decide) ?_
    refine lv_goto (tgt := 179) C.1 C.2.1 dX12_sign_175 (by decide) ?_
    exact gx_iret C hr g dX12_sign_179 h
set_option maxHeartbeats 4000000 in
set_option maxRecDepth 100000 in
theorem tX12_sign_44 {p : Program} {l : Launch} {e : Env} {s : State} {m : MethodId} {args : Array Value} {below : List Frame} {meth : Method} {c : Code} {E : EE} {base : Nat} (C : Cx p E base s m args meth c cX12_sign 6 RX12) (hr : meth.sig.returnType = (some .int)) {Q : Int32 → St → Prop} : ∀ (x1 : Int32) (x2 : Int32) (xt0 : Int32) (σ : St) (H : Heap) (locs : List Loc) (ls : Array Slot), lv_has ls 6 [(0, .ref (ga E 11)), (1, .int x1), (2, .int x2)] → GW E base s σ H locs → wX12_sign_44 Q x1 x2 xt0 σ → W p l e rmX12_sign s m args below meth c H locs 0 0 (MQ below (QI E base Q) args s 0 0 (fun q => base ≤ q)) (F0 m 44 ls [.int xt0]) := by
  intro x1 x2 xt0 σ H locs ls hl g h
  refine lv_istore (lv' := [(4, .int xt0), (0, .ref (ga E 11)), (1, .int x1), (2, .int x2)]) C.1 C.2.1 dX12_sign_44 hl (by decide) rfl (fun ls hl => ?_)
  refine lv_iconst (v := 3) C.1 C.2.1 dX12_sign_46 (by decide) ?_
  refine lv_istore (lv' := [(5, .int (3 : Int32)), (4, .int xt0), (0, .ref (ga E 11)), (1, .int x1), (2, .int x2)]) C.1 C.2.1 dX12_sign_47 hl (by decide) rfl (fun ls hl => ?_)
  refine lv_iload C.1 C.2.1 dX12_sign_49 (lv_at hl 1 rfl) ?_
  refine lv_if_le (tgt := 61) C.1 C.2.1 dX12_sign_51 (by decide) (fun c1 => ?_) (fun c1 => ?_)
  · have h := h.1 c1
    refine lv_iload_n C.1 C.2.1 dX12_sign_61 rfl (lv_at hl 4 rfl) ?_
    refine lv_bipush (v := 59) C.1 C.2.1 dX12_sign_62 (by decide) ?_
    refine lv_icmp_ne (tgt := 73) C.1 C.2.1 dX12_sign_64 (by decide) (fun c2 => ?_) (fun c2 => ?_)
    · have h := h.2 c2
      refine lv_iload_n C.1 C.2.1 dX12_sign_73 rfl (lv_at hl 4 rfl) ?_
      refine lv_bipush (v := 58) C.1 C.2.1 dX12_sign_74 (by decide) ?_
      refine lv_icmp_ne (tgt := 85) C.1 C.2.1 dX12_sign_76 (by decide) (fun c3 => ?_) (fun c3 => ?_)
      · have h := h.2 c3
        refine lv_iload_n C.1 C.2.1 dX12_sign_85 rfl (lv_at hl 4 rfl) ?_
        refine lv_bipush (v := 40) C.1 C.2.1 dX12_sign_86 (by decide) ?_
        refine lv_icmp_ne (tgt := 98) C.1 C.2.1 dX12_sign_88 (by decide) (fun c4 => ?_) (fun c4 => ?_)
        · have h := h.2 c4
          refine lv_iload_n C.1 C.2.1 dX12_sign_98 rfl (lv_at hl 4 rfl) ?_
          refine lv_bipush (v := 41) C.1 C.2.1 dX12_sign_99 (by decide) ?_
          refine lv_icmp_ne (tgt := 111) C.1 C.2.1 dX12_sign_101 (by decide) (fun c5 => ?_) (fun c5 => ?_)
          · have h := h.2 c5
            refine lv_iload_n C.1 C.2.1 dX12_sign_111 rfl (lv_at hl 4 rfl) ?_
            refine lv_bipush (v := 43) C.1 C.2.1 dX12_sign_112 (by decide) ?_
            refine lv_icmp_ne (tgt := 124) C.1 C.2.1 dX12_sign_114 (by decide) (fun c6 => ?_) (fun c6 => ?_)
            · have h := h.2 c6
              refine lv_iload_n C.1 C.2.1 dX12_sign_124 rfl (lv_at hl 4 rfl) ?_
              refine lv_bipush (v := 45) C.1 C.2.1 dX12_sign_125 (by decide) ?_
              refine lv_icmp_ne (tgt := 137) C.1 C.2.1 dX12_sign_127 (by decide) (fun c7 => ?_) (fun c7 => ?_)
              · have h := h.2 c7
                refine lv_iload_n C.1 C.2.1 dX12_sign_137 rfl (lv_at hl 4 rfl) ?_
                refine lv_bipush (v := 42) C.1 C.2.1 dX12_sign_138 (by decide) ?_
                refine lv_icmp_ne (tgt := 150) C.1 C.2.1 dX12_sign_140 (by decide) (fun c8 => ?_) (fun c8 => ?_)
                · have h := h.2 c8
                  refine lv_iload_n C.1 C.2.1 dX12_sign_150 rfl (lv_at hl 4 rfl) ?_
                  refine lv_bipush (v := 60) C.1 C.2.1 dX12_sign_151 (by decide) ?_
                  refine lv_icmp_ne (tgt := 160) C.1 C.2.1 dX12_sign_153 (by decide) (fun c9 => ?_) (fun c9 => ?_)
                  · have h := h.2 c9
                    exact tX12_sign_160 C hr x1 xt0 (3 : Int32) _ _ _ _ (lv_sub hl [2, 3, 1, 0] rfl) g h
                  · have h := h.1 c9
                    refine lv_bipush (v := 13) C.1 C.2.1 dX12_sign_156 (by decide) ?_
                    refine lv_istore (lv' := [(5, .int (13 : Int32)), (4, .int xt0), (0, .ref (ga E 11)), (1, .int x1), (2, .int x2)]) C.1 C.2.1 dX12_sign_158 hl (by decide) rfl (fun ls hl => ?_)
                    exact tX12_sign_160 C hr x1 xt0 (13 : Int32) _ _ _ _ (lv_sub hl [2, 3, 1, 0] rfl) g h
                · have h := h.1 c8
                  refine lv_bipush (v := 10) C.1 C.2.1 dX12_sign_143 (by decide) ?_
                  refine lv_istore (lv' := [(5, .int (10 : Int32)), (4, .int xt0), (0, .ref (ga E 11)), (1, .int x1), (2, .int x2)]) C.1 C.2.1 dX12_sign_145 hl (by decide) rfl (fun ls hl => ?_)
                  refine lv_goto (tgt := 160) C.1 C.2.1 dX12_sign_147 (by decide) ?_
                  exact tX12_sign_160 C hr x1 xt0 (10 : Int32) _ _ _ _ (lv_sub hl [2, 3, 1, 0] rfl) g h
              · have h := h.1 c7
                refine lv_bipush (v := 9) C.1 C.2.1 dX12_sign_130 (by decide) ?_
                refine lv_istore (lv' := [(5, .int (9 : Int32)), (4, .int xt0), (0, .ref (ga E 11)), (1, .int x1), (2, .int x2)]) C.1 C.2.1 dX12_sign_132 hl (by decide) rfl (fun ls hl => ?_)
                refine lv_goto (tgt := 160) C.1 C.2.1 dX12_sign_134 (by decide) ?_
                exact tX12_sign_160 C hr x1 xt0 (9 : Int32) _ _ _ _ (lv_sub hl [2, 3, 1, 0] rfl) g h
            · have h := h.1 c6
              refine lv_bipush (v := 8) C.1 C.2.1 dX12_sign_117 (by decide) ?_
              refine lv_istore (lv' := [(5, .int (8 : Int32)), (4, .int xt0), (0, .ref (ga E 11)), (1, .int x1), (2, .int x2)]) C.1 C.2.1 dX12_sign_119 hl (by decide) rfl (fun ls hl => ?_)
              refine lv_goto (tgt := 160) C.1 C.2.1 dX12_sign_121 (by decide) ?_
              exact tX12_sign_160 C hr x1 xt0 (8 : Int32) _ _ _ _ (lv_sub hl [2, 3, 1, 0] rfl) g h
          · have h := h.1 c5
            refine lv_bipush (v := 7) C.1 C.2.1 dX12_sign_104 (by decide) ?_
            refine lv_istore (lv' := [(5, .int (7 : Int32)), (4, .int xt0), (0, .ref (ga E 11)), (1, .int x1), (2, .int x2)]) C.1 C.2.1 dX12_sign_106 hl (by decide) rfl (fun ls hl => ?_)
            refine lv_goto (tgt := 160) C.1 C.2.1 dX12_sign_108 (by decide) ?_
            exact tX12_sign_160 C hr x1 xt0 (7 : Int32) _ _ _ _ (lv_sub hl [2, 3, 1, 0] rfl) g h
        · have h := h.1 c4
          refine lv_bipush (v := 6) C.1 C.2.1 dX12_sign_91 (by decide) ?_
          refine lv_istore (lv' := [(5, .int (6 : Int32)), (4, .int xt0), (0, .ref (ga E 11)), (1, .int x1), (2, .int x2)]) C.1 C.2.1 dX12_sign_93 hl (by decide) rfl (fun ls hl => ?_)
          refine lv_goto (tgt := 160) C.1 C.2.1 dX12_sign_95 (by decide) ?_
          exact tX12_sign_160 C hr x1 xt0 (6 : Int32) _ _ _ _ (lv_sub hl [2, 3, 1, 0] rfl) g h
      · have h := h.1 c3
        refine lv_iconst (v := 5) C.1 C.2.1 dX12_sign_79 (by decide) ?_
        refine lv_istore (lv' := [(5, .int (5 : Int32)), (4, .int xt0), (0, .ref (ga E 11)), (1, .int x1), (2, .int x2)]) C.1 C.2.1 dX12_sign_80 hl (by decide) rfl (fun ls hl => ?_)
        refine lv_goto (tgt := 160) C.1 C.2.1 dX12_sign_82 (by decide) ?_
        exact tX12_sign_160 C hr x1 xt0 (5 : Int32) _ _ _ _ (lv_sub hl [2, 3, 1, 0] rfl) g h
    · have h := h.1 c2
      refine lv_iconst (v := 4) C.1 C.2.1 dX12_sign_67 (by decide) ?_
      refine lv_istore (lv' := [(5, .int (4 : Int32)), (4, .int xt0), (0, .ref (ga E 11)), (1, .int x1), (2, .int x2)]) C.1 C.2.1 dX12_sign_68 hl (by decide) rfl (fun ls hl => ?_)
      refine lv_goto (tgt := 160) C.1 C.2.1 dX12_sign_70 (by decide) ?_
      exact tX12_sign_160 C hr x1 xt0 (4 : Int32) _ _ _ _ (lv_sub hl [2, 3, 1, 0] rfl) g h
  · have h := h.2 c1
    refine lv_iload C.1 C.2.1 dX12_sign_54 (lv_at hl 1 rfl) ?_
    refine lv_istore (lv' := [(5, .int xt0), (4, .int xt0), (0, .ref (ga E 11)), (1, .int x1), (2, .int x2)]) C.1 C.2.1 dX12_sign_56 hl (by decide) rfl (fun ls hl => ?_)
    refine lv_goto (tgt := 160) C.1 C.2.1 dX12_sign_58 (by decide) ?_
    exact tX12_sign_160 C hr x1 xt0 xt0 _ _ _ _ (lv_sub hl [2, 3, 1, 0] rfl) g h
set_option maxHeartbeats 4000000 in
set_option maxRecDepth 100000 in
theorem tX12_sign_e {p : Program} {l : Launch} {e : Env} {s : State} {m : MethodId} {args : Array Value} {below : List Frame} {meth : Method} {c : Code} {E : EE} {base : Nat} (C : Cx p E base s m args meth c cX12_sign 6 RX12) (hr : meth.sig.returnType = (some .int)) {Q : Int32 → St → Prop} : ∀ (x1 : Int32) (x2 : Int32) (x3 : Int32) (σ : St) (H : Heap) (locs : List Loc) (ls : Array Slot), lv_has ls 6 [(0, .ref (ga E 11)), (1, .int x1), (2, .int x2), (3, .int x3)] → GW E base s σ H locs → wX12_sign x1 x2 x3 σ Q → W p l e rmX12_sign s m args below meth c H locs 0 0 (MQ below (QI E base Q) args s 0 0 (fun q => base ≤ q)) (F0 m 0 ls []) := by
  intro x1 x2 x3 σ H locs ls hl g h
  refine lv_iload_n C.1 C.2.1 dX12_sign_0 rfl (lv_at hl 3 rfl) ?_
  refine lv_bipush (v := 61) C.1 C.2.1 dX12_sign_1 (by decide) ?_
  refine lv_icmp_eq (tgt := 10) C.1 C.2.1 dX12_sign_3 (by decide) (fun c1 => ?_) (fun c1 => ?_)
  · have h := h.1 c1
    refine lv_iload_n C.1 C.2.1 dX12_sign_10 rfl (lv_at hl 2 rfl) ?_
    refine lv_bipush (v := 61) C.1 C.2.1 dX12_sign_11 (by decide) ?_
    refine lv_icmp_ne (tgt := 21) C.1 C.2.1 dX12_sign_13 (by decide) (fun c2 => ?_) (fun c2 => ?_)
    · have h := h.2 c2
      refine lv_iload_n C.1 C.2.1 dX12_sign_21 rfl (lv_at hl 2 rfl) ?_
      refine lv_bipush (v := 33) C.1 C.2.1 dX12_sign_22 (by decide) ?_
      refine lv_icmp_ne (tgt := 32) C.1 C.2.1 dX12_sign_24 (by decide) (fun c3 => ?_) (fun c3 => ?_)
      · have h := h.2 c3
        refine lv_iload_n C.1 C.2.1 dX12_sign_32 rfl (lv_at hl 2 rfl) ?_
        refine lv_bipush (v := 60) C.1 C.2.1 dX12_sign_33 (by decide) ?_
        refine lv_icmp_ne (tgt := 43) C.1 C.2.1 dX12_sign_35 (by decide) (fun c4 => ?_) (fun c4 => ?_)
        · have h := h.2 c4
          refine lv_iconst (v := 0) C.1 C.2.1 dX12_sign_43 (by decide) ?_
          exact tX12_sign_44 C hr x1 x2 (0 : Int32) _ _ _ _ (lv_sub hl [0, 1, 2] rfl) g h
        · have h := h.1 c4
          refine lv_bipush (v := 14) C.1 C.2.1 dX12_sign_38 (by decide) ?_
          refine lv_goto (tgt := 44) C.1 C.2.1 dX12_sign_40 (by decide) ?_
          exact tX12_sign_44 C hr x1 x2 (14 : Int32) _ _ _ _ (lv_sub hl [0, 1, 2] rfl) g h
      · have h := h.1 c3
        refine lv_bipush (v := 12) C.1 C.2.1 dX12_sign_27 (by decide) ?_
        refine lv_goto (tgt := 44) C.1 C.2.1 dX12_sign_29 (by decide) ?_
        exact tX12_sign_44 C hr x1 x2 (12 : Int32) _ _ _ _ (lv_sub hl [0, 1, 2] rfl) g h
    · have h := h.1 c2
      refine lv_bipush (v := 11) C.1 C.2.1 dX12_sign_16 (by decide) ?_
      refine lv_goto (tgt := 44) C.1 C.2.1 dX12_sign_18 (by decide) ?_
      exact tX12_sign_44 C hr x1 x2 (11 : Int32) _ _ _ _ (lv_sub hl [0, 1, 2] rfl) g h
  · have h := h.2 c1
    refine lv_iconst (v := 0) C.1 C.2.1 dX12_sign_6 (by decide) ?_
    refine lv_goto (tgt := 44) C.1 C.2.1 dX12_sign_7 (by decide) ?_
    exact tX12_sign_44 C hr x1 x2 (0 : Int32) _ _ _ _ (lv_sub hl [0, 1, 2] rfl) g h
theorem mX12_sign {l : Launch} {E : EE} {base : Nat} (x1 : Int32) (x2 : Int32) (x3 : Int32) (σ : St) (Q : Int32 → St → Prop) (h : wX12_sign x1 x2 x3 σ Q) : Met l yX12_sign (wy yX12_sign cX12_sign 6 (some .int)) rmX12_sign (va_Pc [.ref (ga E 11), .int x1, .int x2, .int x3] (fun U => SW E base σ U)) (QI E base Q) (rmX12_sign).cells (rmX12_sign).slots (fun q => base ≤ q) :=
  met_of (by decide) (Nat.le_of_ble_eq_true rfl) (fun p e s m args below meth c C hr g ls hl => tX12_sign_e C hr x1 x2 x3 _ _ _ _ hl g h)
abbrev rmX12_cut : Room := { frames := 2, cells := 0, slots := 0, locals := 50 }
def wX12_cut_290 (Q : St → Prop) (K7 : Int32 → St → Prop) (x1 : Int32) (σ : St) : Prop := K7 x1 σ
def wX12_cut_67 (Q : St → Prop) (K7 : Int32 → St → Prop) (x1 : Int32) (σ : St) : Prop := ∀ x1_1 : Int32, x1_1 = x1 + 1 → wX12_cut_290 Q K7 x1_1 σ
def wX12_cut_260 (Q : St → Prop) (K7 : Int32 → St → Prop) (x1 : Int32) (x3 : Int32) (x4 : Int32) (xt1 : Int32) (σ : St) : Prop := wX12_token xt1 x1 x4 (0 : Int64) σ (fun (σ2 : St) => ∀ x1_3 : Int32, x1_3 = x1 + x3 → wX12_cut_290 Q K7 x1_3 σ2)
def wX12_cut_243 (Q : St → Prop) (K7 : Int32 → St → Prop) (K207 : Int32 → Int32 → Int32 → St → Prop) (x1 : Int32) (x3 : Int32) (x4 : Int32) (σ : St) : Prop := ∀ x3_1 : Int32, x3_1 = x3 + 1 → K207 x1 x3_1 x4 σ
def wX12_cut_207 (Q : St → Prop) (K7 : Int32 → St → Prop) : Nat → Int32 → Int32 → Int32 → St → Prop
  | 0, _, _, _, _ => False
  | n + 1, x1, x3, x4, σ => wX12_at (x1 + x3) σ (fun (r1 : Int32) (σ2 : St) => wX12_isDigit r1 σ2 (fun (r3 : Int32) (σ4 : St) => ((r3 = 0 → ((x3 ≤ (4 : Int32) → wX12_cut_260 Q K7 x1 x3 x4 (2 : Int32) σ4) ∧ (¬ (x3 ≤ (4 : Int32)) → wX12_cut_260 Q K7 x1 x3 x4 (3 : Int32) σ4))) ∧ (¬ (r3 = 0) → (((4 : Int32) ≤ x3 → wX12_cut_243 Q K7 (fun x1' x3' x4' σ' => wX12_cut_207 Q K7 n x1' x3' x4' σ') x1 x3 x4 σ4) ∧ (¬ ((4 : Int32) ≤ x3) → wX12_at (x1 + x3) σ4 (fun (r8 : Int32) (σ9 : St) => ∀ x4_10 : Int32, x4_10 = (((10 : Int32) * x4) + r8) - (48 : Int32) → wX12_cut_243 Q K7 (fun x1' x3' x4' σ' => wX12_cut_207 Q K7 n x1' x3' x4' σ') x1 x3 x4_10 σ9)))))))
def wX12_cut_178 (Q : St → Prop) (K7 : Int32 → St → Prop) (x1 : Int32) (x3 : Int32) (y4 : Int64) (x6 : Int32) (σ : St) : Prop := wX12_token x6 x1 (0 : Int32) y4 σ (fun (σ2 : St) => ∀ x1_3 : Int32, x1_3 = x1 + x3 → wX12_cut_290 Q K7 x1_3 σ2)
def wX12_cut_172 (Q : St → Prop) (K7 : Int32 → St → Prop) (K145 : Int32 → Int32 → Int64 → Int32 → Int32 → St → Prop) (x1 : Int32) (x3 : Int32) (y4 : Int64) (x6 : Int32) (x7 : Int32) (σ : St) : Prop := ∀ x7_1 : Int32, x7_1 = x7 + 1 → K145 x1 x3 y4 x6 x7_1 σ
def wX12_cut_145 (Q : St → Prop) (K7 : Int32 → St → Prop) : Nat → Int32 → Int32 → Int64 → Int32 → Int32 → St → Prop
  | 0, _, _, _, _, _, _ => False
  | n + 1, x1, x3, y4, x6, x7, σ => (((23 : Int32) ≤ x7 → wX12_cut_178 Q K7 x1 x3 y4 x6 σ) ∧ (¬ ((23 : Int32) ≤ x7) → vp_in x7 23 ∧ (((lg_cmp (gw σ 54 x7.toNatClampNeg) y4) = 0 → ∀ x6_4 : Int32, x6_4 = (20 : Int32) + x7 → wX12_cut_172 Q K7 (fun x1' x3' y4' x6' x7' σ' => wX12_cut_145 Q K7 n x1' x3' y4' x6' x7' σ') x1 x3 y4 x6_4 x7 σ) ∧ (¬ ((lg_cmp (gw σ 54 x7.toNatClampNeg) y4) = 0) → wX12_cut_172 Q K7 (fun x1' x3' y4' x6' x7' σ' => wX12_cut_145 Q K7 n x1' x3' y4' x6' x7' σ') x1 x3 y4 x6 x7 σ))))
def wX12_cut_135 (Q : St → Prop) (K7 : Int32 → St → Prop) (x1 : Int32) (x3 : Int32) (y4 : Int64) (xt0 : Int32) (σ : St) : Prop := (((5 : Int32) < x3 → wX12_cut_178 Q K7 x1 x3 y4 xt0 σ) ∧ (¬ ((5 : Int32) < x3) → ∃ j : Nat, wX12_cut_145 Q K7 j x1 x3 y4 xt0 (0 : Int32) σ))
def wX12_cut_118 (Q : St → Prop) (K7 : Int32 → St → Prop) (K85 : Int32 → Int32 → Int64 → St → Prop) (x1 : Int32) (x3 : Int32) (y4 : Int64) (σ : St) : Prop := ∀ x3_1 : Int32, x3_1 = x3 + 1 → K85 x1 x3_1 y4 σ
def wX12_cut_85 (Q : St → Prop) (K7 : Int32 → St → Prop) : Nat → Int32 → Int32 → Int64 → St → Prop
  | 0, _, _, _, _ => False
  | n + 1, x1, x3, y4, σ => wX12_at (x1 + x3) σ (fun (r1 : Int32) (σ2 : St) => wX12_isLetter r1 σ2 (fun (r3 : Int32) (σ4 : St) => ((r3 = 0 → ((x3 ≤ (8 : Int32) → wX12_cut_135 Q K7 x1 x3 y4 (1 : Int32) σ4) ∧ (¬ (x3 ≤ (8 : Int32)) → wX12_cut_135 Q K7 x1 x3 y4 (3 : Int32) σ4))) ∧ (¬ (r3 = 0) → (((8 : Int32) ≤ x3 → wX12_cut_118 Q K7 (fun x1' x3' y4' σ' => wX12_cut_85 Q K7 n x1' x3' y4' σ') x1 x3 y4 σ4) ∧ (¬ ((8 : Int32) ≤ x3) → wX12_at (x1 + x3) σ4 (fun (r8 : Int32) (σ9 : St) => wX12_more y4 r8 σ9 (fun (r10 : Int64) (σ11 : St) => wX12_cut_118 Q K7 (fun x1' x3' y4' σ' => wX12_cut_85 Q K7 n x1' x3' y4' σ') x1 x3 r10 σ11))))))))
def wX12_cut_7 (Q : St → Prop) : Nat → Int32 → St → Prop
  | 0, _, _ => False
  | n + 1, x1, σ => (((600 : Int32) < (gv σ 11 10) → Q σ) ∧ (¬ ((600 : Int32) < (gv σ 11 10)) → wX12_at x1 σ (fun (r2 : Int32) (σ3 : St) => ((x1 < (gv σ3 11 4) → ((r2 = (9 : Int32) → wX12_cut_67 Q (fun x1' σ' => wX12_cut_7 Q n x1' σ') x1 σ3) ∧ (¬ (r2 = (9 : Int32)) → ((r2 = (10 : Int32) → wX12_cut_67 Q (fun x1' σ' => wX12_cut_7 Q n x1' σ') x1 σ3) ∧ (¬ (r2 = (10 : Int32)) → ((r2 = (13 : Int32) → wX12_cut_67 Q (fun x1' σ' => wX12_cut_7 Q n x1' σ') x1 σ3) ∧ (¬ (r2 = (13 : Int32)) → ((r2 = (32 : Int32) → wX12_cut_67 Q (fun x1' σ' => wX12_cut_7 Q n x1' σ') x1 σ3) ∧ (¬ (r2 = (32 : Int32)) → wX12_isLetter r2 σ3 (fun (r9 : Int32) (σ10 : St) => ((r9 = 0 → wX12_isDigit r2 σ10 (fun (r12 : Int32) (σ13 : St) => ((r12 = 0 → wX12_at (x1 + (1 : Int32)) σ13 (fun (r15 : Int32) (σ16 : St) => wX12_sign x1 r2 r15 σ16 (fun (r17 : Int32) (σ18 : St) => ∀ x1_19 : Int32, x1_19 = x1 + r17 → wX12_cut_290 Q (fun x1' σ' => wX12_cut_7 Q n x1' σ') x1_19 σ18))) ∧ (¬ (r12 = 0) → ∃ j : Nat, wX12_cut_207 Q (fun x1' σ' => wX12_cut_7 Q n x1' σ') j x1 (0 : Int32) (0 : Int32) σ13)))) ∧ (¬ (r9 = 0) → ∃ j : Nat, wX12_cut_85 Q (fun x1' σ' => wX12_cut_7 Q n x1' σ') j x1 (0 : Int32) (0 : Int64) σ10)))))))))))) ∧ (¬ (x1 < (gv σ3 11 4)) → wX12_token (0 : Int32) (gv σ3 11 4) (0 : Int32) (0 : Int64) σ3 (fun (σ21 : St) => Q σ21))))))
def wX12_cut (σ : St) (Q : St → Prop) : Prop := ∀ σ1 : St, σ1 = pv σ 11 10 (0 : Int32) → ∃ j : Nat, wX12_cut_7 Q j (0 : Int32) σ1
set_option maxHeartbeats 4000000 in
set_option maxRecDepth 100000 in
theorem tX12_cut_290 {p : Program} {l : Launch} {e : Env} {s : State} {m : MethodId} {args : Array Value} {below : List Frame} {meth : Method} {c : Code} {E : EE} {base : Nat} (C : Cx p E base s m args meth c cX12_cut 8 RX12) (hr : meth.sig.returnType = none) {Q : St → Prop} {K7 : Int32 → St → Prop} (hK7 : ∀ (x1 : Int32) (σ : St) (H : Heap) (locs : List Loc) (ls : Array Slot), lv_has ls 8 [(0, .ref (ga E 11)), (1, .int x1)] → GW E base s σ H locs → K7 x1 σ → W p l e rmX12_cut s m args below meth c H locs 0 0 (MQ below (QV E base Q) args s 0 0 (fun q => base ≤ q)) (F0 m 7 ls [])) : ∀ (x1 : Int32) (σ : St) (H : Heap) (locs : List Loc) (ls : Array Slot), lv_has ls 8 [(0, .ref (ga E 11)), (1, .int x1)] → GW E base s σ H locs → wX12_cut_290 Q K7 x1 σ → W p l e rmX12_cut s m args below meth c H locs 0 0 (MQ below (QV E base Q) args s 0 0 (fun q => base ≤ q)) (F0 m 290 ls []) := by
  intro x1 σ H locs ls hl g h
  refine lv_goto (tgt := 7) C.1 C.2.1 dX12_cut_290 (by decide) ?_
  exact hK7 x1 _ _ _ _ (lv_sub hl [0, 1] rfl) g h
set_option maxHeartbeats 4000000 in
set_option maxRecDepth 100000 in
theorem tX12_cut_67 {p : Program} {l : Launch} {e : Env} {s : State} {m : MethodId} {args : Array Value} {below : List Frame} {meth : Method} {c : Code} {E : EE} {base : Nat} (C : Cx p E base s m args meth c cX12_cut 8 RX12) (hr : meth.sig.returnType = none) {Q : St → Prop} {K7 : Int32 → St → Prop} (hK7 : ∀ (x1 : Int32) (σ : St) (H : Heap) (locs : List Loc) (ls : Array Slot), lv_has ls 8 [(0, .ref (ga E 11)), (1, .int x1)] → GW E base s σ H locs → K7 x1 σ → W p l e rmX12_cut s m args below meth c H locs 0 0 (MQ below (QV E base Q) args s 0 0 (fun q => base ≤ q)) (F0 m 7 ls [])) : ∀ (x1 : Int32) (σ : St) (H : Heap) (locs : List Loc) (ls : Array Slot), lv_has ls 8 [(0, .ref (ga E 11)), (1, .int x1)] → GW E base s σ H locs → wX12_cut_67 Q K7 x1 σ → W p l e rmX12_cut s m args below meth c H locs 0 0 (MQ below (QV E base Q) args s 0 0 (fun q => base ≤ q)) (F0 m 67 ls []) := by
  intro x1 σ H locs ls hl g h
  obtain ⟨x1_1, ex1_1⟩ : ∃ y : Int32, y = x1 + 1 := ⟨_, rfl⟩
  have h := h x1_1 ex1_1
  refine lv_iinc (v := x1_1) (lv' := [(1, .int x1_1), (0, .ref (ga E 11))]) C.1 C.2.1 dX12_cut_67 hl (k := 1) rfl (by rw [ex1_1]; rfl) (by decide) rfl (fun ls hl => ?_)
  refine lv_goto (tgt := 290) C.1 C.2.1 dX12_cut_70 (by decide) ?_
  exact tX12_cut_290 C hr hK7 x1_1 _ _ _ _ (lv_sub hl [1, 0] rfl) g h
set_option maxHeartbeats 4000000 in
set_option maxRecDepth 100000 in
theorem tX12_cut_260 {p : Program} {l : Launch} {e : Env} {s : State} {m : MethodId} {args : Array Value} {below : List Frame} {meth : Method} {c : Code} {E : EE} {base : Nat} (C : Cx p E base s m args meth c cX12_cut 8 RX12) (hr : meth.sig.returnType = none) {Q : St → Prop} {K7 : Int32 → St → Prop} (hK7 : ∀ (x1 : Int32) (σ : St) (H : Heap) (locs : List Loc) (ls : Array Slot), lv_has ls 8 [(0, .ref (ga E 11)), (1, .int x1)] → GW E base s σ H locs → K7 x1 σ → W p l e rmX12_cut s m args below meth c H locs 0 0 (MQ below (QV E base Q) args s 0 0 (fun q => base ≤ q)) (F0 m 7 ls [])) : ∀ (x1 : Int32) (x3 : Int32) (x4 : Int32) (xt1 : Int32) (σ : St) (H : Heap) (locs : List Loc) (ls : Array Slot), lv_has ls 8 [(0, .ref (ga E 11)), (1, .int x1), (3, .int x3), (4, .int x4)] → GW E base s σ H locs → wX12_cut_260 Q K7 x1 x3 x4 xt1 σ → W p l e rmX12_cut s m args below meth c H locs 0 0 (MQ below (QV E base Q) args s 0 0 (fun q => base ≤ q)) (F0 m 260 ls [.int xt1, .ref (ga E 11)]) := by
  intro x1 x3 x4 xt1 σ H locs ls hl g h
  refine lv_iload_n C.1 C.2.1 dX12_cut_260 rfl (lv_at hl 1 rfl) ?_
  refine lv_iload C.1 C.2.1 dX12_cut_261 (lv_at hl 3 rfl) ?_
  refine lv_lconst (v := 0) C.1 C.2.1 dX12_cut_263 (by decide) ?_
  refine gx_callv0 g (gx_runV (k := 11) (rest := []) C g mb_X12_token ml_X12_212 rfl sh_11 (mX12_token xt1 x1 x4 (0 : Int64) _ _ h) ⟨Nat.le_of_ble_eq_true rfl, Nat.le_of_ble_eq_true rfl⟩ ⟨Nat.le_refl _, Nat.le_refl _⟩ rfl hl.1 rfl (Nat.le_of_ble_eq_true rfl) dX12_cut_264) rfl rfl (fun σ2 H locs h g => ?_)
  refine lv_iload_n C.1 C.2.1 dX12_cut_267 rfl (lv_at hl 1 rfl) ?_
  refine lv_iload_n C.1 C.2.1 dX12_cut_268 rfl (lv_at hl 2 rfl) ?_
  refine lv_iadd C.1 C.2.1 dX12_cut_269 ?_
  refine lv_topi (fun x1_3 ex1_3 => ?_)
  have h := h x1_3 ex1_3
  refine lv_istore_n (lv' := [(1, .int x1_3), (0, .ref (ga E 11)), (3, .int x3), (4, .int x4)]) C.1 C.2.1 dX12_cut_270 rfl hl (by decide) rfl (fun ls hl => ?_)
  refine lv_goto (tgt := 290) C.1 C.2.1 dX12_cut_271 (by decide) ?_
  exact tX12_cut_290 C hr hK7 x1_3 _ _ _ _ (lv_sub hl [1, 0] rfl) g h
set_option maxHeartbeats 4000000 in
set_option maxRecDepth 100000 in
theorem tX12_cut_243 {p : Program} {l : Launch} {e : Env} {s : State} {m : MethodId} {args : Array Value} {below : List Frame} {meth : Method} {c : Code} {E : EE} {base : Nat} (C : Cx p E base s m args meth c cX12_cut 8 RX12) (hr : meth.sig.returnType = none) {Q : St → Prop} {K7 : Int32 → St → Prop} (hK7 : ∀ (x1 : Int32) (σ : St) (H : Heap) (locs : List Loc) (ls : Array Slot), lv_has ls 8 [(0, .ref (ga E 11)), (1, .int x1)] → GW E base s σ H locs → K7 x1 σ → W p l e rmX12_cut s m args below meth c H locs 0 0 (MQ below (QV E base Q) args s 0 0 (fun q => base ≤ q)) (F0 m 7 ls [])) {K207 : Int32 → Int32 → Int32 → St → Prop} (hK207 : ∀ (x1 : Int32) (x3 : Int32) (x4 : Int32) (σ : St) (H : Heap) (locs : List Loc) (ls : Array Slot), lv_has ls 8 [(0, .ref (ga E 11)), (1, .int x1), (3, .int x3), (4, .int x4)] → GW E base s σ H locs → K207 x1 x3 x4 σ → W p l e rmX12_cut s m args below meth c H locs 0 0 (MQ below (QV E base Q) args s 0 0 (fun q => base ≤ q)) (F0 m 207 ls [])) : ∀ (x1 : Int32) (x3 : Int32) (x4 : Int32) (σ : St) (H : Heap) (locs : List Loc) (ls : Array Slot), lv_has ls 8 [(0, .ref (ga E 11)), (1, .int x1), (3, .int x3), (4, .int x4)] → GW E base s σ H locs → wX12_cut_243 Q K7 K207 x1 x3 x4 σ → W p l e rmX12_cut s m args below meth c H locs 0 0 (MQ below (QV E base Q) args s 0 0 (fun q => base ≤ q)) (F0 m 243 ls []) := by
  intro x1 x3 x4 σ H locs ls hl g h
  obtain ⟨x3_1, ex3_1⟩ : ∃ y : Int32, y = x3 + 1 := ⟨_, rfl⟩
  have h := h x3_1 ex3_1
  refine lv_iinc (v := x3_1) (lv' := [(3, .int x3_1), (0, .ref (ga E 11)), (1, .int x1), (4, .int x4)]) C.1 C.2.1 dX12_cut_243 hl (k := 2) rfl (by rw [ex3_1]; rfl) (by decide) rfl (fun ls hl => ?_)
  refine lv_goto (tgt := 207) C.1 C.2.1 dX12_cut_246 (by decide) ?_
  exact hK207 x1 x3_1 x4 _ _ _ _ (lv_sub hl [1, 2, 0, 3] rfl) g h
set_option maxHeartbeats 4000000 in
set_option maxRecDepth 100000 in
theorem tX12_cut_207 {p : Program} {l : Launch} {e : Env} {s : State} {m : MethodId} {args : Array Value} {below : List Frame} {meth : Method} {c : Code} {E : EE} {base : Nat} (C : Cx p E base s m args meth c cX12_cut 8 RX12) (hr : meth.sig.returnType = none) {Q : St → Prop} {K7 : Int32 → St → Prop} (hK7 : ∀ (x1 : Int32) (σ : St) (H : Heap) (locs : List Loc) (ls : Array Slot), lv_has ls 8 [(0, .ref (ga E 11)), (1, .int x1)] → GW E base s σ H locs → K7 x1 σ → W p l e rmX12_cut s m args below meth c H locs 0 0 (MQ below (QV E base Q) args s 0 0 (fun q => base ≤ q)) (F0 m 7 ls [])) : ∀ (n : Nat) (x1 : Int32) (x3 : Int32) (x4 : Int32) (σ : St) (H : Heap) (locs : List Loc) (ls : Array Slot), lv_has ls 8 [(0, .ref (ga E 11)), (1, .int x1), (3, .int x3), (4, .int x4)] → GW E base s σ H locs → wX12_cut_207 Q K7 n x1 x3 x4 σ → W p l e rmX12_cut s m args below meth c H locs 0 0 (MQ below (QV E base Q) args s 0 0 (fun q => base ≤ q)) (F0 m 207 ls []) := by
  intro n
  induction n with
  | zero => intro _ _ _; intros; exact False.elim (by assumption)
  | succ n ih =>
    intro x1 x3 x4 σ H locs ls hl g h
    refine lv_aload_n C.1 C.2.1 dX12_cut_207 rfl (lv_at hl 0 rfl) ?_
    refine lv_iload_n C.1 C.2.1 dX12_cut_208 rfl (lv_at hl 1 rfl) ?_
    refine lv_iload_n C.1 C.2.1 dX12_cut_209 rfl (lv_at hl 2 rfl) ?_
    refine lv_iadd C.1 C.2.1 dX12_cut_210 ?_
    refine gx_calli0 g (gx_runV (k := 11) (rest := []) C g mb_X12_at ml_X12_208 rfl sh_11 (mX12_at (x1 + x3) _ _ h) ⟨Nat.le_of_ble_eq_true rfl, Nat.le_of_ble_eq_true rfl⟩ ⟨Nat.le_refl _, Nat.le_refl _⟩ rfl hl.1 rfl (Nat.le_of_ble_eq_true rfl) dX12_cut_211) rfl rfl (fun r1 σ2 H locs h g => ?_)
    refine gx_calli0 g (gx_runS (rest := []) C g ms_X12_isDigit ml_X12_220 (mX12_isDigit r1 _ _ h) ⟨Nat.le_of_ble_eq_true rfl, Nat.le_of_ble_eq_true rfl⟩ ⟨Nat.le_refl _, Nat.le_refl _⟩ rfl hl.1 rfl (Nat.le_of_ble_eq_true rfl) dX12_cut_214) rfl rfl (fun r3 σ4 H locs h g => ?_)
    refine lv_if_eq (tgt := 249) C.1 C.2.1 dX12_cut_217 (by decide) (fun c5 => ?_) (fun c5 => ?_)
    · have h := h.1 c5
      refine lv_aload_n C.1 C.2.1 dX12_cut_249 rfl (lv_at hl 0 rfl) ?_
      refine lv_iload_n C.1 C.2.1 dX12_cut_250 rfl (lv_at hl 2 rfl) ?_
      refine lv_iconst (v := 4) C.1 C.2.1 dX12_cut_251 (by decide) ?_
      refine lv_icmp_le (tgt := 259) C.1 C.2.1 dX12_cut_252 (by decide) (fun c6 => ?_) (fun c6 => ?_)
      · have h := h.1 c6
        refine lv_iconst (v := 2) C.1 C.2.1 dX12_cut_259 (by decide) ?_
        exact tX12_cut_260 C hr hK7 x1 x3 x4 (2 : Int32) _ _ _ _ (lv_sub hl [0, 1, 2, 3] rfl) g h
      · have h := h.2 c6
        refine lv_iconst (v := 3) C.1 C.2.1 dX12_cut_255 (by decide) ?_
        refine lv_goto (tgt := 260) C.1 C.2.1 dX12_cut_256 (by decide) ?_
        exact tX12_cut_260 C hr hK7 x1 x3 x4 (3 : Int32) _ _ _ _ (lv_sub hl [0, 1, 2, 3] rfl) g h
    · have h := h.2 c5
      refine lv_iload_n C.1 C.2.1 dX12_cut_220 rfl (lv_at hl 2 rfl) ?_
      refine lv_iconst (v := 4) C.1 C.2.1 dX12_cut_221 (by decide) ?_
      refine lv_icmp_ge (tgt := 243) C.1 C.2.1 dX12_cut_222 (by decide) (fun c7 => ?_) (fun c7 => ?_)
      · have h := h.1 c7
        exact tX12_cut_243 C hr hK7 ih x1 x3 x4 _ _ _ _ (lv_sub hl [0, 1, 2, 3] rfl) g h
      · have h := h.2 c7
        refine lv_bipush (v := 10) C.1 C.2.1 dX12_cut_225 (by decide) ?_
        refine lv_iload C.1 C.2.1 dX12_cut_227 (lv_at hl 3 rfl) ?_
        refine lv_imul C.1 C.2.1 dX12_cut_229 ?_
        refine lv_aload_n C.1 C.2.1 dX12_cut_230 rfl (lv_at hl 0 rfl) ?_
        refine lv_iload_n C.1 C.2.1 dX12_cut_231 rfl (lv_at hl 1 rfl) ?_
        refine lv_iload_n C.1 C.2.1 dX12_cut_232 rfl (lv_at hl 2 rfl) ?_
        refine lv_iadd C.1 C.2.1 dX12_cut_233 ?_
        refine gx_calli0 g (gx_runV (k := 11) (rest := [.int ((10 : Int32) * x4)]) C g mb_X12_at ml_X12_208 rfl sh_11 (mX12_at (x1 + x3) _ _ h) ⟨Nat.le_of_ble_eq_true rfl, Nat.le_of_ble_eq_true rfl⟩ ⟨Nat.le_refl _, Nat.le_refl _⟩ rfl hl.1 rfl (Nat.le_of_ble_eq_true rfl) dX12_cut_234) rfl rfl (fun r8 σ9 H locs h g => ?_)
        refine lv_iadd C.1 C.2.1 dX12_cut_237 ?_
        refine lv_bipush (v := 48) C.1 C.2.1 dX12_cut_238 (by decide) ?_
        refine lv_isub C.1 C.2.1 dX12_cut_240 ?_
        refine lv_topi (fun x4_10 ex4_10 => ?_)
        have h := h x4_10 ex4_10
        refine lv_istore (lv' := [(4, .int x4_10), (0, .ref (ga E 11)), (1, .int x1), (3, .int x3)]) C.1 C.2.1 dX12_cut_241 hl (by decide) rfl (fun ls hl => ?_)
        exact tX12_cut_243 C hr hK7 ih x1 x3 x4_10 _ _ _ _ (lv_sub hl [1, 2, 3, 0] rfl) g h
set_option maxHeartbeats 4000000 in
set_option maxRecDepth 100000 in
theorem tX12_cut_178 {p : Program} {l : Launch} {e : Env} {s : State} {m : MethodId} {args : Array Value} {below : List Frame} {meth : Method} {c : Code} {E : EE} {base : Nat} (C : Cx p E base s m args meth c cX12_cut 8 RX12) (hr : meth.sig.returnType = none) {Q : St → Prop} {K7 : Int32 → St → Prop} (hK7 : ∀ (x1 : Int32) (σ : St) (H : Heap) (locs : List Loc) (ls : Array Slot), lv_has ls 8 [(0, .ref (ga E 11)), (1, .int x1)] → GW E base s σ H locs → K7 x1 σ → W p l e rmX12_cut s m args below meth c H locs 0 0 (MQ below (QV E base Q) args s 0 0 (fun q => base ≤ q)) (F0 m 7 ls [])) : ∀ (x1 : Int32) (x3 : Int32) (y4 : Int64) (x6 : Int32) (σ : St) (H : Heap) (locs : List Loc) (ls : Array Slot), lv_has ls 8 [(0, .ref (ga E 11)), (1, .int x1), (3, .int x3), (4, .long y4), (6, .int x6)] → GW E base s σ H locs → wX12_cut_178 Q K7 x1 x3 y4 x6 σ → W p l e rmX12_cut s m args below meth c H locs 0 0 (MQ below (QV E base Q) args s 0 0 (fun q => base ≤ q)) (F0 m 178 ls []) := by
  intro x1 x3 y4 x6 σ H locs ls hl g h
  refine lv_aload_n C.1 C.2.1 dX12_cut_178 rfl (lv_at hl 0 rfl) ?_
  refine lv_iload C.1 C.2.1 dX12_cut_179 (lv_at hl 4 rfl) ?_
  refine lv_iload_n C.1 C.2.1 dX12_cut_181 rfl (lv_at hl 1 rfl) ?_
  refine lv_iconst (v := 0) C.1 C.2.1 dX12_cut_182 (by decide) ?_
  refine lv_lload C.1 C.2.1 dX12_cut_183 (lv_at hl 3 rfl) ?_
  refine gx_callv0 g (gx_runV (k := 11) (rest := []) C g mb_X12_token ml_X12_212 rfl sh_11 (mX12_token x6 x1 (0 : Int32) y4 _ _ h) ⟨Nat.le_of_ble_eq_true rfl, Nat.le_of_ble_eq_true rfl⟩ ⟨Nat.le_refl _, Nat.le_refl _⟩ rfl hl.1 rfl (Nat.le_of_ble_eq_true rfl) dX12_cut_185) rfl rfl (fun σ2 H locs h g => ?_)
  refine lv_iload_n C.1 C.2.1 dX12_cut_188 rfl (lv_at hl 1 rfl) ?_
  refine lv_iload_n C.1 C.2.1 dX12_cut_189 rfl (lv_at hl 2 rfl) ?_
  refine lv_iadd C.1 C.2.1 dX12_cut_190 ?_
  refine lv_topi (fun x1_3 ex1_3 => ?_)
  have h := h x1_3 ex1_3
  refine lv_istore_n (lv' := [(1, .int x1_3), (0, .ref (ga E 11)), (3, .int x3), (4, .long y4), (6, .int x6)]) C.1 C.2.1 dX12_cut_191 rfl hl (by decide) rfl (fun ls hl => ?_)
  refine lv_goto (tgt := 290) C.1 C.2.1 dX12_cut_192 (by decide) ?_
  exact tX12_cut_290 C hr hK7 x1_3 _ _ _ _ (lv_sub hl [1, 0] rfl) g h
set_option maxHeartbeats 4000000 in
set_option maxRecDepth 100000 in
theorem tX12_cut_172 {p : Program} {l : Launch} {e : Env} {s : State} {m : MethodId} {args : Array Value} {below : List Frame} {meth : Method} {c : Code} {E : EE} {base : Nat} (C : Cx p E base s m args meth c cX12_cut 8 RX12) (hr : meth.sig.returnType = none) {Q : St → Prop} {K7 : Int32 → St → Prop} (hK7 : ∀ (x1 : Int32) (σ : St) (H : Heap) (locs : List Loc) (ls : Array Slot), lv_has ls 8 [(0, .ref (ga E 11)), (1, .int x1)] → GW E base s σ H locs → K7 x1 σ → W p l e rmX12_cut s m args below meth c H locs 0 0 (MQ below (QV E base Q) args s 0 0 (fun q => base ≤ q)) (F0 m 7 ls [])) {K145 : Int32 → Int32 → Int64 → Int32 → Int32 → St → Prop} (hK145 : ∀ (x1 : Int32) (x3 : Int32) (y4 : Int64) (x6 : Int32) (x7 : Int32) (σ : St) (H : Heap) (locs : List Loc) (ls : Array Slot), lv_has ls 8 [(0, .ref (ga E 11)), (1, .int x1), (3, .int x3), (4, .long y4), (6, .int x6), (7, .int x7)] → GW E base s σ H locs → K145 x1 x3 y4 x6 x7 σ → W p l e rmX12_cut s m args below meth c H locs 0 0 (MQ below (QV E base Q) args s 0 0 (fun q => base ≤ q)) (F0 m 145 ls [])) : ∀ (x1 : Int32) (x3 : Int32) (y4 : Int64) (x6 : Int32) (x7 : Int32) (σ : St) (H : Heap) (locs : List Loc) (ls : Array Slot), lv_has ls 8 [(0, .ref (ga E 11)), (1, .int x1), (3, .int x3), (4, .long y4), (6, .int x6), (7, .int x7)] → GW E base s σ H locs → wX12_cut_172 Q K7 K145 x1 x3 y4 x6 x7 σ → W p l e rmX12_cut s m args below meth c H locs 0 0 (MQ below (QV E base Q) args s 0 0 (fun q => base ≤ q)) (F0 m 172 ls []) := by
  intro x1 x3 y4 x6 x7 σ H locs ls hl g h
  obtain ⟨x7_1, ex7_1⟩ : ∃ y : Int32, y = x7 + 1 := ⟨_, rfl⟩
  have h := h x7_1 ex7_1
  refine lv_iinc (v := x7_1) (lv' := [(7, .int x7_1), (0, .ref (ga E 11)), (1, .int x1), (3, .int x3), (4, .long y4), (6, .int x6)]) C.1 C.2.1 dX12_cut_172 hl (k := 5) rfl (by rw [ex7_1]; rfl) (by decide) rfl (fun ls hl => ?_)
  refine lv_goto (tgt := 145) C.1 C.2.1 dX12_cut_175 (by decide) ?_
  exact hK145 x1 x3 y4 x6 x7_1 _ _ _ _ (lv_sub hl [1, 2, 3, 4, 5, 0] rfl) g h
set_option maxHeartbeats 4000000 in
set_option maxRecDepth 100000 in
theorem tX12_cut_145 {p : Program} {l : Launch} {e : Env} {s : State} {m : MethodId} {args : Array Value} {below : List Frame} {meth : Method} {c : Code} {E : EE} {base : Nat} (C : Cx p E base s m args meth c cX12_cut 8 RX12) (hr : meth.sig.returnType = none) {Q : St → Prop} {K7 : Int32 → St → Prop} (hK7 : ∀ (x1 : Int32) (σ : St) (H : Heap) (locs : List Loc) (ls : Array Slot), lv_has ls 8 [(0, .ref (ga E 11)), (1, .int x1)] → GW E base s σ H locs → K7 x1 σ → W p l e rmX12_cut s m args below meth c H locs 0 0 (MQ below (QV E base Q) args s 0 0 (fun q => base ≤ q)) (F0 m 7 ls [])) : ∀ (n : Nat) (x1 : Int32) (x3 : Int32) (y4 : Int64) (x6 : Int32) (x7 : Int32) (σ : St) (H : Heap) (locs : List Loc) (ls : Array Slot), lv_has ls 8 [(0, .ref (ga E 11)), (1, .int x1), (3, .int x3), (4, .long y4), (6, .int x6), (7, .int x7)] → GW E base s σ H locs → wX12_cut_145 Q K7 n x1 x3 y4 x6 x7 σ → W p l e rmX12_cut s m args below meth c H locs 0 0 (MQ below (QV E base Q) args s 0 0 (fun q => base ≤ q)) (F0 m 145 ls []) := by
  intro n
  induction n with
  | zero => intro _ _ _ _ _; intros; exact False.elim (by assumption)
  | succ n ih =>
    intro x1 x3 y4 x6 x7 σ H locs ls hl g h
    refine lv_iload C.1 C.2.1 dX12_cut_145 (lv_at hl 5 rfl) ?_
    refine lv_bipush (v := 23) C.1 C.2.1 dX12_cut_147 (by decide) ?_
    refine lv_icmp_ge (tgt := 178) C.1 C.2.1 dX12_cut_149 (by decide) (fun c1 => ?_) (fun c1 => ?_)
    · have h := h.1 c1
      exact tX12_cut_178 C hr hK7 x1 x3 y4 x6 _ _ _ _ (lv_sub hl [0, 1, 2, 3, 4] rfl) g h
    · have h := h.2 c1
      refine lv_aload_n C.1 C.2.1 dX12_cut_152 rfl (lv_at hl 0 rfl) ?_
      refine gx_getR C g fl_X12_34 dX12_cut_153 sh_11 rfl (by decide) ?_
      refine lv_iload C.1 C.2.1 dX12_cut_156 (lv_at hl 5 rfl) ?_
      obtain ⟨i2, h⟩ := h
      refine gx_lald C g dX12_cut_158 sh_54 i2 ?_
      refine lv_lload C.1 C.2.1 dX12_cut_159 (lv_at hl 3 rfl) ?_
      refine W.lcmp C.1 C.2.1 dX12_cut_161 ?_
      refine lv_if_ne (tgt := 172) C.1 C.2.1 dX12_cut_162 (by decide) (fun c3 => ?_) (fun c3 => ?_)
      · have h := h.2 c3
        exact tX12_cut_172 C hr hK7 ih x1 x3 y4 x6 x7 _ _ _ _ (lv_sub hl [0, 1, 2, 3, 4, 5] rfl) g h
      · have h := h.1 c3
        refine lv_bipush (v := 20) C.1 C.2.1 dX12_cut_165 (by decide) ?_
        refine lv_iload C.1 C.2.1 dX12_cut_167 (lv_at hl 5 rfl) ?_
        refine lv_iadd C.1 C.2.1 dX12_cut_169 ?_
        refine lv_topi (fun x6_4 ex6_4 => ?_)
        have h := h x6_4 ex6_4
        refine lv_istore (lv' := [(6, .int x6_4), (0, .ref (ga E 11)), (1, .int x1), (3, .int x3), (4, .long y4), (7, .int x7)]) C.1 C.2.1 dX12_cut_170 hl (by decide) rfl (fun ls hl => ?_)
        exact tX12_cut_172 C hr hK7 ih x1 x3 y4 x6_4 x7 _ _ _ _ (lv_sub hl [1, 2, 3, 4, 0, 5] rfl) g h
set_option maxHeartbeats 4000000 in
set_option maxRecDepth 100000 in
theorem tX12_cut_135 {p : Program} {l : Launch} {e : Env} {s : State} {m : MethodId} {args : Array Value} {below : List Frame} {meth : Method} {c : Code} {E : EE} {base : Nat} (C : Cx p E base s m args meth c cX12_cut 8 RX12) (hr : meth.sig.returnType = none) {Q : St → Prop} {K7 : Int32 → St → Prop} (hK7 : ∀ (x1 : Int32) (σ : St) (H : Heap) (locs : List Loc) (ls : Array Slot), lv_has ls 8 [(0, .ref (ga E 11)), (1, .int x1)] → GW E base s σ H locs → K7 x1 σ → W p l e rmX12_cut s m args below meth c H locs 0 0 (MQ below (QV E base Q) args s 0 0 (fun q => base ≤ q)) (F0 m 7 ls [])) : ∀ (x1 : Int32) (x3 : Int32) (y4 : Int64) (xt0 : Int32) (σ : St) (H : Heap) (locs : List Loc) (ls : Array Slot), lv_has ls 8 [(0, .ref (ga E 11)), (1, .int x1), (3, .int x3), (4, .long y4)] → GW E base s σ H locs → wX12_cut_135 Q K7 x1 x3 y4 xt0 σ → W p l e rmX12_cut s m args below meth c H locs 0 0 (MQ below (QV E base Q) args s 0 0 (fun q => base ≤ q)) (F0 m 135 ls [.int xt0]) := by
  intro x1 x3 y4 xt0 σ H locs ls hl g h
  refine lv_istore (lv' := [(6, .int xt0), (0, .ref (ga E 11)), (1, .int x1), (3, .int x3), (4, .long y4)]) C.1 C.2.1 dX12_cut_135 hl (by decide) rfl (fun ls hl => ?_)
  refine lv_iload_n C.1 C.2.1 dX12_cut_137 rfl (lv_at hl 3 rfl) ?_
  refine lv_iconst (v := 5) C.1 C.2.1 dX12_cut_138 (by decide) ?_
  refine lv_icmp_gt (tgt := 178) C.1 C.2.1 dX12_cut_139 (by decide) (fun c1 => ?_) (fun c1 => ?_)
  · have h := h.1 c1
    exact tX12_cut_178 C hr hK7 x1 x3 y4 xt0 _ _ _ _ (lv_sub hl [1, 2, 3, 4, 0] rfl) g h
  · have h := h.2 c1
    refine lv_iconst (v := 0) C.1 C.2.1 dX12_cut_142 (by decide) ?_
    refine lv_istore (lv' := [(7, .int (0 : Int32)), (6, .int xt0), (0, .ref (ga E 11)), (1, .int x1), (3, .int x3), (4, .long y4)]) C.1 C.2.1 dX12_cut_143 hl (by decide) rfl (fun ls hl => ?_)
    obtain ⟨j, h⟩ := h
    exact tX12_cut_145 C hr hK7 j x1 x3 y4 xt0 (0 : Int32) _ _ _ _ (lv_sub hl [2, 3, 4, 5, 1, 0] rfl) g h
set_option maxHeartbeats 4000000 in
set_option maxRecDepth 100000 in
theorem tX12_cut_118 {p : Program} {l : Launch} {e : Env} {s : State} {m : MethodId} {args : Array Value} {below : List Frame} {meth : Method} {c : Code} {E : EE} {base : Nat} (C : Cx p E base s m args meth c cX12_cut 8 RX12) (hr : meth.sig.returnType = none) {Q : St → Prop} {K7 : Int32 → St → Prop} (hK7 : ∀ (x1 : Int32) (σ : St) (H : Heap) (locs : List Loc) (ls : Array Slot), lv_has ls 8 [(0, .ref (ga E 11)), (1, .int x1)] → GW E base s σ H locs → K7 x1 σ → W p l e rmX12_cut s m args below meth c H locs 0 0 (MQ below (QV E base Q) args s 0 0 (fun q => base ≤ q)) (F0 m 7 ls [])) {K85 : Int32 → Int32 → Int64 → St → Prop} (hK85 : ∀ (x1 : Int32) (x3 : Int32) (y4 : Int64) (σ : St) (H : Heap) (locs : List Loc) (ls : Array Slot), lv_has ls 8 [(0, .ref (ga E 11)), (1, .int x1), (3, .int x3), (4, .long y4)] → GW E base s σ H locs → K85 x1 x3 y4 σ → W p l e rmX12_cut s m args below meth c H locs 0 0 (MQ below (QV E base Q) args s 0 0 (fun q => base ≤ q)) (F0 m 85 ls [])) : ∀ (x1 : Int32) (x3 : Int32) (y4 : Int64) (σ : St) (H : Heap) (locs : List Loc) (ls : Array Slot), lv_has ls 8 [(0, .ref (ga E 11)), (1, .int x1), (3, .int x3), (4, .long y4)] → GW E base s σ H locs → wX12_cut_118 Q K7 K85 x1 x3 y4 σ → W p l e rmX12_cut s m args below meth c H locs 0 0 (MQ below (QV E base Q) args s 0 0 (fun q => base ≤ q)) (F0 m 118 ls []) := by
  intro x1 x3 y4 σ H locs ls hl g h
  obtain ⟨x3_1, ex3_1⟩ : ∃ y : Int32, y = x3 + 1 := ⟨_, rfl⟩
  have h := h x3_1 ex3_1
  refine lv_iinc (v := x3_1) (lv' := [(3, .int x3_1), (0, .ref (ga E 11)), (1, .int x1), (4, .long y4)]) C.1 C.2.1 dX12_cut_118 hl (k := 2) rfl (by rw [ex3_1]; rfl) (by decide) rfl (fun ls hl => ?_)
  refine lv_goto (tgt := 85) C.1 C.2.1 dX12_cut_121 (by decide) ?_
  exact hK85 x1 x3_1 y4 _ _ _ _ (lv_sub hl [1, 2, 0, 3] rfl) g h
set_option maxHeartbeats 4000000 in
set_option maxRecDepth 100000 in
theorem tX12_cut_85 {p : Program} {l : Launch} {e : Env} {s : State} {m : MethodId} {args : Array Value} {below : List Frame} {meth : Method} {c : Code} {E : EE} {base : Nat} (C : Cx p E base s m args meth c cX12_cut 8 RX12) (hr : meth.sig.returnType = none) {Q : St → Prop} {K7 : Int32 → St → Prop} (hK7 : ∀ (x1 : Int32) (σ : St) (H : Heap) (locs : List Loc) (ls : Array Slot), lv_has ls 8 [(0, .ref (ga E 11)), (1, .int x1)] → GW E base s σ H locs → K7 x1 σ → W p l e rmX12_cut s m args below meth c H locs 0 0 (MQ below (QV E base Q) args s 0 0 (fun q => base ≤ q)) (F0 m 7 ls [])) : ∀ (n : Nat) (x1 : Int32) (x3 : Int32) (y4 : Int64) (σ : St) (H : Heap) (locs : List Loc) (ls : Array Slot), lv_has ls 8 [(0, .ref (ga E 11)), (1, .int x1), (3, .int x3), (4, .long y4)] → GW E base s σ H locs → wX12_cut_85 Q K7 n x1 x3 y4 σ → W p l e rmX12_cut s m args below meth c H locs 0 0 (MQ below (QV E base Q) args s 0 0 (fun q => base ≤ q)) (F0 m 85 ls []) := by
  intro n
  induction n with
  | zero => intro _ _ _; intros; exact False.elim (by assumption)
  | succ n ih =>
    intro x1 x3 y4 σ H locs ls hl g h
    refine lv_aload_n C.1 C.2.1 dX12_cut_85 rfl (lv_at hl 0 rfl) ?_
    refine lv_iload_n C.1 C.2.1 dX12_cut_86 rfl (lv_at hl 1 rfl) ?_
    refine lv_iload_n C.1 C.2.1 dX12_cut_87 rfl (lv_at hl 2 rfl) ?_
    refine lv_iadd C.1 C.2.1 dX12_cut_88 ?_
    refine gx_calli0 g (gx_runV (k := 11) (rest := []) C g mb_X12_at ml_X12_208 rfl sh_11 (mX12_at (x1 + x3) _ _ h) ⟨Nat.le_of_ble_eq_true rfl, Nat.le_of_ble_eq_true rfl⟩ ⟨Nat.le_refl _, Nat.le_refl _⟩ rfl hl.1 rfl (Nat.le_of_ble_eq_true rfl) dX12_cut_89) rfl rfl (fun r1 σ2 H locs h g => ?_)
    refine gx_calli0 g (gx_runS (rest := []) C g ms_X12_isLetter ml_X12_216 (mX12_isLetter r1 _ _ h) ⟨Nat.le_of_ble_eq_true rfl, Nat.le_of_ble_eq_true rfl⟩ ⟨Nat.le_refl _, Nat.le_refl _⟩ rfl hl.1 rfl (Nat.le_of_ble_eq_true rfl) dX12_cut_92) rfl rfl (fun r3 σ4 H locs h g => ?_)
    refine lv_if_eq (tgt := 124) C.1 C.2.1 dX12_cut_95 (by decide) (fun c5 => ?_) (fun c5 => ?_)
    · have h := h.1 c5
      refine lv_iload_n C.1 C.2.1 dX12_cut_124 rfl (lv_at hl 2 rfl) ?_
      refine lv_bipush (v := 8) C.1 C.2.1 dX12_cut_125 (by decide) ?_
      refine lv_icmp_le (tgt := 134) C.1 C.2.1 dX12_cut_127 (by decide) (fun c6 => ?_) (fun c6 => ?_)
      · have h := h.1 c6
        refine lv_iconst (v := 1) C.1 C.2.1 dX12_cut_134 (by decide) ?_
        exact tX12_cut_135 C hr hK7 x1 x3 y4 (1 : Int32) _ _ _ _ (lv_sub hl [0, 1, 2, 3] rfl) g h
      · have h := h.2 c6
        refine lv_iconst (v := 3) C.1 C.2.1 dX12_cut_130 (by decide) ?_
        refine lv_goto (tgt := 135) C.1 C.2.1 dX12_cut_131 (by decide) ?_
        exact tX12_cut_135 C hr hK7 x1 x3 y4 (3 : Int32) _ _ _ _ (lv_sub hl [0, 1, 2, 3] rfl) g h
    · have h := h.2 c5
      refine lv_iload_n C.1 C.2.1 dX12_cut_98 rfl (lv_at hl 2 rfl) ?_
      refine lv_bipush (v := 8) C.1 C.2.1 dX12_cut_99 (by decide) ?_
      refine lv_icmp_ge (tgt := 118) C.1 C.2.1 dX12_cut_101 (by decide) (fun c7 => ?_) (fun c7 => ?_)
      · have h := h.1 c7
        exact tX12_cut_118 C hr hK7 ih x1 x3 y4 _ _ _ _ (lv_sub hl [0, 1, 2, 3] rfl) g h
      · have h := h.2 c7
        refine lv_lload C.1 C.2.1 dX12_cut_104 (lv_at hl 3 rfl) ?_
        refine lv_aload_n C.1 C.2.1 dX12_cut_106 rfl (lv_at hl 0 rfl) ?_
        refine lv_iload_n C.1 C.2.1 dX12_cut_107 rfl (lv_at hl 1 rfl) ?_
        refine lv_iload_n C.1 C.2.1 dX12_cut_108 rfl (lv_at hl 2 rfl) ?_
        refine lv_iadd C.1 C.2.1 dX12_cut_109 ?_
        refine gx_calli0 g (gx_runV (k := 11) (rest := [.long y4]) C g mb_X12_at ml_X12_208 rfl sh_11 (mX12_at (x1 + x3) _ _ h) ⟨Nat.le_of_ble_eq_true rfl, Nat.le_of_ble_eq_true rfl⟩ ⟨Nat.le_refl _, Nat.le_refl _⟩ rfl hl.1 rfl (Nat.le_of_ble_eq_true rfl) dX12_cut_110) rfl rfl (fun r8 σ9 H locs h g => ?_)
        refine gx_calll0 g (gx_runS (rest := []) C g ms_X12_more ml_X12_201 (mX12_more y4 r8 _ _ h) ⟨Nat.le_of_ble_eq_true rfl, Nat.le_of_ble_eq_true rfl⟩ ⟨Nat.le_refl _, Nat.le_refl _⟩ rfl hl.1 rfl (Nat.le_of_ble_eq_true rfl) dX12_cut_113) rfl rfl (fun r10 σ11 H locs h g => ?_)
        refine lv_lstore (lv' := [(4, .long r10), (0, .ref (ga E 11)), (1, .int x1), (3, .int x3)]) C.1 C.2.1 dX12_cut_116 hl (by decide) rfl (fun ls hl => ?_)
        exact tX12_cut_118 C hr hK7 ih x1 x3 r10 _ _ _ _ (lv_sub hl [1, 2, 3, 0] rfl) g h
set_option maxHeartbeats 4000000 in
set_option maxRecDepth 100000 in
theorem tX12_cut_7 {p : Program} {l : Launch} {e : Env} {s : State} {m : MethodId} {args : Array Value} {below : List Frame} {meth : Method} {c : Code} {E : EE} {base : Nat} (C : Cx p E base s m args meth c cX12_cut 8 RX12) (hr : meth.sig.returnType = none) {Q : St → Prop} : ∀ (n : Nat) (x1 : Int32) (σ : St) (H : Heap) (locs : List Loc) (ls : Array Slot), lv_has ls 8 [(0, .ref (ga E 11)), (1, .int x1)] → GW E base s σ H locs → wX12_cut_7 Q n x1 σ → W p l e rmX12_cut s m args below meth c H locs 0 0 (MQ below (QV E base Q) args s 0 0 (fun q => base ≤ q)) (F0 m 7 ls []) := by
  intro n
  induction n with
  | zero => intro _; intros; exact False.elim (by assumption)
  | succ n ih =>
    intro x1 σ H locs ls hl g h
    refine lv_aload_n C.1 C.2.1 dX12_cut_7 rfl (lv_at hl 0 rfl) ?_
    refine gx_getI C g fl_X12_205 dX12_cut_8 sh_11 rfl ?_
    refine lv_sipush (v := 600) C.1 C.2.1 dX12_cut_11 (by decide) ?_
    refine lv_icmp_gt (tgt := 293) C.1 C.2.1 dX12_cut_14 (by decide) (fun c1 => ?_) (fun c1 => ?_)
    · have h := h.1 c1
      exact gx_vret C hr g dX12_cut_293 h
    · have h := h.2 c1
      refine lv_aload_n C.1 C.2.1 dX12_cut_17 rfl (lv_at hl 0 rfl) ?_
      refine lv_iload_n C.1 C.2.1 dX12_cut_18 rfl (lv_at hl 1 rfl) ?_
      refine gx_calli0 g (gx_runV (k := 11) (rest := []) C g mb_X12_at ml_X12_208 rfl sh_11 (mX12_at x1 _ _ h) ⟨Nat.le_of_ble_eq_true rfl, Nat.le_of_ble_eq_true rfl⟩ ⟨Nat.le_refl _, Nat.le_refl _⟩ rfl hl.1 rfl (Nat.le_of_ble_eq_true rfl) dX12_cut_19) rfl rfl (fun r2 σ3 H locs h g => ?_)
      refine lv_istore_n (lv' := [(2, .int r2), (0, .ref (ga E 11)), (1, .int x1)]) C.1 C.2.1 dX12_cut_22 rfl hl (by decide) rfl (fun ls hl => ?_)
      refine lv_iload_n C.1 C.2.1 dX12_cut_23 rfl (lv_at hl 2 rfl) ?_
      refine lv_aload_n C.1 C.2.1 dX12_cut_24 rfl (lv_at hl 1 rfl) ?_
      refine gx_getI C g fl_X12_196 dX12_cut_25 sh_11 rfl ?_
      refine lv_icmp_lt (tgt := 43) C.1 C.2.1 dX12_cut_28 (by decide) (fun c4 => ?_) (fun c4 => ?_)
      · have h := h.1 c4
        refine lv_iload_n C.1 C.2.1 dX12_cut_43 rfl (lv_at hl 0 rfl) ?_
        refine lv_bipush (v := 9) C.1 C.2.1 dX12_cut_44 (by decide) ?_
        refine lv_icmp_eq (tgt := 67) C.1 C.2.1 dX12_cut_46 (by decide) (fun c5 => ?_) (fun c5 => ?_)
        · have h := h.1 c5
          exact tX12_cut_67 C hr ih x1 _ _ _ _ (lv_sub hl [1, 2] rfl) g h
        · have h := h.2 c5
          refine lv_iload_n C.1 C.2.1 dX12_cut_49 rfl (lv_at hl 0 rfl) ?_
          refine lv_bipush (v := 10) C.1 C.2.1 dX12_cut_50 (by decide) ?_
          refine lv_icmp_eq (tgt := 67) C.1 C.2.1 dX12_cut_52 (by decide) (fun c6 => ?_) (fun c6 => ?_)
          · have h := h.1 c6
            exact tX12_cut_67 C hr ih x1 _ _ _ _ (lv_sub hl [1, 2] rfl) g h
          · have h := h.2 c6
            refine lv_iload_n C.1 C.2.1 dX12_cut_55 rfl (lv_at hl 0 rfl) ?_
            refine lv_bipush (v := 13) C.1 C.2.1 dX12_cut_56 (by decide) ?_
            refine lv_icmp_eq (tgt := 67) C.1 C.2.1 dX12_cut_58 (by decide) (fun c7 => ?_) (fun c7 => ?_)
            · have h := h.1 c7
              exact tX12_cut_67 C hr ih x1 _ _ _ _ (lv_sub hl [1, 2] rfl) g h
            · have h := h.2 c7
              refine lv_iload_n C.1 C.2.1 dX12_cut_61 rfl (lv_at hl 0 rfl) ?_
              refine lv_bipush (v := 32) C.1 C.2.1 dX12_cut_62 (by decide) ?_
              refine lv_icmp_ne (tgt := 73) C.1 C.2.1 dX12_cut_64 (by decide) (fun c8 => ?_) (fun c8 => ?_)
              · have h := h.2 c8
                refine lv_iload_n C.1 C.2.1 dX12_cut_73 rfl (lv_at hl 0 rfl) ?_
                refine gx_calli0 g (gx_runS (rest := []) C g ms_X12_isLetter ml_X12_216 (mX12_isLetter r2 _ _ h) ⟨Nat.le_of_ble_eq_true rfl, Nat.le_of_ble_eq_true rfl⟩ ⟨Nat.le_refl _, Nat.le_refl _⟩ rfl hl.1 rfl (Nat.le_of_ble_eq_true rfl) dX12_cut_74) rfl rfl (fun r9 σ10 H locs h g => ?_)
                refine lv_if_eq (tgt := 195) C.1 C.2.1 dX12_cut_77 (by decide) (fun c11 => ?_) (fun c11 => ?_)
                · have h := h.1 c11
                  refine lv_iload_n C.1 C.2.1 dX12_cut_195 rfl (lv_at hl 0 rfl) ?_
                  refine gx_calli0 g (gx_runS (rest := []) C g ms_X12_isDigit ml_X12_220 (mX12_isDigit r2 _ _ h) ⟨Nat.le_of_ble_eq_true rfl, Nat.le_of_ble_eq_true rfl⟩ ⟨Nat.le_refl _, Nat.le_refl _⟩ rfl hl.1 rfl (Nat.le_of_ble_eq_true rfl) dX12_cut_196) rfl rfl (fun r12 σ13 H locs h g => ?_)
                  refine lv_if_eq (tgt := 274) C.1 C.2.1 dX12_cut_199 (by decide) (fun c14 => ?_) (fun c14 => ?_)
                  · have h := h.1 c14
                    refine lv_iload_n C.1 C.2.1 dX12_cut_274 rfl (lv_at hl 2 rfl) ?_
                    refine lv_aload_n C.1 C.2.1 dX12_cut_275 rfl (lv_at hl 1 rfl) ?_
                    refine lv_iload_n C.1 C.2.1 dX12_cut_276 rfl (lv_at hl 2 rfl) ?_
                    refine lv_iload_n C.1 C.2.1 dX12_cut_277 rfl (lv_at hl 0 rfl) ?_
                    refine lv_aload_n C.1 C.2.1 dX12_cut_278 rfl (lv_at hl 1 rfl) ?_
                    refine lv_iload_n C.1 C.2.1 dX12_cut_279 rfl (lv_at hl 2 rfl) ?_
                    refine lv_iconst (v := 1) C.1 C.2.1 dX12_cut_280 (by decide) ?_
                    refine lv_iadd C.1 C.2.1 dX12_cut_281 ?_
                    refine gx_calli0 g (gx_runV (k := 11) (rest := [.int r2, .int x1, .ref (ga E 11), .int x1]) C g mb_X12_at ml_X12_208 rfl sh_11 (mX12_at (x1 + (1 : Int32)) _ _ h) ⟨Nat.le_of_ble_eq_true rfl, Nat.le_of_ble_eq_true rfl⟩ ⟨Nat.le_refl _, Nat.le_refl _⟩ rfl hl.1 rfl (Nat.le_of_ble_eq_true rfl) dX12_cut_282) rfl rfl (fun r15 σ16 H locs h g => ?_)
                    refine gx_calli0 g (gx_runV (k := 11) (rest := [.int x1]) C g mb_X12_sign ml_X12_223 rfl sh_11 (mX12_sign x1 r2 r15 _ _ h) ⟨Nat.le_of_ble_eq_true rfl, Nat.le_of_ble_eq_true rfl⟩ ⟨Nat.le_refl _, Nat.le_refl _⟩ rfl hl.1 rfl (Nat.le_of_ble_eq_true rfl) dX12_cut_285) rfl rfl (fun r17 σ18 H locs h g => ?_)
                    refine lv_iadd C.1 C.2.1 dX12_cut_288 ?_
                    refine lv_topi (fun x1_19 ex1_19 => ?_)
                    have h := h x1_19 ex1_19
                    refine lv_istore_n (lv' := [(1, .int x1_19), (2, .int r2), (0, .ref (ga E 11))]) C.1 C.2.1 dX12_cut_289 rfl hl (by decide) rfl (fun ls hl => ?_)
                    exact tX12_cut_290 C hr ih x1_19 _ _ _ _ (lv_sub hl [2, 0] rfl) g h
                  · have h := h.2 c14
                    refine lv_iconst (v := 0) C.1 C.2.1 dX12_cut_202 (by decide) ?_
                    refine lv_istore_n (lv' := [(3, .int (0 : Int32)), (2, .int r2), (0, .ref (ga E 11)), (1, .int x1)]) C.1 C.2.1 dX12_cut_203 rfl hl (by decide) rfl (fun ls hl => ?_)
                    refine lv_iconst (v := 0) C.1 C.2.1 dX12_cut_204 (by decide) ?_
                    refine lv_istore (lv' := [(4, .int (0 : Int32)), (3, .int (0 : Int32)), (2, .int r2), (0, .ref (ga E 11)), (1, .int x1)]) C.1 C.2.1 dX12_cut_205 hl (by decide) rfl (fun ls hl => ?_)
                    obtain ⟨j, h⟩ := h
                    exact tX12_cut_207 C hr ih j x1 (0 : Int32) (0 : Int32) _ _ _ _ (lv_sub hl [3, 4, 1, 0] rfl) g h
                · have h := h.2 c11
                  refine lv_iconst (v := 0) C.1 C.2.1 dX12_cut_80 (by decide) ?_
                  refine lv_istore_n (lv' := [(3, .int (0 : Int32)), (2, .int r2), (0, .ref (ga E 11)), (1, .int x1)]) C.1 C.2.1 dX12_cut_81 rfl hl (by decide) rfl (fun ls hl => ?_)
                  refine lv_lconst (v := 0) C.1 C.2.1 dX12_cut_82 (by decide) ?_
                  refine lv_lstore (lv' := [(4, .long (0 : Int64)), (3, .int (0 : Int32)), (2, .int r2), (0, .ref (ga E 11)), (1, .int x1)]) C.1 C.2.1 dX12_cut_83 hl (by decide) rfl (fun ls hl => ?_)
                  obtain ⟨j, h⟩ := h
                  exact tX12_cut_85 C hr ih j x1 (0 : Int32) (0 : Int64) _ _ _ _ (lv_sub hl [3, 4, 1, 0] rfl) g h
              · have h := h.1 c8
                exact tX12_cut_67 C hr ih x1 _ _ _ _ (lv_sub hl [1, 2] rfl) g h
      · have h := h.2 c4
        refine lv_aload_n C.1 C.2.1 dX12_cut_31 rfl (lv_at hl 1 rfl) ?_
        refine lv_iconst (v := 0) C.1 C.2.1 dX12_cut_32 (by decide) ?_
        refine lv_aload_n C.1 C.2.1 dX12_cut_33 rfl (lv_at hl 1 rfl) ?_
        refine gx_getI C g fl_X12_196 dX12_cut_34 sh_11 rfl ?_
        refine lv_iconst (v := 0) C.1 C.2.1 dX12_cut_37 (by decide) ?_
        refine lv_lconst (v := 0) C.1 C.2.1 dX12_cut_38 (by decide) ?_
        refine gx_callv0 g (gx_runV (k := 11) (rest := []) C g mb_X12_token ml_X12_212 rfl sh_11 (mX12_token (0 : Int32) (gv σ3 11 4) (0 : Int32) (0 : Int64) _ _ h) ⟨Nat.le_of_ble_eq_true rfl, Nat.le_of_ble_eq_true rfl⟩ ⟨Nat.le_refl _, Nat.le_refl _⟩ rfl hl.1 rfl (Nat.le_of_ble_eq_true rfl) dX12_cut_39) rfl rfl (fun σ21 H locs h g => ?_)
        exact gx_vret C hr g dX12_cut_42 h
set_option maxHeartbeats 4000000 in
set_option maxRecDepth 100000 in
theorem tX12_cut_e {p : Program} {l : Launch} {e : Env} {s : State} {m : MethodId} {args : Array Value} {below : List Frame} {meth : Method} {c : Code} {E : EE} {base : Nat} (C : Cx p E base s m args meth c cX12_cut 8 RX12) (hr : meth.sig.returnType = none) {Q : St → Prop} : ∀ (σ : St) (H : Heap) (locs : List Loc) (ls : Array Slot), lv_has ls 8 [(0, .ref (ga E 11))] → GW E base s σ H locs → wX12_cut σ Q → W p l e rmX12_cut s m args below meth c H locs 0 0 (MQ below (QV E base Q) args s 0 0 (fun q => base ≤ q)) (F0 m 0 ls []) := by
  intro σ H locs ls hl g h
  refine lv_aload_n C.1 C.2.1 dX12_cut_0 rfl (lv_at hl 0 rfl) ?_
  refine lv_iconst (v := 0) C.1 C.2.1 dX12_cut_1 (by decide) ?_
  refine gx_putI C g fi_X12_205 dX12_cut_2 sh_11 rfl (fun H locs σ1 eσ1 g => ?_)
  have h := h σ1 eσ1
  refine lv_iconst (v := 0) C.1 C.2.1 dX12_cut_5 (by decide) ?_
  refine lv_istore_n (lv' := [(1, .int (0 : Int32)), (0, .ref (ga E 11))]) C.1 C.2.1 dX12_cut_6 rfl hl (by decide) rfl (fun ls hl => ?_)
  obtain ⟨j, h⟩ := h
  exact tX12_cut_7 C hr j (0 : Int32) _ _ _ _ (lv_sub hl [1, 0] rfl) g h
theorem mX12_cut {l : Launch} {E : EE} {base : Nat} (σ : St) (Q : St → Prop) (h : wX12_cut σ Q) : Met l yX12_cut (wy yX12_cut cX12_cut 8 none) rmX12_cut (va_Pc [.ref (ga E 11)] (fun U => SW E base σ U)) (QV E base Q) (rmX12_cut).cells (rmX12_cut).slots (fun q => base ≤ q) :=
  met_of (by decide) (Nat.le_of_ble_eq_true rfl) (fun p e s m args below meth c C hr g ls hl => tX12_cut_e C hr  _ _ _ _ hl g h)
abbrev rmX12_is : Room := { frames := 0, cells := 0, slots := 0, locals := 0 }
def wX12_is (x1 : Int32) (σ : St) (Q : Int32 → St → Prop) : Prop := (((gv σ 11 13) = 0 → vp_in (gv σ 11 11) 603 ∧ (((gv σ 50 (gv σ 11 11).toNatClampNeg) = x1 → Q (1 : Int32) σ) ∧ (¬ ((gv σ 50 (gv σ 11 11).toNatClampNeg) = x1) → Q (0 : Int32) σ))) ∧ (¬ ((gv σ 11 13) = 0) → Q (0 : Int32) σ))
set_option maxHeartbeats 4000000 in
set_option maxRecDepth 100000 in
theorem tX12_is_e {p : Program} {l : Launch} {e : Env} {s : State} {m : MethodId} {args : Array Value} {below : List Frame} {meth : Method} {c : Code} {E : EE} {base : Nat} (C : Cx p E base s m args meth c cX12_is 2 RX12) (hr : meth.sig.returnType = (some .boolean)) {Q : Int32 → St → Prop} : ∀ (x1 : Int32) (σ : St) (H : Heap) (locs : List Loc) (ls : Array Slot), lv_has ls 2 [(0, .ref (ga E 11)), (1, .int x1)] → GW E base s σ H locs → wX12_is x1 σ Q → W p l e rmX12_is s m args below meth c H locs 0 0 (MQ below (QI E base Q) args s 0 0 (fun q => base ≤ q)) (F0 m 0 ls []) := by
  intro x1 σ H locs ls hl g h
  refine lv_aload_n C.1 C.2.1 dX12_is_0 rfl (lv_at hl 0 rfl) ?_
  refine gx_getI C g fl_X12_227 dX12_is_1 sh_11 rfl ?_
  refine lv_if_ne (tgt := 24) C.1 C.2.1 dX12_is_4 (by decide) (fun c1 => ?_) (fun c1 => ?_)
  · have h := h.2 c1
    refine lv_iconst (v := 0) C.1 C.2.1 dX12_is_24 (by decide) ?_
    exact gx_zret C hr g dX12_is_25 (by decide) h
  · have h := h.1 c1
    refine lv_aload_n C.1 C.2.1 dX12_is_7 rfl (lv_at hl 0 rfl) ?_
    refine gx_getR C g fl_X12_20 dX12_is_8 sh_11 rfl (by decide) ?_
    refine lv_aload_n C.1 C.2.1 dX12_is_11 rfl (lv_at hl 0 rfl) ?_
    refine gx_getI C g fl_X12_230 dX12_is_12 sh_11 rfl ?_
    obtain ⟨i2, h⟩ := h
    refine gx_iald C g dX12_is_15 sh_50 i2 ?_
    refine lv_iload_n C.1 C.2.1 dX12_is_16 rfl (lv_at hl 1 rfl) ?_
    refine lv_icmp_ne (tgt := 24) C.1 C.2.1 dX12_is_17 (by decide) (fun c3 => ?_) (fun c3 => ?_)
    · have h := h.2 c3
      refine lv_iconst (v := 0) C.1 C.2.1 dX12_is_24 (by decide) ?_
      exact gx_zret C hr g dX12_is_25 (by decide) h
    · have h := h.1 c3
      refine lv_iconst (v := 1) C.1 C.2.1 dX12_is_20 (by decide) ?_
      refine lv_goto (tgt := 25) C.1 C.2.1 dX12_is_21 (by decide) ?_
      exact gx_zret C hr g dX12_is_25 (by decide) h
theorem mX12_is {l : Launch} {E : EE} {base : Nat} (x1 : Int32) (σ : St) (Q : Int32 → St → Prop) (h : wX12_is x1 σ Q) : Met l yX12_is (wy yX12_is cX12_is 2 (some .boolean)) rmX12_is (va_Pc [.ref (ga E 11), .int x1] (fun U => SW E base σ U)) (QI E base Q) (rmX12_is).cells (rmX12_is).slots (fun q => base ≤ q) :=
  met_of (by decide) (Nat.le_of_ble_eq_true rfl) (fun p e s m args below meth c C hr g ls hl => tX12_is_e C hr x1 _ _ _ _ hl g h)
abbrev rmX12_fail : Room := { frames := 0, cells := 0, slots := 0, locals := 0 }
def wX12_fail (x1 : Int32) (σ : St) (Q : St → Prop) : Prop := (((gv σ 11 13) ≤ 0 → ∀ σ2 : St, σ2 = pv σ 11 13 x1 → vp_in (gv σ2 11 11) 603 ∧ ∀ σ4 : St, σ4 = pv σ2 11 14 (gv σ2 51 (gv σ2 11 11).toNatClampNeg) → Q σ4) ∧ (¬ ((gv σ 11 13) ≤ 0) → Q σ))
set_option maxHeartbeats 4000000 in
set_option maxRecDepth 100000 in
theorem tX12_fail_e {p : Program} {l : Launch} {e : Env} {s : State} {m : MethodId} {args : Array Value} {below : List Frame} {meth : Method} {c : Code} {E : EE} {base : Nat} (C : Cx p E base s m args meth c cX12_fail 2 RX12) (hr : meth.sig.returnType = none) {Q : St → Prop} : ∀ (x1 : Int32) (σ : St) (H : Heap) (locs : List Loc) (ls : Array Slot), lv_has ls 2 [(0, .ref (ga E 11)), (1, .int x1)] → GW E base s σ H locs → wX12_fail x1 σ Q → W p l e rmX12_fail s m args below meth c H locs 0 0 (MQ below (QV E base Q) args s 0 0 (fun q => base ≤ q)) (F0 m 0 ls []) := by
  intro x1 σ H locs ls hl g h
  refine lv_aload_n C.1 C.2.1 dX12_fail_0 rfl (lv_at hl 0 rfl) ?_
  refine gx_getI C g fl_X12_227 dX12_fail_1 sh_11 rfl ?_
  refine lv_if_le (tgt := 8) C.1 C.2.1 dX12_fail_4 (by decide) (fun c1 => ?_) (fun c1 => ?_)
  · have h := h.1 c1
    refine lv_aload_n C.1 C.2.1 dX12_fail_8 rfl (lv_at hl 0 rfl) ?_
    refine lv_iload_n C.1 C.2.1 dX12_fail_9 rfl (lv_at hl 1 rfl) ?_
    refine gx_putI C g fi_X12_227 dX12_fail_10 sh_11 rfl (fun H locs σ2 eσ2 g => ?_)
    have h := h σ2 eσ2
    refine lv_aload_n C.1 C.2.1 dX12_fail_13 rfl (lv_at hl 0 rfl) ?_
    refine lv_aload_n C.1 C.2.1 dX12_fail_14 rfl (lv_at hl 0 rfl) ?_
    refine gx_getR C g fl_X12_24 dX12_fail_15 sh_11 rfl (by decide) ?_
    refine lv_aload_n C.1 C.2.1 dX12_fail_18 rfl (lv_at hl 0 rfl) ?_
    refine gx_getI C g fl_X12_230 dX12_fail_19 sh_11 rfl ?_
    obtain ⟨i3, h⟩ := h
    refine gx_iald C g dX12_fail_22 sh_51 i3 ?_
    refine gx_putI C g fi_X12_233 dX12_fail_23 sh_11 rfl (fun H locs σ4 eσ4 g => ?_)
    have h := h σ4 eσ4
    exact gx_vret C hr g dX12_fail_26 h
  · have h := h.2 c1
    exact gx_vret C hr g dX12_fail_7 h
theorem mX12_fail {l : Launch} {E : EE} {base : Nat} (x1 : Int32) (σ : St) (Q : St → Prop) (h : wX12_fail x1 σ Q) : Met l yX12_fail (wy yX12_fail cX12_fail 2 none) rmX12_fail (va_Pc [.ref (ga E 11), .int x1] (fun U => SW E base σ U)) (QV E base Q) (rmX12_fail).cells (rmX12_fail).slots (fun q => base ≤ q) :=
  met_of (by decide) (Nat.le_of_ble_eq_true rfl) (fun p e s m args below meth c C hr g ls hl => tX12_fail_e C hr x1 _ _ _ _ hl g h)
abbrev rmX12_wrong : Room := { frames := 0, cells := 0, slots := 0, locals := 0 }
def wX12_wrong_46 (Q : St → Prop) (x1 : Int32) (x3 : Int32) (σ : St) : Prop := ∀ σ1 : St, σ1 = pv σ 11 15 x1 → ∀ σ2 : St, σ2 = pv σ1 11 16 x3 → Q σ2
def wX12_wrong (x1 : Int32) (x2 : Int32) (σ : St) (Q : St → Prop) : Prop := vp_in x2 603 ∧ ∀ x3_2 : Int32, x3_2 = gv σ 51 x2.toNatClampNeg → ((0 < (gv σ 11 13) → Q σ) ∧ (¬ (0 < (gv σ 11 13)) → (((gv σ 11 15) = 0 → wX12_wrong_46 Q x1 x3_2 σ) ∧ (¬ ((gv σ 11 15) = 0) → (((gv σ 11 16) < x3_2 → Q σ) ∧ (¬ ((gv σ 11 16) < x3_2) → ((x3_2 = (gv σ 11 16) → ((x1 < (gv σ 11 15) → wX12_wrong_46 Q x1 x3_2 σ) ∧ (¬ (x1 < (gv σ 11 15)) → Q σ))) ∧ (¬ (x3_2 = (gv σ 11 16)) → wX12_wrong_46 Q x1 x3_2 σ))))))))
set_option maxHeartbeats 4000000 in
set_option maxRecDepth 100000 in
theorem tX12_wrong_46 {p : Program} {l : Launch} {e : Env} {s : State} {m : MethodId} {args : Array Value} {below : List Frame} {meth : Method} {c : Code} {E : EE} {base : Nat} (C : Cx p E base s m args meth c cX12_wrong 4 RX12) (hr : meth.sig.returnType = none) {Q : St → Prop} : ∀ (x1 : Int32) (x3 : Int32) (σ : St) (H : Heap) (locs : List Loc) (ls : Array Slot), lv_has ls 4 [(0, .ref (ga E 11)), (1, .int x1), (3, .int x3)] → GW E base s σ H locs → wX12_wrong_46 Q x1 x3 σ → W p l e rmX12_wrong s m args below meth c H locs 0 0 (MQ below (QV E base Q) args s 0 0 (fun q => base ≤ q)) (F0 m 46 ls []) := by
  intro x1 x3 σ H locs ls hl g h
  refine lv_aload_n C.1 C.2.1 dX12_wrong_46 rfl (lv_at hl 0 rfl) ?_
  refine lv_iload_n C.1 C.2.1 dX12_wrong_47 rfl (lv_at hl 1 rfl) ?_
  refine gx_putI C g fi_X12_236 dX12_wrong_48 sh_11 rfl (fun H locs σ1 eσ1 g => ?_)
  have h := h σ1 eσ1
  refine lv_aload_n C.1 C.2.1 dX12_wrong_51 rfl (lv_at hl 0 rfl) ?_
  refine lv_iload_n C.1 C.2.1 dX12_wrong_52 rfl (lv_at hl 2 rfl) ?_
  refine gx_putI C g fi_X12_239 dX12_wrong_53 sh_11 rfl (fun H locs σ2 eσ2 g => ?_)
  have h := h σ2 eσ2
  exact gx_vret C hr g dX12_wrong_56 h
set_option maxHeartbeats 4000000 in
set_option maxRecDepth 100000 in
theorem tX12_wrong_e {p : Program} {l : Launch} {e : Env} {s : State} {m : MethodId} {args : Array Value} {below : List Frame} {meth : Method} {c : Code} {E : EE} {base : Nat} (C : Cx p E base s m args meth c cX12_wrong 4 RX12) (hr : meth.sig.returnType = none) {Q : St → Prop} : ∀ (x1 : Int32) (x2 : Int32) (σ : St) (H : Heap) (locs : List Loc) (ls : Array Slot), lv_has ls 4 [(0, .ref (ga E 11)), (1, .int x1), (2, .int x2)] → GW E base s σ H locs → wX12_wrong x1 x2 σ Q → W p l e rmX12_wrong s m args below meth c H locs 0 0 (MQ below (QV E base Q) args s 0 0 (fun q => base ≤ q)) (F0 m 0 ls []) := by
  intro x1 x2 σ H locs ls hl g h
  refine lv_aload_n C.1 C.2.1 dX12_wrong_0 rfl (lv_at hl 0 rfl) ?_
  refine gx_getR C g fl_X12_24 dX12_wrong_1 sh_11 rfl (by decide) ?_
  refine lv_iload_n C.1 C.2.1 dX12_wrong_4 rfl (lv_at hl 2 rfl) ?_
  obtain ⟨i1, h⟩ := h
  refine gx_iald C g dX12_wrong_5 sh_51 i1 ?_
  refine lv_topi (fun x3_2 ex3_2 => ?_)
  have h := h x3_2 ex3_2
  refine lv_istore_n (lv' := [(3, .int x3_2), (0, .ref (ga E 11)), (1, .int x1), (2, .int x2)]) C.1 C.2.1 dX12_wrong_6 rfl hl (by decide) rfl (fun ls hl => ?_)
  refine lv_aload_n C.1 C.2.1 dX12_wrong_7 rfl (lv_at hl 1 rfl) ?_
  refine gx_getI C g fl_X12_227 dX12_wrong_8 sh_11 rfl ?_
  refine lv_if_gt (tgt := 45) C.1 C.2.1 dX12_wrong_11 (by decide) (fun c3 => ?_) (fun c3 => ?_)
  · have h := h.1 c3
    exact gx_vret C hr g dX12_wrong_45 h
  · have h := h.2 c3
    refine lv_aload_n C.1 C.2.1 dX12_wrong_14 rfl (lv_at hl 1 rfl) ?_
    refine gx_getI C g fl_X12_236 dX12_wrong_15 sh_11 rfl ?_
    refine lv_if_eq (tgt := 46) C.1 C.2.1 dX12_wrong_18 (by decide) (fun c4 => ?_) (fun c4 => ?_)
    · have h := h.1 c4
      exact tX12_wrong_46 C hr x1 x3_2 _ _ _ _ (lv_sub hl [1, 2, 0] rfl) g h
    · have h := h.2 c4
      refine lv_iload_n C.1 C.2.1 dX12_wrong_21 rfl (lv_at hl 0 rfl) ?_
      refine lv_aload_n C.1 C.2.1 dX12_wrong_22 rfl (lv_at hl 1 rfl) ?_
      refine gx_getI C g fl_X12_239 dX12_wrong_23 sh_11 rfl ?_
      refine lv_icmp_gt (tgt := 45) C.1 C.2.1 dX12_wrong_26 (by decide) (fun c5 => ?_) (fun c5 => ?_)
      · have h := h.1 c5
        exact gx_vret C hr g dX12_wrong_45 h
      · have h := h.2 c5
        refine lv_iload_n C.1 C.2.1 dX12_wrong_29 rfl (lv_at hl 0 rfl) ?_
        refine lv_aload_n C.1 C.2.1 dX12_wrong_30 rfl (lv_at hl 1 rfl) ?_
        refine gx_getI C g fl_X12_239 dX12_wrong_31 sh_11 rfl ?_
        refine lv_icmp_ne (tgt := 46) C.1 C.2.1 dX12_wrong_34 (by decide) (fun c6 => ?_) (fun c6 => ?_)
        · have h := h.2 c6
          exact tX12_wrong_46 C hr x1 x3_2 _ _ _ _ (lv_sub hl [1, 2, 0] rfl) g h
        · have h := h.1 c6
          refine lv_iload_n C.1 C.2.1 dX12_wrong_37 rfl (lv_at hl 2 rfl) ?_
          refine lv_aload_n C.1 C.2.1 dX12_wrong_38 rfl (lv_at hl 1 rfl) ?_
          refine gx_getI C g fl_X12_236 dX12_wrong_39 sh_11 rfl ?_
          refine lv_icmp_lt (tgt := 46) C.1 C.2.1 dX12_wrong_42 (by decide) (fun c7 => ?_) (fun c7 => ?_)
          · have h := h.1 c7
            exact tX12_wrong_46 C hr x1 x3_2 _ _ _ _ (lv_sub hl [1, 2, 0] rfl) g h
          · have h := h.2 c7
            exact gx_vret C hr g dX12_wrong_45 h
theorem mX12_wrong {l : Launch} {E : EE} {base : Nat} (x1 : Int32) (x2 : Int32) (σ : St) (Q : St → Prop) (h : wX12_wrong x1 x2 σ Q) : Met l yX12_wrong (wy yX12_wrong cX12_wrong 4 none) rmX12_wrong (va_Pc [.ref (ga E 11), .int x1, .int x2] (fun U => SW E base σ U)) (QV E base Q) (rmX12_wrong).cells (rmX12_wrong).slots (fun q => base ≤ q) :=
  met_of (by decide) (Nat.le_of_ble_eq_true rfl) (fun p e s m args below meth c C hr g ls hl => tX12_wrong_e C hr x1 x2 _ _ _ _ hl g h)
abbrev rmX12_next : Room := { frames := 1, cells := 0, slots := 0, locals := 21 }
def wX12_next (σ : St) (Q : St → Prop) : Prop := (((gv σ 11 11) = (600 : Int32) → wX12_fail (2 : Int32) σ (fun (σ4 : St) => Q σ4)) ∧ (¬ ((gv σ 11 11) = (600 : Int32)) → ∀ σ2 : St, σ2 = pv σ 11 11 ((gv σ 11 11) + (1 : Int32)) → Q σ2))
set_option maxHeartbeats 4000000 in
set_option maxRecDepth 100000 in
theorem tX12_next_e {p : Program} {l : Launch} {e : Env} {s : State} {m : MethodId} {args : Array Value} {below : List Frame} {meth : Method} {c : Code} {E : EE} {base : Nat} (C : Cx p E base s m args meth c cX12_next 1 RX12) (hr : meth.sig.returnType = none) {Q : St → Prop} : ∀ (σ : St) (H : Heap) (locs : List Loc) (ls : Array Slot), lv_has ls 1 [(0, .ref (ga E 11))] → GW E base s σ H locs → wX12_next σ Q → W p l e rmX12_next s m args below meth c H locs 0 0 (MQ below (QV E base Q) args s 0 0 (fun q => base ≤ q)) (F0 m 0 ls []) := by
  intro σ H locs ls hl g h
  refine lv_aload_n C.1 C.2.1 dX12_next_0 rfl (lv_at hl 0 rfl) ?_
  refine gx_getI C g fl_X12_230 dX12_next_1 sh_11 rfl ?_
  refine lv_sipush (v := 600) C.1 C.2.1 dX12_next_4 (by decide) ?_
  refine lv_icmp_ne (tgt := 18) C.1 C.2.1 dX12_next_7 (by decide) (fun c1 => ?_) (fun c1 => ?_)
  · have h := h.2 c1
    refine lv_aload_n C.1 C.2.1 dX12_next_18 rfl (lv_at hl 0 rfl) ?_
    refine lv_dup C.1 C.2.1 dX12_next_19 rfl ?_
    refine gx_getI C g fl_X12_230 dX12_next_20 sh_11 rfl ?_
    refine lv_iconst (v := 1) C.1 C.2.1 dX12_next_23 (by decide) ?_
    refine lv_iadd C.1 C.2.1 dX12_next_24 ?_
    refine gx_putI C g fi_X12_230 dX12_next_25 sh_11 rfl (fun H locs σ2 eσ2 g => ?_)
    have h := h σ2 eσ2
    exact gx_vret C hr g dX12_next_28 h
  · have h := h.1 c1
    refine lv_aload_n C.1 C.2.1 dX12_next_10 rfl (lv_at hl 0 rfl) ?_
    refine lv_iconst (v := 2) C.1 C.2.1 dX12_next_11 (by decide) ?_
    refine gx_callv0 g (gx_runV (k := 11) (rest := []) C g mb_X12_fail ml_X12_242 rfl sh_11 (mX12_fail (2 : Int32) _ _ h) ⟨Nat.le_of_ble_eq_true rfl, Nat.le_of_ble_eq_true rfl⟩ ⟨Nat.le_refl _, Nat.le_refl _⟩ rfl hl.1 rfl (Nat.le_of_ble_eq_true rfl) dX12_next_12) rfl rfl (fun σ4 H locs h g => ?_)
    refine lv_goto (tgt := 28) C.1 C.2.1 dX12_next_15 (by decide) ?_
    exact gx_vret C hr g dX12_next_28 h
theorem mX12_next {l : Launch} {E : EE} {base : Nat} (σ : St) (Q : St → Prop) (h : wX12_next σ Q) : Met l yX12_next (wy yX12_next cX12_next 1 none) rmX12_next (va_Pc [.ref (ga E 11)] (fun U => SW E base σ U)) (QV E base Q) (rmX12_next).cells (rmX12_next).slots (fun q => base ≤ q) :=
  met_of (by decide) (Nat.le_of_ble_eq_true rfl) (fun p e s m args below meth c C hr g ls hl => tX12_next_e C hr  _ _ _ _ hl g h)
abbrev rmX12_must : Room := { frames := 2, cells := 0, slots := 0, locals := 41 }
def wX12_must (x1 : Int32) (σ : St) (Q : St → Prop) : Prop := wX12_is x1 σ (fun (r1 : Int32) (σ2 : St) => ((r1 = 0 → wX12_fail (1 : Int32) σ2 (fun (σ5 : St) => Q σ5)) ∧ (¬ (r1 = 0) → wX12_next σ2 (fun (σ7 : St) => Q σ7))))
set_option maxHeartbeats 4000000 in
set_option maxRecDepth 100000 in
theorem tX12_must_e {p : Program} {l : Launch} {e : Env} {s : State} {m : MethodId} {args : Array Value} {below : List Frame} {meth : Method} {c : Code} {E : EE} {base : Nat} (C : Cx p E base s m args meth c cX12_must 2 RX12) (hr : meth.sig.returnType = none) {Q : St → Prop} : ∀ (x1 : Int32) (σ : St) (H : Heap) (locs : List Loc) (ls : Array Slot), lv_has ls 2 [(0, .ref (ga E 11)), (1, .int x1)] → GW E base s σ H locs → wX12_must x1 σ Q → W p l e rmX12_must s m args below meth c H locs 0 0 (MQ below (QV E base Q) args s 0 0 (fun q => base ≤ q)) (F0 m 0 ls []) := by
  intro x1 σ H locs ls hl g h
  refine lv_aload_n C.1 C.2.1 dX12_must_0 rfl (lv_at hl 0 rfl) ?_
  refine lv_iload_n C.1 C.2.1 dX12_must_1 rfl (lv_at hl 1 rfl) ?_
  refine gx_calli0 g (gx_runV (k := 11) (rest := []) C g mb_X12_is ml_X12_245 rfl sh_11 (mX12_is x1 _ _ h) ⟨Nat.le_of_ble_eq_true rfl, Nat.le_of_ble_eq_true rfl⟩ ⟨Nat.le_refl _, Nat.le_refl _⟩ rfl hl.1 rfl (Nat.le_of_ble_eq_true rfl) dX12_must_2) rfl rfl (fun r1 σ2 H locs h g => ?_)
  refine lv_if_eq (tgt := 15) C.1 C.2.1 dX12_must_5 (by decide) (fun c3 => ?_) (fun c3 => ?_)
  · have h := h.1 c3
    refine lv_aload_n C.1 C.2.1 dX12_must_15 rfl (lv_at hl 0 rfl) ?_
    refine lv_iconst (v := 1) C.1 C.2.1 dX12_must_16 (by decide) ?_
    refine gx_callv0 g (gx_runV (k := 11) (rest := []) C g mb_X12_fail ml_X12_242 rfl sh_11 (mX12_fail (1 : Int32) _ _ h) ⟨Nat.le_of_ble_eq_true rfl, Nat.le_of_ble_eq_true rfl⟩ ⟨Nat.le_refl _, Nat.le_refl _⟩ rfl hl.1 rfl (Nat.le_of_ble_eq_true rfl) dX12_must_17) rfl rfl (fun σ5 H locs h g => ?_)
    exact gx_vret C hr g dX12_must_20 h
  · have h := h.2 c3
    refine lv_aload_n C.1 C.2.1 dX12_must_8 rfl (lv_at hl 0 rfl) ?_
    refine gx_callv0 g (gx_runV (k := 11) (rest := []) C g mb_X12_next ml_X12_248 rfl sh_11 (mX12_next _ _ h) ⟨Nat.le_of_ble_eq_true rfl, Nat.le_of_ble_eq_true rfl⟩ ⟨Nat.le_refl _, Nat.le_refl _⟩ rfl hl.1 rfl (Nat.le_of_ble_eq_true rfl) dX12_must_9) rfl rfl (fun σ7 H locs h g => ?_)
    refine lv_goto (tgt := 20) C.1 C.2.1 dX12_must_12 (by decide) ?_
    exact gx_vret C hr g dX12_must_20 h
theorem mX12_must {l : Launch} {E : EE} {base : Nat} (x1 : Int32) (σ : St) (Q : St → Prop) (h : wX12_must x1 σ Q) : Met l yX12_must (wy yX12_must cX12_must 2 none) rmX12_must (va_Pc [.ref (ga E 11), .int x1] (fun U => SW E base σ U)) (QV E base Q) (rmX12_must).cells (rmX12_must).slots (fun q => base ≤ q) :=
  met_of (by decide) (Nat.le_of_ble_eq_true rfl) (fun p e s m args below meth c C hr g ls hl => tX12_must_e C hr x1 _ _ _ _ hl g h)
abbrev rmX12_emit : Room := { frames := 0, cells := 0, slots := 0, locals := 0 }
def wX12_emit (x1 : Int32) (x2 : Int32) (σ : St) (Q : St → Prop) : Prop := vp_in (gv σ 11 38) 20000 ∧ ∀ σ2 : St, σ2 = pv σ 70 (gv σ 11 38).toNatClampNeg x1 → vp_in (gv σ2 11 38) 20000 ∧ ∀ σ4 : St, σ4 = pv σ2 71 (gv σ2 11 38).toNatClampNeg x2 → ∀ σ5 : St, σ5 = pv σ4 11 38 ((gv σ4 11 38) + (1 : Int32)) → Q σ5
set_option maxHeartbeats 4000000 in
set_option maxRecDepth 100000 in
theorem tX12_emit_e {p : Program} {l : Launch} {e : Env} {s : State} {m : MethodId} {args : Array Value} {below : List Frame} {meth : Method} {c : Code} {E : EE} {base : Nat} (C : Cx p E base s m args meth c cX12_emit 3 RX12) (hr : meth.sig.returnType = none) {Q : St → Prop} : ∀ (x1 : Int32) (x2 : Int32) (σ : St) (H : Heap) (locs : List Loc) (ls : Array Slot), lv_has ls 3 [(0, .ref (ga E 11)), (1, .int x1), (2, .int x2)] → GW E base s σ H locs → wX12_emit x1 x2 σ Q → W p l e rmX12_emit s m args below meth c H locs 0 0 (MQ below (QV E base Q) args s 0 0 (fun q => base ≤ q)) (F0 m 0 ls []) := by
  intro x1 x2 σ H locs ls hl g h
  refine lv_aload_n C.1 C.2.1 dX12_emit_0 rfl (lv_at hl 0 rfl) ?_
  refine gx_getR C g fl_X12_86 dX12_emit_1 sh_11 rfl (by decide) ?_
  refine lv_aload_n C.1 C.2.1 dX12_emit_4 rfl (lv_at hl 0 rfl) ?_
  refine gx_getI C g fl_X12_272 dX12_emit_5 sh_11 rfl ?_
  refine lv_iload_n C.1 C.2.1 dX12_emit_8 rfl (lv_at hl 1 rfl) ?_
  obtain ⟨i1, h⟩ := h
  refine gx_iast C g dX12_emit_9 sh_70 i1 (fun H locs σ2 eσ2 g => ?_)
  have h := h σ2 eσ2
  refine lv_aload_n C.1 C.2.1 dX12_emit_10 rfl (lv_at hl 0 rfl) ?_
  refine gx_getR C g fl_X12_89 dX12_emit_11 sh_11 rfl (by decide) ?_
  refine lv_aload_n C.1 C.2.1 dX12_emit_14 rfl (lv_at hl 0 rfl) ?_
  refine gx_getI C g fl_X12_272 dX12_emit_15 sh_11 rfl ?_
  refine lv_iload_n C.1 C.2.1 dX12_emit_18 rfl (lv_at hl 2 rfl) ?_
  obtain ⟨i3, h⟩ := h
  refine gx_iast C g dX12_emit_19 sh_71 i3 (fun H locs σ4 eσ4 g => ?_)
  have h := h σ4 eσ4
  refine lv_aload_n C.1 C.2.1 dX12_emit_20 rfl (lv_at hl 0 rfl) ?_
  refine lv_dup C.1 C.2.1 dX12_emit_21 rfl ?_
  refine gx_getI C g fl_X12_272 dX12_emit_22 sh_11 rfl ?_
  refine lv_iconst (v := 1) C.1 C.2.1 dX12_emit_25 (by decide) ?_
  refine lv_iadd C.1 C.2.1 dX12_emit_26 ?_
  refine gx_putI C g fi_X12_272 dX12_emit_27 sh_11 rfl (fun H locs σ5 eσ5 g => ?_)
  have h := h σ5 eσ5
  exact gx_vret C hr g dX12_emit_30 h
theorem mX12_emit {l : Launch} {E : EE} {base : Nat} (x1 : Int32) (x2 : Int32) (σ : St) (Q : St → Prop) (h : wX12_emit x1 x2 σ Q) : Met l yX12_emit (wy yX12_emit cX12_emit 3 none) rmX12_emit (va_Pc [.ref (ga E 11), .int x1, .int x2] (fun U => SW E base σ U)) (QV E base Q) (rmX12_emit).cells (rmX12_emit).slots (fun q => base ≤ q) :=
  met_of (by decide) (Nat.le_of_ble_eq_true rfl) (fun p e s m args below meth c C hr g ls hl => tX12_emit_e C hr x1 x2 _ _ _ _ hl g h)
abbrev rmX12_comesOut : Room := { frames := 1, cells := 0, slots := 0, locals := 22 }
def wX12_comesOut_95 (Q : St → Prop) (K0 : Int32 → St → Prop) (x1 : Int32) (xt1 : Int32) (σ : St) : Prop := wX12_emit xt1 (0 : Int32) σ (fun (σ2 : St) => K0 x1 σ2)
def wX12_comesOut_43 (Q : St → Prop) (K0 : Int32 → St → Prop) (x1 : Int32) (σ : St) : Prop := ∀ σ1 : St, σ1 = pv σ 11 42 ((gv σ 11 42) - (1 : Int32)) → vp_in (gv σ1 11 42) 64 ∧ ∀ x2_3 : Int32, x2_3 = gv σ1 72 (gv σ1 11 42).toNatClampNeg → ((x2_3 = (8 : Int32) → wX12_comesOut_95 Q K0 x1 (2 : Int32) σ1) ∧ (¬ (x2_3 = (8 : Int32)) → ((x2_3 = (9 : Int32) → wX12_comesOut_95 Q K0 x1 (3 : Int32) σ1) ∧ (¬ (x2_3 = (9 : Int32)) → ((x2_3 = (10 : Int32) → wX12_comesOut_95 Q K0 x1 (4 : Int32) σ1) ∧ (¬ (x2_3 = (10 : Int32)) → wX12_comesOut_95 Q K0 x1 (5 : Int32) σ1))))))
def wX12_comesOut_0 (Q : St → Prop) : Nat → Int32 → St → Prop
  | 0, _, _ => False
  | n + 1, x1, σ => (((gv σ 11 42) ≤ 0 → Q σ) ∧ (¬ ((gv σ 11 42) ≤ 0) → vp_in ((gv σ 11 42) - (1 : Int32)) 64 ∧ (((gv σ 72 ((gv σ 11 42) - (1 : Int32)).toNatClampNeg) = (6 : Int32) → Q σ) ∧ (¬ ((gv σ 72 ((gv σ 11 42) - (1 : Int32)).toNatClampNeg) = (6 : Int32)) → ((x1 = 0 → wX12_comesOut_43 Q (fun x1' σ' => wX12_comesOut_0 Q n x1' σ') x1 σ) ∧ (¬ (x1 = 0) → vp_in ((gv σ 11 42) - (1 : Int32)) 64 ∧ (((gv σ 72 ((gv σ 11 42) - (1 : Int32)).toNatClampNeg) = (10 : Int32) → wX12_comesOut_43 Q (fun x1' σ' => wX12_comesOut_0 Q n x1' σ') x1 σ) ∧ (¬ ((gv σ 72 ((gv σ 11 42) - (1 : Int32)).toNatClampNeg) = (10 : Int32)) → Q σ))))))))
def wX12_comesOut (x1 : Int32) (σ : St) (Q : St → Prop) : Prop := ∃ j : Nat, wX12_comesOut_0 Q j x1 σ
set_option maxHeartbeats 4000000 in
set_option maxRecDepth 100000 in
theorem tX12_comesOut_95 {p : Program} {l : Launch} {e : Env} {s : State} {m : MethodId} {args : Array Value} {below : List Frame} {meth : Method} {c : Code} {E : EE} {base : Nat} (C : Cx p E base s m args meth c cX12_comesOut 3 RX12) (hr : meth.sig.returnType = none) {Q : St → Prop} {K0 : Int32 → St → Prop} (hK0 : ∀ (x1 : Int32) (σ : St) (H : Heap) (locs : List Loc) (ls : Array Slot), lv_has ls 3 [(0, .ref (ga E 11)), (1, .int x1)] → GW E base s σ H locs → K0 x1 σ → W p l e rmX12_comesOut s m args below meth c H locs 0 0 (MQ below (QV E base Q) args s 0 0 (fun q => base ≤ q)) (F0 m 0 ls [])) : ∀ (x1 : Int32) (xt1 : Int32) (σ : St) (H : Heap) (locs : List Loc) (ls : Array Slot), lv_has ls 3 [(0, .ref (ga E 11)), (1, .int x1)] → GW E base s σ H locs → wX12_comesOut_95 Q K0 x1 xt1 σ → W p l e rmX12_comesOut s m args below meth c H locs 0 0 (MQ below (QV E base Q) args s 0 0 (fun q => base ≤ q)) (F0 m 95 ls [.int xt1, .ref (ga E 11)]) := by
  intro x1 xt1 σ H locs ls hl g h
  refine lv_iconst (v := 0) C.1 C.2.1 dX12_comesOut_95 (by decide) ?_
  refine gx_callv0 g (gx_runV (k := 11) (rest := []) C g mb_X12_emit ml_X12_300 rfl sh_11 (mX12_emit xt1 (0 : Int32) _ _ h) ⟨Nat.le_of_ble_eq_true rfl, Nat.le_of_ble_eq_true rfl⟩ ⟨Nat.le_refl _, Nat.le_refl _⟩ rfl hl.1 rfl (Nat.le_of_ble_eq_true rfl) dX12_comesOut_96) rfl rfl (fun σ2 H locs h g => ?_)
  refine lv_goto (tgt := 0) C.1 C.2.1 dX12_comesOut_99 (by decide) ?_
  exact hK0 x1 _ _ _ _ (lv_sub hl [0, 1] rfl) g h
set_option maxHeartbeats 4000000 in
set_option maxRecDepth 100000 in
theorem tX12_comesOut_43 {p : Program} {l : Launch} {e : Env} {s : State} {m : MethodId} {args : Array Value} {below : List Frame} {meth : Method} {c : Code} {E : EE} {base : Nat} (C : Cx p E base s m args meth c cX12_comesOut 3 RX12) (hr : meth.sig.returnType = none) {Q : St → Prop} {K0 : Int32 → St → Prop} (hK0 : ∀ (x1 : Int32) (σ : St) (H : Heap) (locs : List Loc) (ls : Array Slot), lv_has ls 3 [(0, .ref (ga E 11)), (1, .int x1)] → GW E base s σ H locs → K0 x1 σ → W p l e rmX12_comesOut s m args below meth c H locs 0 0 (MQ below (QV E base Q) args s 0 0 (fun q => base ≤ q)) (F0 m 0 ls [])) : ∀ (x1 : Int32) (σ : St) (H : Heap) (locs : List Loc) (ls : Array Slot), lv_has ls 3 [(0, .ref (ga E 11)), (1, .int x1)] → GW E base s σ H locs → wX12_comesOut_43 Q K0 x1 σ → W p l e rmX12_comesOut s m args below meth c H locs 0 0 (MQ below (QV E base Q) args s 0 0 (fun q => base ≤ q)) (F0 m 43 ls []) := by
  intro x1 σ H locs ls hl g h
  refine lv_aload_n C.1 C.2.1 dX12_comesOut_43 rfl (lv_at hl 0 rfl) ?_
  refine lv_dup C.1 C.2.1 dX12_comesOut_44 rfl ?_
  refine gx_getI C g fl_X12_297 dX12_comesOut_45 sh_11 rfl ?_
  refine lv_iconst (v := 1) C.1 C.2.1 dX12_comesOut_48 (by decide) ?_
  refine lv_isub C.1 C.2.1 dX12_comesOut_49 ?_
  refine gx_putI C g fi_X12_297 dX12_comesOut_50 sh_11 rfl (fun H locs σ1 eσ1 g => ?_)
  have h := h σ1 eσ1
  refine lv_aload_n C.1 C.2.1 dX12_comesOut_53 rfl (lv_at hl 0 rfl) ?_
  refine gx_getR C g fl_X12_92 dX12_comesOut_54 sh_11 rfl (by decide) ?_
  refine lv_aload_n C.1 C.2.1 dX12_comesOut_57 rfl (lv_at hl 0 rfl) ?_
  refine gx_getI C g fl_X12_297 dX12_comesOut_58 sh_11 rfl ?_
  obtain ⟨i2, h⟩ := h
  refine gx_iald C g dX12_comesOut_61 sh_72 i2 ?_
  refine lv_topi (fun x2_3 ex2_3 => ?_)
  have h := h x2_3 ex2_3
  refine lv_istore_n (lv' := [(2, .int x2_3), (0, .ref (ga E 11)), (1, .int x1)]) C.1 C.2.1 dX12_comesOut_62 rfl hl (by decide) rfl (fun ls hl => ?_)
  refine lv_aload_n C.1 C.2.1 dX12_comesOut_63 rfl (lv_at hl 1 rfl) ?_
  refine lv_iload_n C.1 C.2.1 dX12_comesOut_64 rfl (lv_at hl 0 rfl) ?_
  refine lv_bipush (v := 8) C.1 C.2.1 dX12_comesOut_65 (by decide) ?_
  refine lv_icmp_ne (tgt := 74) C.1 C.2.1 dX12_comesOut_67 (by decide) (fun c4 => ?_) (fun c4 => ?_)
  · have h := h.2 c4
    refine lv_iload_n C.1 C.2.1 dX12_comesOut_74 rfl (lv_at hl 0 rfl) ?_
    refine lv_bipush (v := 9) C.1 C.2.1 dX12_comesOut_75 (by decide) ?_
    refine lv_icmp_ne (tgt := 84) C.1 C.2.1 dX12_comesOut_77 (by decide) (fun c5 => ?_) (fun c5 => ?_)
    · have h := h.2 c5
      refine lv_iload_n C.1 C.2.1 dX12_comesOut_84 rfl (lv_at hl 0 rfl) ?_
      refine lv_bipush (v := 10) C.1 C.2.1 dX12_comesOut_85 (by decide) ?_
      refine lv_icmp_ne (tgt := 94) C.1 C.2.1 dX12_comesOut_87 (by decide) (fun c6 => ?_) (fun c6 => ?_)
      · have h := h.2 c6
        refine lv_iconst (v := 5) C.1 C.2.1 dX12_comesOut_94 (by decide) ?_
        exact tX12_comesOut_95 C hr hK0 x1 (5 : Int32) _ _ _ _ (lv_sub hl [1, 2] rfl) g h
      · have h := h.1 c6
        refine lv_iconst (v := 4) C.1 C.2.1 dX12_comesOut_90 (by decide) ?_
        refine lv_goto (tgt := 95) C.1 C.2.1 dX12_comesOut_91 (by decide) ?_
        exact tX12_comesOut_95 C hr hK0 x1 (4 : Int32) _ _ _ _ (lv_sub hl [1, 2] rfl) g h
    · have h := h.1 c5
      refine lv_iconst (v := 3) C.1 C.2.1 dX12_comesOut_80 (by decide) ?_
      refine lv_goto (tgt := 95) C.1 C.2.1 dX12_comesOut_81 (by decide) ?_
      exact tX12_comesOut_95 C hr hK0 x1 (3 : Int32) _ _ _ _ (lv_sub hl [1, 2] rfl) g h
  · have h := h.1 c4
    refine lv_iconst (v := 2) C.1 C.2.1 dX12_comesOut_70 (by decide) ?_
    refine lv_goto (tgt := 95) C.1 C.2.1 dX12_comesOut_71 (by decide) ?_
    exact tX12_comesOut_95 C hr hK0 x1 (2 : Int32) _ _ _ _ (lv_sub hl [1, 2] rfl) g h
set_option maxHeartbeats 4000000 in
set_option maxRecDepth 100000 in
theorem tX12_comesOut_0 {p : Program} {l : Launch} {e : Env} {s : State} {m : MethodId} {args : Array Value} {below : List Frame} {meth : Method} {c : Code} {E : EE} {base : Nat} (C : Cx p E base s m args meth c cX12_comesOut 3 RX12) (hr : meth.sig.returnType = none) {Q : St → Prop} : ∀ (n : Nat) (x1 : Int32) (σ : St) (H : Heap) (locs : List Loc) (ls : Array Slot), lv_has ls 3 [(0, .ref (ga E 11)), (1, .int x1)] → GW E base s σ H locs → wX12_comesOut_0 Q n x1 σ → W p l e rmX12_comesOut s m args below meth c H locs 0 0 (MQ below (QV E base Q) args s 0 0 (fun q => base ≤ q)) (F0 m 0 ls []) := by
  intro n
  induction n with
  | zero => intro _; intros; exact False.elim (by assumption)
  | succ n ih =>
    intro x1 σ H locs ls hl g h
    refine lv_aload_n C.1 C.2.1 dX12_comesOut_0 rfl (lv_at hl 0 rfl) ?_
    refine gx_getI C g fl_X12_297 dX12_comesOut_1 sh_11 rfl ?_
    refine lv_if_le (tgt := 102) C.1 C.2.1 dX12_comesOut_4 (by decide) (fun c1 => ?_) (fun c1 => ?_)
    · have h := h.1 c1
      exact gx_vret C hr g dX12_comesOut_102 h
    · have h := h.2 c1
      refine lv_aload_n C.1 C.2.1 dX12_comesOut_7 rfl (lv_at hl 0 rfl) ?_
      refine gx_getR C g fl_X12_92 dX12_comesOut_8 sh_11 rfl (by decide) ?_
      refine lv_aload_n C.1 C.2.1 dX12_comesOut_11 rfl (lv_at hl 0 rfl) ?_
      refine gx_getI C g fl_X12_297 dX12_comesOut_12 sh_11 rfl ?_
      refine lv_iconst (v := 1) C.1 C.2.1 dX12_comesOut_15 (by decide) ?_
      refine lv_isub C.1 C.2.1 dX12_comesOut_16 ?_
      obtain ⟨i2, h⟩ := h
      refine gx_iald C g dX12_comesOut_17 sh_72 i2 ?_
      refine lv_bipush (v := 6) C.1 C.2.1 dX12_comesOut_18 (by decide) ?_
      refine lv_icmp_eq (tgt := 102) C.1 C.2.1 dX12_comesOut_20 (by decide) (fun c3 => ?_) (fun c3 => ?_)
      · have h := h.1 c3
        exact gx_vret C hr g dX12_comesOut_102 h
      · have h := h.2 c3
        refine lv_iload_n C.1 C.2.1 dX12_comesOut_23 rfl (lv_at hl 1 rfl) ?_
        refine lv_if_eq (tgt := 43) C.1 C.2.1 dX12_comesOut_24 (by decide) (fun c4 => ?_) (fun c4 => ?_)
        · have h := h.1 c4
          exact tX12_comesOut_43 C hr ih x1 _ _ _ _ (lv_sub hl [0, 1] rfl) g h
        · have h := h.2 c4
          refine lv_aload_n C.1 C.2.1 dX12_comesOut_27 rfl (lv_at hl 0 rfl) ?_
          refine gx_getR C g fl_X12_92 dX12_comesOut_28 sh_11 rfl (by decide) ?_
          refine lv_aload_n C.1 C.2.1 dX12_comesOut_31 rfl (lv_at hl 0 rfl) ?_
          refine gx_getI C g fl_X12_297 dX12_comesOut_32 sh_11 rfl ?_
          refine lv_iconst (v := 1) C.1 C.2.1 dX12_comesOut_35 (by decide) ?_
          refine lv_isub C.1 C.2.1 dX12_comesOut_36 ?_
          obtain ⟨i5, h⟩ := h
          refine gx_iald C g dX12_comesOut_37 sh_72 i5 ?_
          refine lv_bipush (v := 10) C.1 C.2.1 dX12_comesOut_38 (by decide) ?_
          refine lv_icmp_ne (tgt := 102) C.1 C.2.1 dX12_comesOut_40 (by decide) (fun c6 => ?_) (fun c6 => ?_)
          · have h := h.2 c6
            exact gx_vret C hr g dX12_comesOut_102 h
          · have h := h.1 c6
            exact tX12_comesOut_43 C hr ih x1 _ _ _ _ (lv_sub hl [0, 1] rfl) g h
set_option maxHeartbeats 4000000 in
set_option maxRecDepth 100000 in
theorem tX12_comesOut_e {p : Program} {l : Launch} {e : Env} {s : State} {m : MethodId} {args : Array Value} {below : List Frame} {meth : Method} {c : Code} {E : EE} {base : Nat} (C : Cx p E base s m args meth c cX12_comesOut 3 RX12) (hr : meth.sig.returnType = none) {Q : St → Prop} : ∀ (x1 : Int32) (σ : St) (H : Heap) (locs : List Loc) (ls : Array Slot), lv_has ls 3 [(0, .ref (ga E 11)), (1, .int x1)] → GW E base s σ H locs → wX12_comesOut x1 σ Q → W p l e rmX12_comesOut s m args below meth c H locs 0 0 (MQ below (QV E base Q) args s 0 0 (fun q => base ≤ q)) (F0 m 0 ls []) := by
  intro x1 σ H locs ls hl g h
  obtain ⟨j, h⟩ := h
  exact tX12_comesOut_0 C hr j x1 _ _ _ _ (lv_sub hl [0, 1] rfl) g h
theorem mX12_comesOut {l : Launch} {E : EE} {base : Nat} (x1 : Int32) (σ : St) (Q : St → Prop) (h : wX12_comesOut x1 σ Q) : Met l yX12_comesOut (wy yX12_comesOut cX12_comesOut 3 none) rmX12_comesOut (va_Pc [.ref (ga E 11), .int x1] (fun U => SW E base σ U)) (QV E base Q) (rmX12_comesOut).cells (rmX12_comesOut).slots (fun q => base ≤ q) :=
  met_of (by decide) (Nat.le_of_ble_eq_true rfl) (fun p e s m args below meth c C hr g ls hl => tX12_comesOut_e C hr x1 _ _ _ _ hl g h)
abbrev rmX12_expression : Room := { frames := 2, cells := 0, slots := 0, locals := 44 }
def wX12_expression_375 (Q : St → Prop) (K14 : Int32 → Int32 → Int32 → St → Prop) (x1 : Int32) (x2 : Int32) (x3 : Int32) (x5 : Int32) (xt1 : Int32) (σ : St) : Prop := wX12_comesOut xt1 σ (fun (σ2 : St) => vp_in (gv σ2 11 42) 64 ∧ ∀ σ4 : St, σ4 = pv σ2 72 (gv σ2 11 42).toNatClampNeg x5 → ∀ σ5 : St, σ5 = pv σ4 11 42 ((gv σ4 11 42) + (1 : Int32)) → wX12_next σ5 (fun (σ7 : St) => K14 x1 x2 x3 σ7))
def wX12_expression_345 (Q : St → Prop) (σ : St) : Prop := wX12_comesOut (0 : Int32) σ (fun (σ2 : St) => Q σ2)
def wX12_expression_327 (Q : St → Prop) (K14 : Int32 → Int32 → Int32 → St → Prop) (x1 : Int32) (x2 : Int32) (xt0 : Int32) (σ : St) : Prop := ((xt0 = 0 → (((gv σ 11 12) ≤ x1 → wX12_expression_345 Q σ) ∧ (¬ ((gv σ 11 12) ≤ x1) → wX12_fail (1 : Int32) σ (fun (σ7 : St) => wX12_expression_345 Q σ7)))) ∧ (¬ (xt0 = 0) → vp_in (gv σ 11 11) 603 ∧ ∀ x5_3 : Int32, x5_3 = gv σ 50 (gv σ 11 11).toNatClampNeg → ((x5_3 = (10 : Int32) → wX12_expression_375 Q K14 x1 x2 xt0 x5_3 (1 : Int32) σ) ∧ (¬ (x5_3 = (10 : Int32)) → wX12_expression_375 Q K14 x1 x2 xt0 x5_3 (0 : Int32) σ))))
def wX12_expression_322 (Q : St → Prop) (K14 : Int32 → Int32 → Int32 → St → Prop) (x1 : Int32) (x2 : Int32) (σ : St) : Prop := wX12_expression_327 Q K14 x1 x2 (1 : Int32) σ
def wX12_expression_295 (Q : St → Prop) (K14 : Int32 → Int32 → Int32 → St → Prop) (x1 : Int32) (x2 : Int32) (σ : St) : Prop := wX12_is (8 : Int32) σ (fun (r1 : Int32) (σ2 : St) => ((r1 = 0 → wX12_is (9 : Int32) σ2 (fun (r4 : Int32) (σ5 : St) => ((r4 = 0 → wX12_is (10 : Int32) σ5 (fun (r7 : Int32) (σ8 : St) => ((r7 = 0 → wX12_expression_327 Q K14 x1 x2 (0 : Int32) σ8) ∧ (¬ (r7 = 0) → wX12_expression_322 Q K14 x1 x2 σ8)))) ∧ (¬ (r4 = 0) → wX12_expression_322 Q K14 x1 x2 σ5)))) ∧ (¬ (r1 = 0) → wX12_expression_322 Q K14 x1 x2 σ2)))
def wX12_expression_246 (Q : St → Prop) (K14 : Int32 → Int32 → Int32 → St → Prop) : Nat → Int32 → Int32 → St → Prop
  | 0, _, _, _ => False
  | n + 1, x1, x2, σ => wX12_is (7 : Int32) σ (fun (r1 : Int32) (σ2 : St) => ((r1 = 0 → wX12_expression_295 Q K14 x1 x2 σ2) ∧ (¬ (r1 = 0) → (((gv σ2 11 12) ≤ x1 → wX12_expression_295 Q K14 x1 x2 σ2) ∧ (¬ ((gv σ2 11 12) ≤ x1) → wX12_comesOut (0 : Int32) σ2 (fun (σ6 : St) => ∀ σ7 : St, σ7 = pv σ6 11 42 ((gv σ6 11 42) - (1 : Int32)) → ∀ σ8 : St, σ8 = pv σ7 11 12 ((gv σ7 11 12) - (1 : Int32)) → wX12_next σ8 (fun (σ10 : St) => wX12_expression_246 Q K14 n x1 x2 σ10)))))))
def wX12_expression_242 (Q : St → Prop) (K14 : Int32 → Int32 → Int32 → St → Prop) (x1 : Int32) (x2 : Int32) (σ : St) : Prop := wX12_next σ (fun (σ2 : St) => ∃ j : Nat, wX12_expression_246 Q K14 j x1 x2 σ2)
def wX12_expression_195 (Q : St → Prop) (K14 : Int32 → Int32 → Int32 → St → Prop) (x1 : Int32) (x2 : Int32) (x4 : Int32) (σ : St) : Prop := (((gv σ 11 13) ≤ 0 → ((x4 = 0 → vp_in (gv σ 11 11) 603 ∧ wX12_emit (0 : Int32) (gv σ 52 (gv σ 11 11).toNatClampNeg) σ (fun (σ5 : St) => wX12_expression_242 Q K14 x1 x2 σ5)) ∧ (¬ (x4 = 0) → vp_in (gv σ 11 11) 603 ∧ wX12_emit (1 : Int32) ((gv σ 50 (gv σ 11 11).toNatClampNeg) - (31 : Int32)) σ (fun (σ8 : St) => wX12_expression_242 Q K14 x1 x2 σ8)))) ∧ (¬ ((gv σ 11 13) ≤ 0) → Q σ))
def wX12_expression_175 (Q : St → Prop) (K14 : Int32 → Int32 → Int32 → St → Prop) (x1 : Int32) (x2 : Int32) (xt0 : Int32) (σ : St) : Prop := wX12_is (2 : Int32) σ (fun (r1 : Int32) (σ2 : St) => ((r1 = 0 → ((xt0 = 0 → wX12_fail (1 : Int32) σ2 (fun (σ6 : St) => wX12_expression_195 Q K14 x1 x2 xt0 σ6)) ∧ (¬ (xt0 = 0) → wX12_expression_195 Q K14 x1 x2 xt0 σ2))) ∧ (¬ (r1 = 0) → wX12_expression_195 Q K14 x1 x2 xt0 σ2)))
def wX12_expression_174 (Q : St → Prop) (K14 : Int32 → Int32 → Int32 → St → Prop) (x1 : Int32) (x2 : Int32) (σ : St) : Prop := wX12_expression_175 Q K14 x1 x2 (0 : Int32) σ
def wX12_expression_85 (Q : St → Prop) (K14 : Int32 → Int32 → Int32 → St → Prop) (x1 : Int32) (x3 : Int32) (σ : St) : Prop := (((gv σ 11 13) ≤ 0 → ∀ σ2 : St, σ2 = pv σ 11 12 ((gv σ 11 12) + (1 : Int32)) → wX12_next σ2 (fun (σ4 : St) => vp_in (gv σ4 11 42) 64 ∧ ∀ σ6 : St, σ6 = pv σ4 72 (gv σ4 11 42).toNatClampNeg (6 : Int32) → ∀ σ7 : St, σ7 = pv σ6 11 42 ((gv σ6 11 42) + (1 : Int32)) → K14 x1 (1 : Int32) x3 σ7)) ∧ (¬ ((gv σ 11 13) ≤ 0) → Q σ))
def wX12_expression_62 (Q : St → Prop) (K14 : Int32 → Int32 → Int32 → St → Prop) (x1 : Int32) (x3 : Int32) (σ : St) : Prop := wX12_is (6 : Int32) σ (fun (r1 : Int32) (σ2 : St) => ((r1 = 0 → (((gv σ2 11 13) = 0 → vp_in (gv σ2 11 11) 603 ∧ (((gv σ2 50 (gv σ2 11 11).toNatClampNeg) < (31 : Int32) → wX12_expression_174 Q K14 x1 (0 : Int32) σ2) ∧ (¬ ((gv σ2 50 (gv σ2 11 11).toNatClampNeg) < (31 : Int32)) → vp_in (gv σ2 11 11) 603 ∧ (((42 : Int32) < (gv σ2 50 (gv σ2 11 11).toNatClampNeg) → wX12_expression_174 Q K14 x1 (0 : Int32) σ2) ∧ (¬ ((42 : Int32) < (gv σ2 50 (gv σ2 11 11).toNatClampNeg)) → wX12_expression_175 Q K14 x1 (0 : Int32) (1 : Int32) σ2))))) ∧ (¬ ((gv σ2 11 13) = 0) → wX12_expression_174 Q K14 x1 (0 : Int32) σ2))) ∧ (¬ (r1 = 0) → (((gv σ2 11 12) = (8 : Int32) → wX12_fail (2 : Int32) σ2 (fun (σ11 : St) => wX12_expression_85 Q K14 x1 x3 σ11)) ∧ (¬ ((gv σ2 11 12) = (8 : Int32)) → wX12_expression_85 Q K14 x1 x3 σ2)))))
def wX12_expression_14 (Q : St → Prop) : Nat → Int32 → Int32 → Int32 → St → Prop
  | 0, _, _, _, _ => False
  | n + 1, x1, x2, x3, σ => ((x3 = 0 → Q σ) ∧ (¬ (x3 = 0) → (((gv σ 11 13) = 0 → ((x2 = 0 → wX12_expression_62 Q (fun x1' x2' x3' σ' => wX12_expression_14 Q n x1' x2' x3' σ') x1 x3 σ) ∧ (¬ (x2 = 0) → wX12_is (9 : Int32) σ (fun (r4 : Int32) (σ5 : St) => ((r4 = 0 → wX12_expression_62 Q (fun x1' x2' x3' σ' => wX12_expression_14 Q n x1' x2' x3' σ') x1 x3 σ5) ∧ (¬ (r4 = 0) → wX12_next σ5 (fun (σ8 : St) => vp_in (gv σ8 11 42) 64 ∧ ∀ σ10 : St, σ10 = pv σ8 72 (gv σ8 11 42).toNatClampNeg (3 : Int32) → ∀ σ11 : St, σ11 = pv σ10 11 42 ((gv σ10 11 42) + (1 : Int32)) → wX12_expression_62 Q (fun x1' x2' x3' σ' => wX12_expression_14 Q n x1' x2' x3' σ') x1 x3 σ11))))))) ∧ (¬ ((gv σ 11 13) = 0) → Q σ))))
def wX12_expression (σ : St) (Q : St → Prop) : Prop := ∀ σ1 : St, σ1 = pv σ 11 42 (0 : Int32) → ∀ x1_2 : Int32, x1_2 = gv σ1 11 12 → ∃ j : Nat, wX12_expression_14 Q j x1_2 (1 : Int32) (1 : Int32) σ1
set_option maxHeartbeats 4000000 in
set_option maxRecDepth 100000 in
theorem tX12_expression_375 {p : Program} {l : Launch} {e : Env} {s : State} {m : MethodId} {args : Array Value} {below : List Frame} {meth : Method} {c : Code} {E : EE} {base : Nat} (C : Cx p E base s m args meth c cX12_expression 6 RX12) (hr : meth.sig.returnType = none) {Q : St → Prop} {K14 : Int32 → Int32 → Int32 → St → Prop} (hK14 : ∀ (x1 : Int32) (x2 : Int32) (x3 : Int32) (σ : St) (H : Heap) (locs : List Loc) (ls : Array Slot), lv_has ls 6 [(0, .ref (ga E 11)), (1, .int x1), (2, .int x2), (3, .int x3)] → GW E base s σ H locs → K14 x1 x2 x3 σ → W p l e rmX12_expression s m args below meth c H locs 0 0 (MQ below (QV E base Q) args s 0 0 (fun q => base ≤ q)) (F0 m 14 ls [])) : ∀ (x1 : Int32) (x2 : Int32) (x3 : Int32) (x5 : Int32) (xt1 : Int32) (σ : St) (H : Heap) (locs : List Loc) (ls : Array Slot), lv_has ls 6 [(0, .ref (ga E 11)), (1, .int x1), (2, .int x2), (3, .int x3), (5, .int x5)] → GW E base s σ H locs → wX12_expression_375 Q K14 x1 x2 x3 x5 xt1 σ → W p l e rmX12_expression s m args below meth c H locs 0 0 (MQ below (QV E base Q) args s 0 0 (fun q => base ≤ q)) (F0 m 375 ls [.int xt1, .ref (ga E 11)]) := by
  intro x1 x2 x3 x5 xt1 σ H locs ls hl g h
  refine gx_callv0 g (gx_runV (k := 11) (rest := []) C g mb_X12_comesOut ml_X12_303 rfl sh_11 (mX12_comesOut xt1 _ _ h) ⟨Nat.le_of_ble_eq_true rfl, Nat.le_of_ble_eq_true rfl⟩ ⟨Nat.le_refl _, Nat.le_refl _⟩ rfl hl.1 rfl (Nat.le_of_ble_eq_true rfl) dX12_expression_375) rfl rfl (fun σ2 H locs h g => ?_)
  refine lv_aload_n C.1 C.2.1 dX12_expression_378 rfl (lv_at hl 0 rfl) ?_
  refine gx_getR C g fl_X12_92 dX12_expression_379 sh_11 rfl (by decide) ?_
  refine lv_aload_n C.1 C.2.1 dX12_expression_382 rfl (lv_at hl 0 rfl) ?_
  refine gx_getI C g fl_X12_297 dX12_expression_383 sh_11 rfl ?_
  refine lv_iload C.1 C.2.1 dX12_expression_386 (lv_at hl 4 rfl) ?_
  obtain ⟨i3, h⟩ := h
  refine gx_iast C g dX12_expression_388 sh_72 i3 (fun H locs σ4 eσ4 g => ?_)
  have h := h σ4 eσ4
  refine lv_aload_n C.1 C.2.1 dX12_expression_389 rfl (lv_at hl 0 rfl) ?_
  refine lv_dup C.1 C.2.1 dX12_expression_390 rfl ?_
  refine gx_getI C g fl_X12_297 dX12_expression_391 sh_11 rfl ?_
  refine lv_iconst (v := 1) C.1 C.2.1 dX12_expression_394 (by decide) ?_
  refine lv_iadd C.1 C.2.1 dX12_expression_395 ?_
  refine gx_putI C g fi_X12_297 dX12_expression_396 sh_11 rfl (fun H locs σ5 eσ5 g => ?_)
  have h := h σ5 eσ5
  refine lv_aload_n C.1 C.2.1 dX12_expression_399 rfl (lv_at hl 0 rfl) ?_
  refine gx_callv0 g (gx_runV (k := 11) (rest := []) C g mb_X12_next ml_X12_248 rfl sh_11 (mX12_next _ _ h) ⟨Nat.le_of_ble_eq_true rfl, Nat.le_of_ble_eq_true rfl⟩ ⟨Nat.le_refl _, Nat.le_refl _⟩ rfl hl.1 rfl (Nat.le_of_ble_eq_true rfl) dX12_expression_400) rfl rfl (fun σ7 H locs h g => ?_)
  refine lv_goto (tgt := 14) C.1 C.2.1 dX12_expression_403 (by decide) ?_
  exact hK14 x1 x2 x3 _ _ _ _ (lv_sub hl [0, 1, 2, 3] rfl) g h
set_option maxHeartbeats 4000000 in
set_option maxRecDepth 100000 in
theorem tX12_expression_345 {p : Program} {l : Launch} {e : Env} {s : State} {m : MethodId} {args : Array Value} {below : List Frame} {meth : Method} {c : Code} {E : EE} {base : Nat} (C : Cx p E base s m args meth c cX12_expression 6 RX12) (hr : meth.sig.returnType = none) {Q : St → Prop} : ∀ (σ : St) (H : Heap) (locs : List Loc) (ls : Array Slot), lv_has ls 6 [(0, .ref (ga E 11))] → GW E base s σ H locs → wX12_expression_345 Q σ → W p l e rmX12_expression s m args below meth c H locs 0 0 (MQ below (QV E base Q) args s 0 0 (fun q => base ≤ q)) (F0 m 345 ls []) := by
  intro σ H locs ls hl g h
  refine lv_aload_n C.1 C.2.1 dX12_expression_345 rfl (lv_at hl 0 rfl) ?_
  refine lv_iconst (v := 0) C.1 C.2.1 dX12_expression_346 (by decide) ?_
  refine gx_callv0 g (gx_runV (k := 11) (rest := []) C g mb_X12_comesOut ml_X12_303 rfl sh_11 (mX12_comesOut (0 : Int32) _ _ h) ⟨Nat.le_of_ble_eq_true rfl, Nat.le_of_ble_eq_true rfl⟩ ⟨Nat.le_refl _, Nat.le_refl _⟩ rfl hl.1 rfl (Nat.le_of_ble_eq_true rfl) dX12_expression_347) rfl rfl (fun σ2 H locs h g => ?_)
  exact gx_vret C hr g dX12_expression_350 h
set_option maxHeartbeats 4000000 in
set_option maxRecDepth 100000 in
theorem tX12_expression_327 {p : Program} {l : Launch} {e : Env} {s : State} {m : MethodId} {args : Array Value} {below : List Frame} {meth : Method} {c : Code} {E : EE} {base : Nat} (C : Cx p E base s m args meth c cX12_expression 6 RX12) (hr : meth.sig.returnType = none) {Q : St → Prop} {K14 : Int32 → Int32 → Int32 → St → Prop} (hK14 : ∀ (x1 : Int32) (x2 : Int32) (x3 : Int32) (σ : St) (H : Heap) (locs : List Loc) (ls : Array Slot), lv_has ls 6 [(0, .ref (ga E 11)), (1, .int x1), (2, .int x2), (3, .int x3)] → GW E base s σ H locs → K14 x1 x2 x3 σ → W p l e rmX12_expression s m args below meth c H locs 0 0 (MQ below (QV E base Q) args s 0 0 (fun q => base ≤ q)) (F0 m 14 ls [])) : ∀ (x1 : Int32) (x2 : Int32) (xt0 : Int32) (σ : St) (H : Heap) (locs : List Loc) (ls : Array Slot), lv_has ls 6 [(0, .ref (ga E 11)), (1, .int x1), (2, .int x2)] → GW E base s σ H locs → wX12_expression_327 Q K14 x1 x2 xt0 σ → W p l e rmX12_expression s m args below meth c H locs 0 0 (MQ below (QV E base Q) args s 0 0 (fun q => base ≤ q)) (F0 m 327 ls [.int xt0]) := by
  intro x1 x2 xt0 σ H locs ls hl g h
  refine lv_istore_n (lv' := [(3, .int xt0), (0, .ref (ga E 11)), (1, .int x1), (2, .int x2)]) C.1 C.2.1 dX12_expression_327 rfl hl (by decide) rfl (fun ls hl => ?_)
  refine lv_iload_n C.1 C.2.1 dX12_expression_328 rfl (lv_at hl 0 rfl) ?_
  refine lv_if_ne (tgt := 351) C.1 C.2.1 dX12_expression_329 (by decide) (fun c1 => ?_) (fun c1 => ?_)
  · have h := h.2 c1
    refine lv_aload_n C.1 C.2.1 dX12_expression_351 rfl (lv_at hl 1 rfl) ?_
    refine gx_getR C g fl_X12_20 dX12_expression_352 sh_11 rfl (by decide) ?_
    refine lv_aload_n C.1 C.2.1 dX12_expression_355 rfl (lv_at hl 1 rfl) ?_
    refine gx_getI C g fl_X12_230 dX12_expression_356 sh_11 rfl ?_
    obtain ⟨i2, h⟩ := h
    refine gx_iald C g dX12_expression_359 sh_50 i2 ?_
    refine lv_topi (fun x5_3 ex5_3 => ?_)
    have h := h x5_3 ex5_3
    refine lv_istore (lv' := [(5, .int x5_3), (3, .int xt0), (0, .ref (ga E 11)), (1, .int x1), (2, .int x2)]) C.1 C.2.1 dX12_expression_360 hl (by decide) rfl (fun ls hl => ?_)
    refine lv_aload_n C.1 C.2.1 dX12_expression_362 rfl (lv_at hl 2 rfl) ?_
    refine lv_iload C.1 C.2.1 dX12_expression_363 (lv_at hl 0 rfl) ?_
    refine lv_bipush (v := 10) C.1 C.2.1 dX12_expression_365 (by decide) ?_
    refine lv_icmp_ne (tgt := 374) C.1 C.2.1 dX12_expression_367 (by decide) (fun c4 => ?_) (fun c4 => ?_)
    · have h := h.2 c4
      refine lv_iconst (v := 0) C.1 C.2.1 dX12_expression_374 (by decide) ?_
      exact tX12_expression_375 C hr hK14 x1 x2 xt0 x5_3 (0 : Int32) _ _ _ _ (lv_sub hl [2, 3, 4, 1, 0] rfl) g h
    · have h := h.1 c4
      refine lv_iconst (v := 1) C.1 C.2.1 dX12_expression_370 (by decide) ?_
      refine lv_goto (tgt := 375) C.1 C.2.1 dX12_expression_371 (by decide) ?_
      exact tX12_expression_375 C hr hK14 x1 x2 xt0 x5_3 (1 : Int32) _ _ _ _ (lv_sub hl [2, 3, 4, 1, 0] rfl) g h
  · have h := h.1 c1
    refine lv_aload_n C.1 C.2.1 dX12_expression_332 rfl (lv_at hl 1 rfl) ?_
    refine gx_getI C g fl_X12_254 dX12_expression_333 sh_11 rfl ?_
    refine lv_iload_n C.1 C.2.1 dX12_expression_336 rfl (lv_at hl 2 rfl) ?_
    refine lv_icmp_le (tgt := 345) C.1 C.2.1 dX12_expression_337 (by decide) (fun c5 => ?_) (fun c5 => ?_)
    · have h := h.1 c5
      exact tX12_expression_345 C hr _ _ _ _ (lv_sub hl [1] rfl) g h
    · have h := h.2 c5
      refine lv_aload_n C.1 C.2.1 dX12_expression_340 rfl (lv_at hl 1 rfl) ?_
      refine lv_iconst (v := 1) C.1 C.2.1 dX12_expression_341 (by decide) ?_
      refine gx_callv0 g (gx_runV (k := 11) (rest := []) C g mb_X12_fail ml_X12_242 rfl sh_11 (mX12_fail (1 : Int32) _ _ h) ⟨Nat.le_of_ble_eq_true rfl, Nat.le_of_ble_eq_true rfl⟩ ⟨Nat.le_refl _, Nat.le_refl _⟩ rfl hl.1 rfl (Nat.le_of_ble_eq_true rfl) dX12_expression_342) rfl rfl (fun σ7 H locs h g => ?_)
      exact tX12_expression_345 C hr _ _ _ _ (lv_sub hl [1] rfl) g h
set_option maxHeartbeats 4000000 in
set_option maxRecDepth 100000 in
theorem tX12_expression_322 {p : Program} {l : Launch} {e : Env} {s : State} {m : MethodId} {args : Array Value} {below : List Frame} {meth : Method} {c : Code} {E : EE} {base : Nat} (C : Cx p E base s m args meth c cX12_expression 6 RX12) (hr : meth.sig.returnType = none) {Q : St → Prop} {K14 : Int32 → Int32 → Int32 → St → Prop} (hK14 : ∀ (x1 : Int32) (x2 : Int32) (x3 : Int32) (σ : St) (H : Heap) (locs : List Loc) (ls : Array Slot), lv_has ls 6 [(0, .ref (ga E 11)), (1, .int x1), (2, .int x2), (3, .int x3)] → GW E base s σ H locs → K14 x1 x2 x3 σ → W p l e rmX12_expression s m args below meth c H locs 0 0 (MQ below (QV E base Q) args s 0 0 (fun q => base ≤ q)) (F0 m 14 ls [])) : ∀ (x1 : Int32) (x2 : Int32) (σ : St) (H : Heap) (locs : List Loc) (ls : Array Slot), lv_has ls 6 [(0, .ref (ga E 11)), (1, .int x1), (2, .int x2)] → GW E base s σ H locs → wX12_expression_322 Q K14 x1 x2 σ → W p l e rmX12_expression s m args below meth c H locs 0 0 (MQ below (QV E base Q) args s 0 0 (fun q => base ≤ q)) (F0 m 322 ls []) := by
  intro x1 x2 σ H locs ls hl g h
  refine lv_iconst (v := 1) C.1 C.2.1 dX12_expression_322 (by decide) ?_
  refine lv_goto (tgt := 327) C.1 C.2.1 dX12_expression_323 (by decide) ?_
  exact tX12_expression_327 C hr hK14 x1 x2 (1 : Int32) _ _ _ _ (lv_sub hl [0, 1, 2] rfl) g h
set_option maxHeartbeats 4000000 in
set_option maxRecDepth 100000 in
theorem tX12_expression_295 {p : Program} {l : Launch} {e : Env} {s : State} {m : MethodId} {args : Array Value} {below : List Frame} {meth : Method} {c : Code} {E : EE} {base : Nat} (C : Cx p E base s m args meth c cX12_expression 6 RX12) (hr : meth.sig.returnType = none) {Q : St → Prop} {K14 : Int32 → Int32 → Int32 → St → Prop} (hK14 : ∀ (x1 : Int32) (x2 : Int32) (x3 : Int32) (σ : St) (H : Heap) (locs : List Loc) (ls : Array Slot), lv_has ls 6 [(0, .ref (ga E 11)), (1, .int x1), (2, .int x2), (3, .int x3)] → GW E base s σ H locs → K14 x1 x2 x3 σ → W p l e rmX12_expression s m args below meth c H locs 0 0 (MQ below (QV E base Q) args s 0 0 (fun q => base ≤ q)) (F0 m 14 ls [])) : ∀ (x1 : Int32) (x2 : Int32) (σ : St) (H : Heap) (locs : List Loc) (ls : Array Slot), lv_has ls 6 [(0, .ref (ga E 11)), (1, .int x1), (2, .int x2)] → GW E base s σ H locs → wX12_expression_295 Q K14 x1 x2 σ → W p l e rmX12_expression s m args below meth c H locs 0 0 (MQ below (QV E base Q) args s 0 0 (fun q => base ≤ q)) (F0 m 295 ls []) := by
  intro x1 x2 σ H locs ls hl g h
  refine lv_aload_n C.1 C.2.1 dX12_expression_295 rfl (lv_at hl 0 rfl) ?_
  refine lv_bipush (v := 8) C.1 C.2.1 dX12_expression_296 (by decide) ?_
  refine gx_calli0 g (gx_runV (k := 11) (rest := []) C g mb_X12_is ml_X12_245 rfl sh_11 (mX12_is (8 : Int32) _ _ h) ⟨Nat.le_of_ble_eq_true rfl, Nat.le_of_ble_eq_true rfl⟩ ⟨Nat.le_refl _, Nat.le_refl _⟩ rfl hl.1 rfl (Nat.le_of_ble_eq_true rfl) dX12_expression_298) rfl rfl (fun r1 σ2 H locs h g => ?_)
  refine lv_if_ne (tgt := 322) C.1 C.2.1 dX12_expression_301 (by decide) (fun c3 => ?_) (fun c3 => ?_)
  · have h := h.2 c3
    exact tX12_expression_322 C hr hK14 x1 x2 _ _ _ _ (lv_sub hl [0, 1, 2] rfl) g h
  · have h := h.1 c3
    refine lv_aload_n C.1 C.2.1 dX12_expression_304 rfl (lv_at hl 0 rfl) ?_
    refine lv_bipush (v := 9) C.1 C.2.1 dX12_expression_305 (by decide) ?_
    refine gx_calli0 g (gx_runV (k := 11) (rest := []) C g mb_X12_is ml_X12_245 rfl sh_11 (mX12_is (9 : Int32) _ _ h) ⟨Nat.le_of_ble_eq_true rfl, Nat.le_of_ble_eq_true rfl⟩ ⟨Nat.le_refl _, Nat.le_refl _⟩ rfl hl.1 rfl (Nat.le_of_ble_eq_true rfl) dX12_expression_307) rfl rfl (fun r4 σ5 H locs h g => ?_)
    refine lv_if_ne (tgt := 322) C.1 C.2.1 dX12_expression_310 (by decide) (fun c6 => ?_) (fun c6 => ?_)
    · have h := h.2 c6
      exact tX12_expression_322 C hr hK14 x1 x2 _ _ _ _ (lv_sub hl [0, 1, 2] rfl) g h
    · have h := h.1 c6
      refine lv_aload_n C.1 C.2.1 dX12_expression_313 rfl (lv_at hl 0 rfl) ?_
      refine lv_bipush (v := 10) C.1 C.2.1 dX12_expression_314 (by decide) ?_
      refine gx_calli0 g (gx_runV (k := 11) (rest := []) C g mb_X12_is ml_X12_245 rfl sh_11 (mX12_is (10 : Int32) _ _ h) ⟨Nat.le_of_ble_eq_true rfl, Nat.le_of_ble_eq_true rfl⟩ ⟨Nat.le_refl _, Nat.le_refl _⟩ rfl hl.1 rfl (Nat.le_of_ble_eq_true rfl) dX12_expression_316) rfl rfl (fun r7 σ8 H locs h g => ?_)
      refine lv_if_eq (tgt := 326) C.1 C.2.1 dX12_expression_319 (by decide) (fun c9 => ?_) (fun c9 => ?_)
      · have h := h.1 c9
        refine lv_iconst (v := 0) C.1 C.2.1 dX12_expression_326 (by decide) ?_
        exact tX12_expression_327 C hr hK14 x1 x2 (0 : Int32) _ _ _ _ (lv_sub hl [0, 1, 2] rfl) g h
      · have h := h.2 c9
        exact tX12_expression_322 C hr hK14 x1 x2 _ _ _ _ (lv_sub hl [0, 1, 2] rfl) g h
set_option maxHeartbeats 4000000 in
set_option maxRecDepth 100000 in
theorem tX12_expression_246 {p : Program} {l : Launch} {e : Env} {s : State} {m : MethodId} {args : Array Value} {below : List Frame} {meth : Method} {c : Code} {E : EE} {base : Nat} (C : Cx p E base s m args meth c cX12_expression 6 RX12) (hr : meth.sig.returnType = none) {Q : St → Prop} {K14 : Int32 → Int32 → Int32 → St → Prop} (hK14 : ∀ (x1 : Int32) (x2 : Int32) (x3 : Int32) (σ : St) (H : Heap) (locs : List Loc) (ls : Array Slot), lv_has ls 6 [(0, .ref (ga E 11)), (1, .int x1), (2, .int x2), (3, .int x3)] → GW E base s σ H locs → K14 x1 x2 x3 σ → W p l e rmX12_expression s m args below meth c H locs 0 0 (MQ below (QV E base Q) args s 0 0 (fun q => base ≤ q)) (F0 m 14 ls [])) : ∀ (n : Nat) (x1 : Int32) (x2 : Int32) (σ : St) (H : Heap) (locs : List Loc) (ls : Array Slot), lv_has ls 6 [(0, .ref (ga E 11)), (1, .int x1), (2, .int x2)] → GW E base s σ H locs → wX12_expression_246 Q K14 n x1 x2 σ → W p l e rmX12_expression s m args below meth c H locs 0 0 (MQ below (QV E base Q) args s 0 0 (fun q => base ≤ q)) (F0 m 246 ls []) := by
  intro n
  induction n with
  | zero => intro _ _; intros; exact False.elim (by assumption)
  | succ n ih =>
    intro x1 x2 σ H locs ls hl g h
    refine lv_aload_n C.1 C.2.1 dX12_expression_246 rfl (lv_at hl 0 rfl) ?_
    refine lv_bipush (v := 7) C.1 C.2.1 dX12_expression_247 (by decide) ?_
    refine gx_calli0 g (gx_runV (k := 11) (rest := []) C g mb_X12_is ml_X12_245 rfl sh_11 (mX12_is (7 : Int32) _ _ h) ⟨Nat.le_of_ble_eq_true rfl, Nat.le_of_ble_eq_true rfl⟩ ⟨Nat.le_refl _, Nat.le_refl _⟩ rfl hl.1 rfl (Nat.le_of_ble_eq_true rfl) dX12_expression_249) rfl rfl (fun r1 σ2 H locs h g => ?_)
    refine lv_if_eq (tgt := 295) C.1 C.2.1 dX12_expression_252 (by decide) (fun c3 => ?_) (fun c3 => ?_)
    · have h := h.1 c3
      exact tX12_expression_295 C hr hK14 x1 x2 _ _ _ _ (lv_sub hl [0, 1, 2] rfl) g h
    · have h := h.2 c3
      refine lv_aload_n C.1 C.2.1 dX12_expression_255 rfl (lv_at hl 0 rfl) ?_
      refine gx_getI C g fl_X12_254 dX12_expression_256 sh_11 rfl ?_
      refine lv_iload_n C.1 C.2.1 dX12_expression_259 rfl (lv_at hl 1 rfl) ?_
      refine lv_icmp_le (tgt := 295) C.1 C.2.1 dX12_expression_260 (by decide) (fun c4 => ?_) (fun c4 => ?_)
      · have h := h.1 c4
        exact tX12_expression_295 C hr hK14 x1 x2 _ _ _ _ (lv_sub hl [0, 1, 2] rfl) g h
      · have h := h.2 c4
        refine lv_aload_n C.1 C.2.1 dX12_expression_263 rfl (lv_at hl 0 rfl) ?_
        refine lv_iconst (v := 0) C.1 C.2.1 dX12_expression_264 (by decide) ?_
        refine gx_callv0 g (gx_runV (k := 11) (rest := []) C g mb_X12_comesOut ml_X12_303 rfl sh_11 (mX12_comesOut (0 : Int32) _ _ h) ⟨Nat.le_of_ble_eq_true rfl, Nat.le_of_ble_eq_true rfl⟩ ⟨Nat.le_refl _, Nat.le_refl _⟩ rfl hl.1 rfl (Nat.le_of_ble_eq_true rfl) dX12_expression_265) rfl rfl (fun σ6 H locs h g => ?_)
        refine lv_aload_n C.1 C.2.1 dX12_expression_268 rfl (lv_at hl 0 rfl) ?_
        refine lv_dup C.1 C.2.1 dX12_expression_269 rfl ?_
        refine gx_getI C g fl_X12_297 dX12_expression_270 sh_11 rfl ?_
        refine lv_iconst (v := 1) C.1 C.2.1 dX12_expression_273 (by decide) ?_
        refine lv_isub C.1 C.2.1 dX12_expression_274 ?_
        refine gx_putI C g fi_X12_297 dX12_expression_275 sh_11 rfl (fun H locs σ7 eσ7 g => ?_)
        have h := h σ7 eσ7
        refine lv_aload_n C.1 C.2.1 dX12_expression_278 rfl (lv_at hl 0 rfl) ?_
        refine lv_dup C.1 C.2.1 dX12_expression_279 rfl ?_
        refine gx_getI C g fl_X12_254 dX12_expression_280 sh_11 rfl ?_
        refine lv_iconst (v := 1) C.1 C.2.1 dX12_expression_283 (by decide) ?_
        refine lv_isub C.1 C.2.1 dX12_expression_284 ?_
        refine gx_putI C g fi_X12_254 dX12_expression_285 sh_11 rfl (fun H locs σ8 eσ8 g => ?_)
        have h := h σ8 eσ8
        refine lv_aload_n C.1 C.2.1 dX12_expression_288 rfl (lv_at hl 0 rfl) ?_
        refine gx_callv0 g (gx_runV (k := 11) (rest := []) C g mb_X12_next ml_X12_248 rfl sh_11 (mX12_next _ _ h) ⟨Nat.le_of_ble_eq_true rfl, Nat.le_of_ble_eq_true rfl⟩ ⟨Nat.le_refl _, Nat.le_refl _⟩ rfl hl.1 rfl (Nat.le_of_ble_eq_true rfl) dX12_expression_289) rfl rfl (fun σ10 H locs h g => ?_)
        refine lv_goto (tgt := 246) C.1 C.2.1 dX12_expression_292 (by decide) ?_
        exact ih x1 x2 _ _ _ _ (lv_sub hl [0, 1, 2] rfl) g h
set_option maxHeartbeats 4000000 in
set_option maxRecDepth 100000 in
theorem tX12_expression_242 {p : Program} {l : Launch} {e : Env} {s : State} {m : MethodId} {args : Array Value} {below : List Frame} {meth : Method} {c : Code} {E : EE} {base : Nat} (C : Cx p E base s m args meth c cX12_expression 6 RX12) (hr : meth.sig.returnType = none) {Q : St → Prop} {K14 : Int32 → Int32 → Int32 → St → Prop} (hK14 : ∀ (x1 : Int32) (x2 : Int32) (x3 : Int32) (σ : St) (H : Heap) (locs : List Loc) (ls : Array Slot), lv_has ls 6 [(0, .ref (ga E 11)), (1, .int x1), (2, .int x2), (3, .int x3)] → GW E base s σ H locs → K14 x1 x2 x3 σ → W p l e rmX12_expression s m args below meth c H locs 0 0 (MQ below (QV E base Q) args s 0 0 (fun q => base ≤ q)) (F0 m 14 ls [])) : ∀ (x1 : Int32) (x2 : Int32) (σ : St) (H : Heap) (locs : List Loc) (ls : Array Slot), lv_has ls 6 [(0, .ref (ga E 11)), (1, .int x1), (2, .int x2)] → GW E base s σ H locs → wX12_expression_242 Q K14 x1 x2 σ → W p l e rmX12_expression s m args below meth c H locs 0 0 (MQ below (QV E base Q) args s 0 0 (fun q => base ≤ q)) (F0 m 242 ls []) := by
  intro x1 x2 σ H locs ls hl g h
  refine lv_aload_n C.1 C.2.1 dX12_expression_242 rfl (lv_at hl 0 rfl) ?_
  refine gx_callv0 g (gx_runV (k := 11) (rest := []) C g mb_X12_next ml_X12_248 rfl sh_11 (mX12_next _ _ h) ⟨Nat.le_of_ble_eq_true rfl, Nat.le_of_ble_eq_true rfl⟩ ⟨Nat.le_refl _, Nat.le_refl _⟩ rfl hl.1 rfl (Nat.le_of_ble_eq_true rfl) dX12_expression_243) rfl rfl (fun σ2 H locs h g => ?_)
  obtain ⟨j, h⟩ := h
  exact tX12_expression_246 C hr hK14 j x1 x2 _ _ _ _ (lv_sub hl [0, 1, 2] rfl) g h
set_option maxHeartbeats 4000000 in
set_option maxRecDepth 100000 in
theorem tX12_expression_195 {p : Program} {l : Launch} {e : Env} {s : State} {m : MethodId} {args : Array Value} {below : List Frame} {meth : Method} {c : Code} {E : EE} {base : Nat} (C : Cx p E base s m args meth c cX12_expression 6 RX12) (hr : meth.sig.returnType = none) {Q : St → Prop} {K14 : Int32 → Int32 → Int32 → St → Prop} (hK14 : ∀ (x1 : Int32) (x2 : Int32) (x3 : Int32) (σ : St) (H : Heap) (locs : List Loc) (ls : Array Slot), lv_has ls 6 [(0, .ref (ga E 11)), (1, .int x1), (2, .int x2), (3, .int x3)] → GW E base s σ H locs → K14 x1 x2 x3 σ → W p l e rmX12_expression s m args below meth c H locs 0 0 (MQ below (QV E base Q) args s 0 0 (fun q => base ≤ q)) (F0 m 14 ls [])) : ∀ (x1 : Int32) (x2 : Int32) (x4 : Int32) (σ : St) (H : Heap) (locs : List Loc) (ls : Array Slot), lv_has ls 6 [(0, .ref (ga E 11)), (1, .int x1), (2, .int x2), (4, .int x4)] → GW E base s σ H locs → wX12_expression_195 Q K14 x1 x2 x4 σ → W p l e rmX12_expression s m args below meth c H locs 0 0 (MQ below (QV E base Q) args s 0 0 (fun q => base ≤ q)) (F0 m 195 ls []) := by
  intro x1 x2 x4 σ H locs ls hl g h
  refine lv_aload_n C.1 C.2.1 dX12_expression_195 rfl (lv_at hl 0 rfl) ?_
  refine gx_getI C g fl_X12_227 dX12_expression_196 sh_11 rfl ?_
  refine lv_if_le (tgt := 203) C.1 C.2.1 dX12_expression_199 (by decide) (fun c1 => ?_) (fun c1 => ?_)
  · have h := h.1 c1
    refine lv_iload C.1 C.2.1 dX12_expression_203 (lv_at hl 3 rfl) ?_
    refine lv_if_eq (tgt := 228) C.1 C.2.1 dX12_expression_205 (by decide) (fun c2 => ?_) (fun c2 => ?_)
    · have h := h.1 c2
      refine lv_aload_n C.1 C.2.1 dX12_expression_228 rfl (lv_at hl 0 rfl) ?_
      refine lv_iconst (v := 0) C.1 C.2.1 dX12_expression_229 (by decide) ?_
      refine lv_aload_n C.1 C.2.1 dX12_expression_230 rfl (lv_at hl 0 rfl) ?_
      refine gx_getR C g fl_X12_27 dX12_expression_231 sh_11 rfl (by decide) ?_
      refine lv_aload_n C.1 C.2.1 dX12_expression_234 rfl (lv_at hl 0 rfl) ?_
      refine gx_getI C g fl_X12_230 dX12_expression_235 sh_11 rfl ?_
      obtain ⟨i3, h⟩ := h
      refine gx_iald C g dX12_expression_238 sh_52 i3 ?_
      refine gx_callv0 g (gx_runV (k := 11) (rest := []) C g mb_X12_emit ml_X12_300 rfl sh_11 (mX12_emit (0 : Int32) (gv σ 52 (gv σ 11 11).toNatClampNeg) _ _ h) ⟨Nat.le_of_ble_eq_true rfl, Nat.le_of_ble_eq_true rfl⟩ ⟨Nat.le_refl _, Nat.le_refl _⟩ rfl hl.1 rfl (Nat.le_of_ble_eq_true rfl) dX12_expression_239) rfl rfl (fun σ5 H locs h g => ?_)
      exact tX12_expression_242 C hr hK14 x1 x2 _ _ _ _ (lv_sub hl [0, 1, 2] rfl) g h
    · have h := h.2 c2
      refine lv_aload_n C.1 C.2.1 dX12_expression_208 rfl (lv_at hl 0 rfl) ?_
      refine lv_iconst (v := 1) C.1 C.2.1 dX12_expression_209 (by decide) ?_
      refine lv_aload_n C.1 C.2.1 dX12_expression_210 rfl (lv_at hl 0 rfl) ?_
      refine gx_getR C g fl_X12_20 dX12_expression_211 sh_11 rfl (by decide) ?_
      refine lv_aload_n C.1 C.2.1 dX12_expression_214 rfl (lv_at hl 0 rfl) ?_
      refine gx_getI C g fl_X12_230 dX12_expression_215 sh_11 rfl ?_
      obtain ⟨i6, h⟩ := h
      refine gx_iald C g dX12_expression_218 sh_50 i6 ?_
      refine lv_bipush (v := 31) C.1 C.2.1 dX12_expression_219 (by decide) ?_
      refine lv_isub C.1 C.2.1 dX12_expression_221 ?_
      refine gx_callv0 g (gx_runV (k := 11) (rest := []) C g mb_X12_emit ml_X12_300 rfl sh_11 (mX12_emit (1 : Int32) ((gv σ 50 (gv σ 11 11).toNatClampNeg) - (31 : Int32)) _ _ h) ⟨Nat.le_of_ble_eq_true rfl, Nat.le_of_ble_eq_true rfl⟩ ⟨Nat.le_refl _, Nat.le_refl _⟩ rfl hl.1 rfl (Nat.le_of_ble_eq_true rfl) dX12_expression_222) rfl rfl (fun σ8 H locs h g => ?_)
      refine lv_goto (tgt := 242) C.1 C.2.1 dX12_expression_225 (by decide) ?_
      exact tX12_expression_242 C hr hK14 x1 x2 _ _ _ _ (lv_sub hl [0, 1, 2] rfl) g h
  · have h := h.2 c1
    exact gx_vret C hr g dX12_expression_202 h
set_option maxHeartbeats 4000000 in
set_option maxRecDepth 100000 in
theorem tX12_expression_175 {p : Program} {l : Launch} {e : Env} {s : State} {m : MethodId} {args : Array Value} {below : List Frame} {meth : Method} {c : Code} {E : EE} {base : Nat} (C : Cx p E base s m args meth c cX12_expression 6 RX12) (hr : meth.sig.returnType = none) {Q : St → Prop} {K14 : Int32 → Int32 → Int32 → St → Prop} (hK14 : ∀ (x1 : Int32) (x2 : Int32) (x3 : Int32) (σ : St) (H : Heap) (locs : List Loc) (ls : Array Slot), lv_has ls 6 [(0, .ref (ga E 11)), (1, .int x1), (2, .int x2), (3, .int x3)] → GW E base s σ H locs → K14 x1 x2 x3 σ → W p l e rmX12_expression s m args below meth c H locs 0 0 (MQ below (QV E base Q) args s 0 0 (fun q => base ≤ q)) (F0 m 14 ls [])) : ∀ (x1 : Int32) (x2 : Int32) (xt0 : Int32) (σ : St) (H : Heap) (locs : List Loc) (ls : Array Slot), lv_has ls 6 [(0, .ref (ga E 11)), (1, .int x1), (2, .int x2)] → GW E base s σ H locs → wX12_expression_175 Q K14 x1 x2 xt0 σ → W p l e rmX12_expression s m args below meth c H locs 0 0 (MQ below (QV E base Q) args s 0 0 (fun q => base ≤ q)) (F0 m 175 ls [.int xt0]) := by
  intro x1 x2 xt0 σ H locs ls hl g h
  refine lv_istore (lv' := [(4, .int xt0), (0, .ref (ga E 11)), (1, .int x1), (2, .int x2)]) C.1 C.2.1 dX12_expression_175 hl (by decide) rfl (fun ls hl => ?_)
  refine lv_aload_n C.1 C.2.1 dX12_expression_177 rfl (lv_at hl 1 rfl) ?_
  refine lv_iconst (v := 2) C.1 C.2.1 dX12_expression_178 (by decide) ?_
  refine gx_calli0 g (gx_runV (k := 11) (rest := []) C g mb_X12_is ml_X12_245 rfl sh_11 (mX12_is (2 : Int32) _ _ h) ⟨Nat.le_of_ble_eq_true rfl, Nat.le_of_ble_eq_true rfl⟩ ⟨Nat.le_refl _, Nat.le_refl _⟩ rfl hl.1 rfl (Nat.le_of_ble_eq_true rfl) dX12_expression_179) rfl rfl (fun r1 σ2 H locs h g => ?_)
  refine lv_if_ne (tgt := 195) C.1 C.2.1 dX12_expression_182 (by decide) (fun c3 => ?_) (fun c3 => ?_)
  · have h := h.2 c3
    exact tX12_expression_195 C hr hK14 x1 x2 xt0 _ _ _ _ (lv_sub hl [1, 2, 3, 0] rfl) g h
  · have h := h.1 c3
    refine lv_iload C.1 C.2.1 dX12_expression_185 (lv_at hl 0 rfl) ?_
    refine lv_if_ne (tgt := 195) C.1 C.2.1 dX12_expression_187 (by decide) (fun c4 => ?_) (fun c4 => ?_)
    · have h := h.2 c4
      exact tX12_expression_195 C hr hK14 x1 x2 xt0 _ _ _ _ (lv_sub hl [1, 2, 3, 0] rfl) g h
    · have h := h.1 c4
      refine lv_aload_n C.1 C.2.1 dX12_expression_190 rfl (lv_at hl 1 rfl) ?_
      refine lv_iconst (v := 1) C.1 C.2.1 dX12_expression_191 (by decide) ?_
      refine gx_callv0 g (gx_runV (k := 11) (rest := []) C g mb_X12_fail ml_X12_242 rfl sh_11 (mX12_fail (1 : Int32) _ _ h) ⟨Nat.le_of_ble_eq_true rfl, Nat.le_of_ble_eq_true rfl⟩ ⟨Nat.le_refl _, Nat.le_refl _⟩ rfl hl.1 rfl (Nat.le_of_ble_eq_true rfl) dX12_expression_192) rfl rfl (fun σ6 H locs h g => ?_)
      exact tX12_expression_195 C hr hK14 x1 x2 xt0 _ _ _ _ (lv_sub hl [1, 2, 3, 0] rfl) g h
set_option maxHeartbeats 4000000 in
set_option maxRecDepth 100000 in
theorem tX12_expression_174 {p : Program} {l : Launch} {e : Env} {s : State} {m : MethodId} {args : Array Value} {below : List Frame} {meth : Method} {c : Code} {E : EE} {base : Nat} (C : Cx p E base s m args meth c cX12_expression 6 RX12) (hr : meth.sig.returnType = none) {Q : St → Prop} {K14 : Int32 → Int32 → Int32 → St → Prop} (hK14 : ∀ (x1 : Int32) (x2 : Int32) (x3 : Int32) (σ : St) (H : Heap) (locs : List Loc) (ls : Array Slot), lv_has ls 6 [(0, .ref (ga E 11)), (1, .int x1), (2, .int x2), (3, .int x3)] → GW E base s σ H locs → K14 x1 x2 x3 σ → W p l e rmX12_expression s m args below meth c H locs 0 0 (MQ below (QV E base Q) args s 0 0 (fun q => base ≤ q)) (F0 m 14 ls [])) : ∀ (x1 : Int32) (x2 : Int32) (σ : St) (H : Heap) (locs : List Loc) (ls : Array Slot), lv_has ls 6 [(0, .ref (ga E 11)), (1, .int x1), (2, .int x2)] → GW E base s σ H locs → wX12_expression_174 Q K14 x1 x2 σ → W p l e rmX12_expression s m args below meth c H locs 0 0 (MQ below (QV E base Q) args s 0 0 (fun q => base ≤ q)) (F0 m 174 ls []) := by
  intro x1 x2 σ H locs ls hl g h
  refine lv_iconst (v := 0) C.1 C.2.1 dX12_expression_174 (by decide) ?_
  exact tX12_expression_175 C hr hK14 x1 x2 (0 : Int32) _ _ _ _ (lv_sub hl [0, 1, 2] rfl) g h
set_option maxHeartbeats 4000000 in
set_option maxRecDepth 100000 in
theorem tX12_expression_85 {p : Program} {l : Launch} {e : Env} {s : State} {m : MethodId} {args : Array Value} {below : List Frame} {meth : Method} {c : Code} {E : EE} {base : Nat} (C : Cx p E base s m args meth c cX12_expression 6 RX12) (hr : meth.sig.returnType = none) {Q : St → Prop} {K14 : Int32 → Int32 → Int32 → St → Prop} (hK14 : ∀ (x1 : Int32) (x2 : Int32) (x3 : Int32) (σ : St) (H : Heap) (locs : List Loc) (ls : Array Slot), lv_has ls 6 [(0, .ref (ga E 11)), (1, .int x1), (2, .int x2), (3, .int x3)] → GW E base s σ H locs → K14 x1 x2 x3 σ → W p l e rmX12_expression s m args below meth c H locs 0 0 (MQ below (QV E base Q) args s 0 0 (fun q => base ≤ q)) (F0 m 14 ls [])) : ∀ (x1 : Int32) (x3 : Int32) (σ : St) (H : Heap) (locs : List Loc) (ls : Array Slot), lv_has ls 6 [(0, .ref (ga E 11)), (1, .int x1), (3, .int x3)] → GW E base s σ H locs → wX12_expression_85 Q K14 x1 x3 σ → W p l e rmX12_expression s m args below meth c H locs 0 0 (MQ below (QV E base Q) args s 0 0 (fun q => base ≤ q)) (F0 m 85 ls []) := by
  intro x1 x3 σ H locs ls hl g h
  refine lv_aload_n C.1 C.2.1 dX12_expression_85 rfl (lv_at hl 0 rfl) ?_
  refine gx_getI C g fl_X12_227 dX12_expression_86 sh_11 rfl ?_
  refine lv_if_le (tgt := 93) C.1 C.2.1 dX12_expression_89 (by decide) (fun c1 => ?_) (fun c1 => ?_)
  · have h := h.1 c1
    refine lv_aload_n C.1 C.2.1 dX12_expression_93 rfl (lv_at hl 0 rfl) ?_
    refine lv_dup C.1 C.2.1 dX12_expression_94 rfl ?_
    refine gx_getI C g fl_X12_254 dX12_expression_95 sh_11 rfl ?_
    refine lv_iconst (v := 1) C.1 C.2.1 dX12_expression_98 (by decide) ?_
    refine lv_iadd C.1 C.2.1 dX12_expression_99 ?_
    refine gx_putI C g fi_X12_254 dX12_expression_100 sh_11 rfl (fun H locs σ2 eσ2 g => ?_)
    have h := h σ2 eσ2
    refine lv_aload_n C.1 C.2.1 dX12_expression_103 rfl (lv_at hl 0 rfl) ?_
    refine gx_callv0 g (gx_runV (k := 11) (rest := []) C g mb_X12_next ml_X12_248 rfl sh_11 (mX12_next _ _ h) ⟨Nat.le_of_ble_eq_true rfl, Nat.le_of_ble_eq_true rfl⟩ ⟨Nat.le_refl _, Nat.le_refl _⟩ rfl hl.1 rfl (Nat.le_of_ble_eq_true rfl) dX12_expression_104) rfl rfl (fun σ4 H locs h g => ?_)
    refine lv_aload_n C.1 C.2.1 dX12_expression_107 rfl (lv_at hl 0 rfl) ?_
    refine gx_getR C g fl_X12_92 dX12_expression_108 sh_11 rfl (by decide) ?_
    refine lv_aload_n C.1 C.2.1 dX12_expression_111 rfl (lv_at hl 0 rfl) ?_
    refine gx_getI C g fl_X12_297 dX12_expression_112 sh_11 rfl ?_
    refine lv_bipush (v := 6) C.1 C.2.1 dX12_expression_115 (by decide) ?_
    obtain ⟨i5, h⟩ := h
    refine gx_iast C g dX12_expression_117 sh_72 i5 (fun H locs σ6 eσ6 g => ?_)
    have h := h σ6 eσ6
    refine lv_aload_n C.1 C.2.1 dX12_expression_118 rfl (lv_at hl 0 rfl) ?_
    refine lv_dup C.1 C.2.1 dX12_expression_119 rfl ?_
    refine gx_getI C g fl_X12_297 dX12_expression_120 sh_11 rfl ?_
    refine lv_iconst (v := 1) C.1 C.2.1 dX12_expression_123 (by decide) ?_
    refine lv_iadd C.1 C.2.1 dX12_expression_124 ?_
    refine gx_putI C g fi_X12_297 dX12_expression_125 sh_11 rfl (fun H locs σ7 eσ7 g => ?_)
    have h := h σ7 eσ7
    refine lv_iconst (v := 1) C.1 C.2.1 dX12_expression_128 (by decide) ?_
    refine lv_istore_n (lv' := [(2, .int (1 : Int32)), (0, .ref (ga E 11)), (1, .int x1), (3, .int x3)]) C.1 C.2.1 dX12_expression_129 rfl hl (by decide) rfl (fun ls hl => ?_)
    refine lv_goto (tgt := 14) C.1 C.2.1 dX12_expression_130 (by decide) ?_
    exact hK14 x1 (1 : Int32) x3 _ _ _ _ (lv_sub hl [1, 2, 0, 3] rfl) g h
  · have h := h.2 c1
    exact gx_vret C hr g dX12_expression_92 h
set_option maxHeartbeats 4000000 in
set_option maxRecDepth 100000 in
theorem tX12_expression_62 {p : Program} {l : Launch} {e : Env} {s : State} {m : MethodId} {args : Array Value} {below : List Frame} {meth : Method} {c : Code} {E : EE} {base : Nat} (C : Cx p E base s m args meth c cX12_expression 6 RX12) (hr : meth.sig.returnType = none) {Q : St → Prop} {K14 : Int32 → Int32 → Int32 → St → Prop} (hK14 : ∀ (x1 : Int32) (x2 : Int32) (x3 : Int32) (σ : St) (H : Heap) (locs : List Loc) (ls : Array Slot), lv_has ls 6 [(0, .ref (ga E 11)), (1, .int x1), (2, .int x2), (3, .int x3)] → GW E base s σ H locs → K14 x1 x2 x3 σ → W p l e rmX12_expression s m args below meth c H locs 0 0 (MQ below (QV E base Q) args s 0 0 (fun q => base ≤ q)) (F0 m 14 ls [])) : ∀ (x1 : Int32) (x3 : Int32) (σ : St) (H : Heap) (locs : List Loc) (ls : Array Slot), lv_has ls 6 [(0, .ref (ga E 11)), (1, .int x1), (3, .int x3)] → GW E base s σ H locs → wX12_expression_62 Q K14 x1 x3 σ → W p l e rmX12_expression s m args below meth c H locs 0 0 (MQ below (QV E base Q) args s 0 0 (fun q => base ≤ q)) (F0 m 62 ls []) := by
  intro x1 x3 σ H locs ls hl g h
  refine lv_aload_n C.1 C.2.1 dX12_expression_62 rfl (lv_at hl 0 rfl) ?_
  refine lv_bipush (v := 6) C.1 C.2.1 dX12_expression_63 (by decide) ?_
  refine gx_calli0 g (gx_runV (k := 11) (rest := []) C g mb_X12_is ml_X12_245 rfl sh_11 (mX12_is (6 : Int32) _ _ h) ⟨Nat.le_of_ble_eq_true rfl, Nat.le_of_ble_eq_true rfl⟩ ⟨Nat.le_refl _, Nat.le_refl _⟩ rfl hl.1 rfl (Nat.le_of_ble_eq_true rfl) dX12_expression_65) rfl rfl (fun r1 σ2 H locs h g => ?_)
  refine lv_if_eq (tgt := 133) C.1 C.2.1 dX12_expression_68 (by decide) (fun c3 => ?_) (fun c3 => ?_)
  · have h := h.1 c3
    refine lv_iconst (v := 0) C.1 C.2.1 dX12_expression_133 (by decide) ?_
    refine lv_istore_n (lv' := [(2, .int (0 : Int32)), (0, .ref (ga E 11)), (1, .int x1), (3, .int x3)]) C.1 C.2.1 dX12_expression_134 rfl hl (by decide) rfl (fun ls hl => ?_)
    refine lv_aload_n C.1 C.2.1 dX12_expression_135 rfl (lv_at hl 1 rfl) ?_
    refine gx_getI C g fl_X12_227 dX12_expression_136 sh_11 rfl ?_
    refine lv_if_ne (tgt := 174) C.1 C.2.1 dX12_expression_139 (by decide) (fun c4 => ?_) (fun c4 => ?_)
    · have h := h.2 c4
      exact tX12_expression_174 C hr hK14 x1 (0 : Int32) _ _ _ _ (lv_sub hl [1, 2, 0] rfl) g h
    · have h := h.1 c4
      refine lv_aload_n C.1 C.2.1 dX12_expression_142 rfl (lv_at hl 1 rfl) ?_
      refine gx_getR C g fl_X12_20 dX12_expression_143 sh_11 rfl (by decide) ?_
      refine lv_aload_n C.1 C.2.1 dX12_expression_146 rfl (lv_at hl 1 rfl) ?_
      refine gx_getI C g fl_X12_230 dX12_expression_147 sh_11 rfl ?_
      obtain ⟨i5, h⟩ := h
      refine gx_iald C g dX12_expression_150 sh_50 i5 ?_
      refine lv_bipush (v := 31) C.1 C.2.1 dX12_expression_151 (by decide) ?_
      refine lv_icmp_lt (tgt := 174) C.1 C.2.1 dX12_expression_153 (by decide) (fun c6 => ?_) (fun c6 => ?_)
      · have h := h.1 c6
        exact tX12_expression_174 C hr hK14 x1 (0 : Int32) _ _ _ _ (lv_sub hl [1, 2, 0] rfl) g h
      · have h := h.2 c6
        refine lv_aload_n C.1 C.2.1 dX12_expression_156 rfl (lv_at hl 1 rfl) ?_
        refine gx_getR C g fl_X12_20 dX12_expression_157 sh_11 rfl (by decide) ?_
        refine lv_aload_n C.1 C.2.1 dX12_expression_160 rfl (lv_at hl 1 rfl) ?_
        refine gx_getI C g fl_X12_230 dX12_expression_161 sh_11 rfl ?_
        obtain ⟨i7, h⟩ := h
        refine gx_iald C g dX12_expression_164 sh_50 i7 ?_
        refine lv_bipush (v := 42) C.1 C.2.1 dX12_expression_165 (by decide) ?_
        refine lv_icmp_gt (tgt := 174) C.1 C.2.1 dX12_expression_167 (by decide) (fun c8 => ?_) (fun c8 => ?_)
        · have h := h.1 c8
          exact tX12_expression_174 C hr hK14 x1 (0 : Int32) _ _ _ _ (lv_sub hl [1, 2, 0] rfl) g h
        · have h := h.2 c8
          refine lv_iconst (v := 1) C.1 C.2.1 dX12_expression_170 (by decide) ?_
          refine lv_goto (tgt := 175) C.1 C.2.1 dX12_expression_171 (by decide) ?_
          exact tX12_expression_175 C hr hK14 x1 (0 : Int32) (1 : Int32) _ _ _ _ (lv_sub hl [1, 2, 0] rfl) g h
  · have h := h.2 c3
    refine lv_aload_n C.1 C.2.1 dX12_expression_71 rfl (lv_at hl 0 rfl) ?_
    refine gx_getI C g fl_X12_254 dX12_expression_72 sh_11 rfl ?_
    refine lv_bipush (v := 8) C.1 C.2.1 dX12_expression_75 (by decide) ?_
    refine lv_icmp_ne (tgt := 85) C.1 C.2.1 dX12_expression_77 (by decide) (fun c9 => ?_) (fun c9 => ?_)
    · have h := h.2 c9
      exact tX12_expression_85 C hr hK14 x1 x3 _ _ _ _ (lv_sub hl [0, 1, 2] rfl) g h
    · have h := h.1 c9
      refine lv_aload_n C.1 C.2.1 dX12_expression_80 rfl (lv_at hl 0 rfl) ?_
      refine lv_iconst (v := 2) C.1 C.2.1 dX12_expression_81 (by decide) ?_
      refine gx_callv0 g (gx_runV (k := 11) (rest := []) C g mb_X12_fail ml_X12_242 rfl sh_11 (mX12_fail (2 : Int32) _ _ h) ⟨Nat.le_of_ble_eq_true rfl, Nat.le_of_ble_eq_true rfl⟩ ⟨Nat.le_refl _, Nat.le_refl _⟩ rfl hl.1 rfl (Nat.le_of_ble_eq_true rfl) dX12_expression_82) rfl rfl (fun σ11 H locs h g => ?_)
      exact tX12_expression_85 C hr hK14 x1 x3 _ _ _ _ (lv_sub hl [0, 1, 2] rfl) g h
set_option maxHeartbeats 4000000 in
set_option maxRecDepth 100000 in
theorem tX12_expression_14 {p : Program} {l : Launch} {e : Env} {s : State} {m : MethodId} {args : Array Value} {below : List Frame} {meth : Method} {c : Code} {E : EE} {base : Nat} (C : Cx p E base s m args meth c cX12_expression 6 RX12) (hr : meth.sig.returnType = none) {Q : St → Prop} : ∀ (n : Nat) (x1 : Int32) (x2 : Int32) (x3 : Int32) (σ : St) (H : Heap) (locs : List Loc) (ls : Array Slot), lv_has ls 6 [(0, .ref (ga E 11)), (1, .int x1), (2, .int x2), (3, .int x3)] → GW E base s σ H locs → wX12_expression_14 Q n x1 x2 x3 σ → W p l e rmX12_expression s m args below meth c H locs 0 0 (MQ below (QV E base Q) args s 0 0 (fun q => base ≤ q)) (F0 m 14 ls []) := by
  intro n
  induction n with
  | zero => intro _ _ _; intros; exact False.elim (by assumption)
  | succ n ih =>
    intro x1 x2 x3 σ H locs ls hl g h
    refine lv_iload_n C.1 C.2.1 dX12_expression_14 rfl (lv_at hl 3 rfl) ?_
    refine lv_if_eq (tgt := 406) C.1 C.2.1 dX12_expression_15 (by decide) (fun c1 => ?_) (fun c1 => ?_)
    · have h := h.1 c1
      exact gx_vret C hr g dX12_expression_406 h
    · have h := h.2 c1
      refine lv_aload_n C.1 C.2.1 dX12_expression_18 rfl (lv_at hl 0 rfl) ?_
      refine gx_getI C g fl_X12_227 dX12_expression_19 sh_11 rfl ?_
      refine lv_if_ne (tgt := 406) C.1 C.2.1 dX12_expression_22 (by decide) (fun c2 => ?_) (fun c2 => ?_)
      · have h := h.2 c2
        exact gx_vret C hr g dX12_expression_406 h
      · have h := h.1 c2
        refine lv_iload_n C.1 C.2.1 dX12_expression_25 rfl (lv_at hl 2 rfl) ?_
        refine lv_if_eq (tgt := 62) C.1 C.2.1 dX12_expression_26 (by decide) (fun c3 => ?_) (fun c3 => ?_)
        · have h := h.1 c3
          exact tX12_expression_62 C hr ih x1 x3 _ _ _ _ (lv_sub hl [0, 1, 3] rfl) g h
        · have h := h.2 c3
          refine lv_aload_n C.1 C.2.1 dX12_expression_29 rfl (lv_at hl 0 rfl) ?_
          refine lv_bipush (v := 9) C.1 C.2.1 dX12_expression_30 (by decide) ?_
          refine gx_calli0 g (gx_runV (k := 11) (rest := []) C g mb_X12_is ml_X12_245 rfl sh_11 (mX12_is (9 : Int32) _ _ h) ⟨Nat.le_of_ble_eq_true rfl, Nat.le_of_ble_eq_true rfl⟩ ⟨Nat.le_refl _, Nat.le_refl _⟩ rfl hl.1 rfl (Nat.le_of_ble_eq_true rfl) dX12_expression_32) rfl rfl (fun r4 σ5 H locs h g => ?_)
          refine lv_if_eq (tgt := 62) C.1 C.2.1 dX12_expression_35 (by decide) (fun c6 => ?_) (fun c6 => ?_)
          · have h := h.1 c6
            exact tX12_expression_62 C hr ih x1 x3 _ _ _ _ (lv_sub hl [0, 1, 3] rfl) g h
          · have h := h.2 c6
            refine lv_aload_n C.1 C.2.1 dX12_expression_38 rfl (lv_at hl 0 rfl) ?_
            refine gx_callv0 g (gx_runV (k := 11) (rest := []) C g mb_X12_next ml_X12_248 rfl sh_11 (mX12_next _ _ h) ⟨Nat.le_of_ble_eq_true rfl, Nat.le_of_ble_eq_true rfl⟩ ⟨Nat.le_refl _, Nat.le_refl _⟩ rfl hl.1 rfl (Nat.le_of_ble_eq_true rfl) dX12_expression_39) rfl rfl (fun σ8 H locs h g => ?_)
            refine lv_aload_n C.1 C.2.1 dX12_expression_42 rfl (lv_at hl 0 rfl) ?_
            refine gx_getR C g fl_X12_92 dX12_expression_43 sh_11 rfl (by decide) ?_
            refine lv_aload_n C.1 C.2.1 dX12_expression_46 rfl (lv_at hl 0 rfl) ?_
            refine gx_getI C g fl_X12_297 dX12_expression_47 sh_11 rfl ?_
            refine lv_iconst (v := 3) C.1 C.2.1 dX12_expression_50 (by decide) ?_
            obtain ⟨i9, h⟩ := h
            refine gx_iast C g dX12_expression_51 sh_72 i9 (fun H locs σ10 eσ10 g => ?_)
            have h := h σ10 eσ10
            refine lv_aload_n C.1 C.2.1 dX12_expression_52 rfl (lv_at hl 0 rfl) ?_
            refine lv_dup C.1 C.2.1 dX12_expression_53 rfl ?_
            refine gx_getI C g fl_X12_297 dX12_expression_54 sh_11 rfl ?_
            refine lv_iconst (v := 1) C.1 C.2.1 dX12_expression_57 (by decide) ?_
            refine lv_iadd C.1 C.2.1 dX12_expression_58 ?_
            refine gx_putI C g fi_X12_297 dX12_expression_59 sh_11 rfl (fun H locs σ11 eσ11 g => ?_)
            have h := h σ11 eσ11
            exact tX12_expression_62 C hr ih x1 x3 _ _ _ _ (lv_sub hl [0, 1, 3] rfl) g h
set_option maxHeartbeats 4000000 in
set_option maxRecDepth 100000 in
theorem tX12_expression_e {p : Program} {l : Launch} {e : Env} {s : State} {m : MethodId} {args : Array Value} {below : List Frame} {meth : Method} {c : Code} {E : EE} {base : Nat} (C : Cx p E base s m args meth c cX12_expression 6 RX12) (hr : meth.sig.returnType = none) {Q : St → Prop} : ∀ (σ : St) (H : Heap) (locs : List Loc) (ls : Array Slot), lv_has ls 6 [(0, .ref (ga E 11))] → GW E base s σ H locs → wX12_expression σ Q → W p l e rmX12_expression s m args below meth c H locs 0 0 (MQ below (QV E base Q) args s 0 0 (fun q => base ≤ q)) (F0 m 0 ls []) := by
  intro σ H locs ls hl g h
  refine lv_aload_n C.1 C.2.1 dX12_expression_0 rfl (lv_at hl 0 rfl) ?_
  refine lv_iconst (v := 0) C.1 C.2.1 dX12_expression_1 (by decide) ?_
  refine gx_putI C g fi_X12_297 dX12_expression_2 sh_11 rfl (fun H locs σ1 eσ1 g => ?_)
  have h := h σ1 eσ1
  refine lv_aload_n C.1 C.2.1 dX12_expression_5 rfl (lv_at hl 0 rfl) ?_
  refine gx_getI C g fl_X12_254 dX12_expression_6 sh_11 rfl ?_
  refine lv_topi (fun x1_2 ex1_2 => ?_)
  have h := h x1_2 ex1_2
  refine lv_istore_n (lv' := [(1, .int x1_2), (0, .ref (ga E 11))]) C.1 C.2.1 dX12_expression_9 rfl hl (by decide) rfl (fun ls hl => ?_)
  refine lv_iconst (v := 1) C.1 C.2.1 dX12_expression_10 (by decide) ?_
  refine lv_istore_n (lv' := [(2, .int (1 : Int32)), (1, .int x1_2), (0, .ref (ga E 11))]) C.1 C.2.1 dX12_expression_11 rfl hl (by decide) rfl (fun ls hl => ?_)
  refine lv_iconst (v := 1) C.1 C.2.1 dX12_expression_12 (by decide) ?_
  refine lv_istore_n (lv' := [(3, .int (1 : Int32)), (2, .int (1 : Int32)), (1, .int x1_2), (0, .ref (ga E 11))]) C.1 C.2.1 dX12_expression_13 rfl hl (by decide) rfl (fun ls hl => ?_)
  obtain ⟨j, h⟩ := h
  exact tX12_expression_14 C hr j x1_2 (1 : Int32) (1 : Int32) _ _ _ _ (lv_sub hl [3, 2, 1, 0] rfl) g h
theorem mX12_expression {l : Launch} {E : EE} {base : Nat} (σ : St) (Q : St → Prop) (h : wX12_expression σ Q) : Met l yX12_expression (wy yX12_expression cX12_expression 6 none) rmX12_expression (va_Pc [.ref (ga E 11)] (fun U => SW E base σ U)) (QV E base Q) (rmX12_expression).cells (rmX12_expression).slots (fun q => base ≤ q) :=
  met_of (by decide) (Nat.le_of_ble_eq_true rfl) (fun p e s m args below meth c C hr g ls hl => tX12_expression_e C hr  _ _ _ _ hl g h)
abbrev rmX12_condition : Room := { frames := 3, cells := 0, slots := 0, locals := 69 }
def wX12_condition_193 (Q : St → Prop) (K4 : Int32 → Int32 → St → Prop) (x1 : Int32) (x2 : Int32) (σ : St) : Prop := K4 x1 x2 σ
def wX12_condition_184 (Q : St → Prop) (K4 : Int32 → Int32 → St → Prop) (x1 : Int32) (xt0 : Int32) (σ : St) : Prop := ((xt0 = 0 → wX12_condition_193 Q K4 x1 xt0 σ) ∧ (¬ (xt0 = 0) → wX12_next σ (fun (σ3 : St) => wX12_condition_193 Q K4 x1 xt0 σ3)))
def wX12_condition_179 (Q : St → Prop) (K4 : Int32 → Int32 → St → Prop) (x1 : Int32) (σ : St) : Prop := wX12_condition_184 Q K4 x1 (1 : Int32) σ
def wX12_condition_72 (Q : St → Prop) (K4 : Int32 → Int32 → St → Prop) (x1 : Int32) (x3 : Int32) (x4 : Int32) (σ : St) : Prop := wX12_next σ (fun (σ2 : St) => ∀ x5_3 : Int32, x5_3 = gv σ2 11 38 → wX12_expression σ2 (fun (σ5 : St) => (((gv σ5 11 13) ≤ 0 → vp_in (gv σ5 11 32) 6600 ∧ ∀ σ8 : St, σ8 = pv σ5 65 (gv σ5 11 32).toNatClampNeg x4 → vp_in (gv σ8 11 32) 6600 ∧ ∀ σ10 : St, σ10 = pv σ8 66 (gv σ8 11 32).toNatClampNeg x3 → vp_in (gv σ10 11 32) 6600 ∧ ∀ σ12 : St, σ12 = pv σ10 67 (gv σ10 11 32).toNatClampNeg x5_3 → vp_in (gv σ12 11 32) 6600 ∧ ∀ σ14 : St, σ14 = pv σ12 68 (gv σ12 11 32).toNatClampNeg (gv σ12 11 38) → vp_in (gv σ14 11 32) 6600 ∧ ∀ σ16 : St, σ16 = pv σ14 69 (gv σ14 11 32).toNatClampNeg (vp_nar .boolean x1) → ∀ σ17 : St, σ17 = pv σ16 11 32 ((gv σ16 11 32) + (1 : Int32)) → wX12_is (29 : Int32) σ17 (fun (r18 : Int32) (σ19 : St) => ((r18 = 0 → wX12_is (30 : Int32) σ19 (fun (r21 : Int32) (σ22 : St) => ((r21 = 0 → wX12_condition_184 Q K4 r18 (0 : Int32) σ22) ∧ (¬ (r21 = 0) → wX12_condition_179 Q K4 r18 σ22)))) ∧ (¬ (r18 = 0) → wX12_condition_179 Q K4 r18 σ19)))) ∧ (¬ ((gv σ5 11 13) ≤ 0) → Q σ5))))
def wX12_condition_67 (Q : St → Prop) (K4 : Int32 → Int32 → St → Prop) (x1 : Int32) (x3 : Int32) (x4 : Int32) (σ : St) : Prop := wX12_fail (1 : Int32) σ (fun (σ2 : St) => wX12_condition_72 Q K4 x1 x3 x4 σ2)
def wX12_condition_47 (Q : St → Prop) (K4 : Int32 → Int32 → St → Prop) (x1 : Int32) (x3 : Int32) (xt0 : Int32) (σ : St) : Prop := (((gv σ 11 13) = 0 → ((xt0 < 0 → wX12_condition_67 Q K4 x1 x3 xt0 σ) ∧ (¬ (xt0 < 0) → ((xt0 ≤ (3 : Int32) → wX12_condition_72 Q K4 x1 x3 xt0 σ) ∧ (¬ (xt0 ≤ (3 : Int32)) → wX12_condition_67 Q K4 x1 x3 xt0 σ))))) ∧ (¬ ((gv σ 11 13) = 0) → wX12_condition_72 Q K4 x1 x3 xt0 σ))
def wX12_condition_4 (Q : St → Prop) : Nat → Int32 → Int32 → St → Prop
  | 0, _, _, _ => False
  | n + 1, x1, x2, σ => ((x2 = 0 → Q σ) ∧ (¬ (x2 = 0) → (((gv σ 11 13) = 0 → ∀ x3_3 : Int32, x3_3 = gv σ 11 38 → wX12_expression σ (fun (σ5 : St) => (((gv σ5 11 13) ≤ 0 → vp_in (gv σ5 11 11) 603 ∧ wX12_condition_47 Q (fun x1' x2' σ' => wX12_condition_4 Q n x1' x2' σ') x1 x3_3 ((gv σ5 50 (gv σ5 11 11).toNatClampNeg) - (11 : Int32)) σ5) ∧ (¬ ((gv σ5 11 13) ≤ 0) → wX12_condition_47 Q (fun x1' x2' σ' => wX12_condition_4 Q n x1' x2' σ') x1 x3_3 (0 : Int32) σ5)))) ∧ (¬ ((gv σ 11 13) = 0) → Q σ))))
def wX12_condition (σ : St) (Q : St → Prop) : Prop := ∃ j : Nat, wX12_condition_4 Q j (1 : Int32) (1 : Int32) σ
set_option maxHeartbeats 4000000 in
set_option maxRecDepth 100000 in
theorem tX12_condition_193 {p : Program} {l : Launch} {e : Env} {s : State} {m : MethodId} {args : Array Value} {below : List Frame} {meth : Method} {c : Code} {E : EE} {base : Nat} (C : Cx p E base s m args meth c cX12_condition 6 RX12) (hr : meth.sig.returnType = none) {Q : St → Prop} {K4 : Int32 → Int32 → St → Prop} (hK4 : ∀ (x1 : Int32) (x2 : Int32) (σ : St) (H : Heap) (locs : List Loc) (ls : Array Slot), lv_has ls 6 [(0, .ref (ga E 11)), (1, .int x1), (2, .int x2)] → GW E base s σ H locs → K4 x1 x2 σ → W p l e rmX12_condition s m args below meth c H locs 0 0 (MQ below (QV E base Q) args s 0 0 (fun q => base ≤ q)) (F0 m 4 ls [])) : ∀ (x1 : Int32) (x2 : Int32) (σ : St) (H : Heap) (locs : List Loc) (ls : Array Slot), lv_has ls 6 [(0, .ref (ga E 11)), (1, .int x1), (2, .int x2)] → GW E base s σ H locs → wX12_condition_193 Q K4 x1 x2 σ → W p l e rmX12_condition s m args below meth c H locs 0 0 (MQ below (QV E base Q) args s 0 0 (fun q => base ≤ q)) (F0 m 193 ls []) := by
  intro x1 x2 σ H locs ls hl g h
  refine lv_goto (tgt := 4) C.1 C.2.1 dX12_condition_193 (by decide) ?_
  exact hK4 x1 x2 _ _ _ _ (lv_sub hl [0, 1, 2] rfl) g h
set_option maxHeartbeats 4000000 in
set_option maxRecDepth 100000 in
theorem tX12_condition_184 {p : Program} {l : Launch} {e : Env} {s : State} {m : MethodId} {args : Array Value} {below : List Frame} {meth : Method} {c : Code} {E : EE} {base : Nat} (C : Cx p E base s m args meth c cX12_condition 6 RX12) (hr : meth.sig.returnType = none) {Q : St → Prop} {K4 : Int32 → Int32 → St → Prop} (hK4 : ∀ (x1 : Int32) (x2 : Int32) (σ : St) (H : Heap) (locs : List Loc) (ls : Array Slot), lv_has ls 6 [(0, .ref (ga E 11)), (1, .int x1), (2, .int x2)] → GW E base s σ H locs → K4 x1 x2 σ → W p l e rmX12_condition s m args below meth c H locs 0 0 (MQ below (QV E base Q) args s 0 0 (fun q => base ≤ q)) (F0 m 4 ls [])) : ∀ (x1 : Int32) (xt0 : Int32) (σ : St) (H : Heap) (locs : List Loc) (ls : Array Slot), lv_has ls 6 [(0, .ref (ga E 11)), (1, .int x1)] → GW E base s σ H locs → wX12_condition_184 Q K4 x1 xt0 σ → W p l e rmX12_condition s m args below meth c H locs 0 0 (MQ below (QV E base Q) args s 0 0 (fun q => base ≤ q)) (F0 m 184 ls [.int xt0]) := by
  intro x1 xt0 σ H locs ls hl g h
  refine lv_istore_n (lv' := [(2, .int xt0), (0, .ref (ga E 11)), (1, .int x1)]) C.1 C.2.1 dX12_condition_184 rfl hl (by decide) rfl (fun ls hl => ?_)
  refine lv_iload_n C.1 C.2.1 dX12_condition_185 rfl (lv_at hl 0 rfl) ?_
  refine lv_if_eq (tgt := 193) C.1 C.2.1 dX12_condition_186 (by decide) (fun c1 => ?_) (fun c1 => ?_)
  · have h := h.1 c1
    exact tX12_condition_193 C hr hK4 x1 xt0 _ _ _ _ (lv_sub hl [1, 2, 0] rfl) g h
  · have h := h.2 c1
    refine lv_aload_n C.1 C.2.1 dX12_condition_189 rfl (lv_at hl 1 rfl) ?_
    refine gx_callv0 g (gx_runV (k := 11) (rest := []) C g mb_X12_next ml_X12_248 rfl sh_11 (mX12_next _ _ h) ⟨Nat.le_of_ble_eq_true rfl, Nat.le_of_ble_eq_true rfl⟩ ⟨Nat.le_refl _, Nat.le_refl _⟩ rfl hl.1 rfl (Nat.le_of_ble_eq_true rfl) dX12_condition_190) rfl rfl (fun σ3 H locs h g => ?_)
    exact tX12_condition_193 C hr hK4 x1 xt0 _ _ _ _ (lv_sub hl [1, 2, 0] rfl) g h
set_option maxHeartbeats 4000000 in
set_option maxRecDepth 100000 in
theorem tX12_condition_179 {p : Program} {l : Launch} {e : Env} {s : State} {m : MethodId} {args : Array Value} {below : List Frame} {meth : Method} {c : Code} {E : EE} {base : Nat} (C : Cx p E base s m args meth c cX12_condition 6 RX12) (hr : meth.sig.returnType = none) {Q : St → Prop} {K4 : Int32 → Int32 → St → Prop} (hK4 : ∀ (x1 : Int32) (x2 : Int32) (σ : St) (H : Heap) (locs : List Loc) (ls : Array Slot), lv_has ls 6 [(0, .ref (ga E 11)), (1, .int x1), (2, .int x2)] → GW E base s σ H locs → K4 x1 x2 σ → W p l e rmX12_condition s m args below meth c H locs 0 0 (MQ below (QV E base Q) args s 0 0 (fun q => base ≤ q)) (F0 m 4 ls [])) : ∀ (x1 : Int32) (σ : St) (H : Heap) (locs : List Loc) (ls : Array Slot), lv_has ls 6 [(0, .ref (ga E 11)), (1, .int x1)] → GW E base s σ H locs → wX12_condition_179 Q K4 x1 σ → W p l e rmX12_condition s m args below meth c H locs 0 0 (MQ below (QV E base Q) args s 0 0 (fun q => base ≤ q)) (F0 m 179 ls []) := by
  intro x1 σ H locs ls hl g h
  refine lv_iconst (v := 1) C.1 C.2.1 dX12_condition_179 (by decide) ?_
  refine lv_goto (tgt := 184) C.1 C.2.1 dX12_condition_180 (by decide) ?_
  exact tX12_condition_184 C hr hK4 x1 (1 : Int32) _ _ _ _ (lv_sub hl [0, 1] rfl) g h
set_option maxHeartbeats 4000000 in
set_option maxRecDepth 100000 in
theorem tX12_condition_72 {p : Program} {l : Launch} {e : Env} {s : State} {m : MethodId} {args : Array Value} {below : List Frame} {meth : Method} {c : Code} {E : EE} {base : Nat} (C : Cx p E base s m args meth c cX12_condition 6 RX12) (hr : meth.sig.returnType = none) {Q : St → Prop} {K4 : Int32 → Int32 → St → Prop} (hK4 : ∀ (x1 : Int32) (x2 : Int32) (σ : St) (H : Heap) (locs : List Loc) (ls : Array Slot), lv_has ls 6 [(0, .ref (ga E 11)), (1, .int x1), (2, .int x2)] → GW E base s σ H locs → K4 x1 x2 σ → W p l e rmX12_condition s m args below meth c H locs 0 0 (MQ below (QV E base Q) args s 0 0 (fun q => base ≤ q)) (F0 m 4 ls [])) : ∀ (x1 : Int32) (x3 : Int32) (x4 : Int32) (σ : St) (H : Heap) (locs : List Loc) (ls : Array Slot), lv_has ls 6 [(0, .ref (ga E 11)), (1, .int x1), (3, .int x3), (4, .int x4)] → GW E base s σ H locs → wX12_condition_72 Q K4 x1 x3 x4 σ → W p l e rmX12_condition s m args below meth c H locs 0 0 (MQ below (QV E base Q) args s 0 0 (fun q => base ≤ q)) (F0 m 72 ls []) := by
  intro x1 x3 x4 σ H locs ls hl g h
  refine lv_aload_n C.1 C.2.1 dX12_condition_72 rfl (lv_at hl 0 rfl) ?_
  refine gx_callv0 g (gx_runV (k := 11) (rest := []) C g mb_X12_next ml_X12_248 rfl sh_11 (mX12_next _ _ h) ⟨Nat.le_of_ble_eq_true rfl, Nat.le_of_ble_eq_true rfl⟩ ⟨Nat.le_refl _, Nat.le_refl _⟩ rfl hl.1 rfl (Nat.le_of_ble_eq_true rfl) dX12_condition_73) rfl rfl (fun σ2 H locs h g => ?_)
  refine lv_aload_n C.1 C.2.1 dX12_condition_76 rfl (lv_at hl 0 rfl) ?_
  refine gx_getI C g fl_X12_272 dX12_condition_77 sh_11 rfl ?_
  refine lv_topi (fun x5_3 ex5_3 => ?_)
  have h := h x5_3 ex5_3
  refine lv_istore (lv' := [(5, .int x5_3), (0, .ref (ga E 11)), (1, .int x1), (3, .int x3), (4, .int x4)]) C.1 C.2.1 dX12_condition_80 hl (by decide) rfl (fun ls hl => ?_)
  refine lv_aload_n C.1 C.2.1 dX12_condition_82 rfl (lv_at hl 1 rfl) ?_
  refine gx_callv0 g (gx_runV (k := 11) (rest := []) C g mb_X12_expression ml_X12_291 rfl sh_11 (mX12_expression _ _ h) ⟨Nat.le_of_ble_eq_true rfl, Nat.le_of_ble_eq_true rfl⟩ ⟨Nat.le_refl _, Nat.le_refl _⟩ rfl hl.1 rfl (Nat.le_of_ble_eq_true rfl) dX12_condition_83) rfl rfl (fun σ5 H locs h g => ?_)
  refine lv_aload_n C.1 C.2.1 dX12_condition_86 rfl (lv_at hl 1 rfl) ?_
  refine gx_getI C g fl_X12_227 dX12_condition_87 sh_11 rfl ?_
  refine lv_if_le (tgt := 94) C.1 C.2.1 dX12_condition_90 (by decide) (fun c6 => ?_) (fun c6 => ?_)
  · have h := h.1 c6
    refine lv_aload_n C.1 C.2.1 dX12_condition_94 rfl (lv_at hl 1 rfl) ?_
    refine gx_getR C g fl_X12_71 dX12_condition_95 sh_11 rfl (by decide) ?_
    refine lv_aload_n C.1 C.2.1 dX12_condition_98 rfl (lv_at hl 1 rfl) ?_
    refine gx_getI C g fl_X12_269 dX12_condition_99 sh_11 rfl ?_
    refine lv_iload C.1 C.2.1 dX12_condition_102 (lv_at hl 4 rfl) ?_
    obtain ⟨i7, h⟩ := h
    refine gx_iast C g dX12_condition_104 sh_65 i7 (fun H locs σ8 eσ8 g => ?_)
    have h := h σ8 eσ8
    refine lv_aload_n C.1 C.2.1 dX12_condition_105 rfl (lv_at hl 1 rfl) ?_
    refine gx_getR C g fl_X12_74 dX12_condition_106 sh_11 rfl (by decide) ?_
    refine lv_aload_n C.1 C.2.1 dX12_condition_109 rfl (lv_at hl 1 rfl) ?_
    refine gx_getI C g fl_X12_269 dX12_condition_110 sh_11 rfl ?_
    refine lv_iload_n C.1 C.2.1 dX12_condition_113 rfl (lv_at hl 3 rfl) ?_
    obtain ⟨i9, h⟩ := h
    refine gx_iast C g dX12_condition_114 sh_66 i9 (fun H locs σ10 eσ10 g => ?_)
    have h := h σ10 eσ10
    refine lv_aload_n C.1 C.2.1 dX12_condition_115 rfl (lv_at hl 1 rfl) ?_
    refine gx_getR C g fl_X12_77 dX12_condition_116 sh_11 rfl (by decide) ?_
    refine lv_aload_n C.1 C.2.1 dX12_condition_119 rfl (lv_at hl 1 rfl) ?_
    refine gx_getI C g fl_X12_269 dX12_condition_120 sh_11 rfl ?_
    refine lv_iload C.1 C.2.1 dX12_condition_123 (lv_at hl 0 rfl) ?_
    obtain ⟨i11, h⟩ := h
    refine gx_iast C g dX12_condition_125 sh_67 i11 (fun H locs σ12 eσ12 g => ?_)
    have h := h σ12 eσ12
    refine lv_aload_n C.1 C.2.1 dX12_condition_126 rfl (lv_at hl 1 rfl) ?_
    refine gx_getR C g fl_X12_80 dX12_condition_127 sh_11 rfl (by decide) ?_
    refine lv_aload_n C.1 C.2.1 dX12_condition_130 rfl (lv_at hl 1 rfl) ?_
    refine gx_getI C g fl_X12_269 dX12_condition_131 sh_11 rfl ?_
    refine lv_aload_n C.1 C.2.1 dX12_condition_134 rfl (lv_at hl 1 rfl) ?_
    refine gx_getI C g fl_X12_272 dX12_condition_135 sh_11 rfl ?_
    obtain ⟨i13, h⟩ := h
    refine gx_iast C g dX12_condition_138 sh_68 i13 (fun H locs σ14 eσ14 g => ?_)
    have h := h σ14 eσ14
    refine lv_aload_n C.1 C.2.1 dX12_condition_139 rfl (lv_at hl 1 rfl) ?_
    refine gx_getR C g fl_X12_83 dX12_condition_140 sh_11 rfl (by decide) ?_
    refine lv_aload_n C.1 C.2.1 dX12_condition_143 rfl (lv_at hl 1 rfl) ?_
    refine gx_getI C g fl_X12_269 dX12_condition_144 sh_11 rfl ?_
    refine lv_iload_n C.1 C.2.1 dX12_condition_147 rfl (lv_at hl 2 rfl) ?_
    obtain ⟨i15, h⟩ := h
    refine gx_zast C g dX12_condition_148 sh_69 i15 (fun H locs σ16 eσ16 g => ?_)
    have h := h σ16 eσ16
    refine lv_aload_n C.1 C.2.1 dX12_condition_149 rfl (lv_at hl 1 rfl) ?_
    refine lv_dup C.1 C.2.1 dX12_condition_150 rfl ?_
    refine gx_getI C g fl_X12_269 dX12_condition_151 sh_11 rfl ?_
    refine lv_iconst (v := 1) C.1 C.2.1 dX12_condition_154 (by decide) ?_
    refine lv_iadd C.1 C.2.1 dX12_condition_155 ?_
    refine gx_putI C g fi_X12_269 dX12_condition_156 sh_11 rfl (fun H locs σ17 eσ17 g => ?_)
    have h := h σ17 eσ17
    refine lv_aload_n C.1 C.2.1 dX12_condition_159 rfl (lv_at hl 1 rfl) ?_
    refine lv_bipush (v := 29) C.1 C.2.1 dX12_condition_160 (by decide) ?_
    refine gx_calli0 g (gx_runV (k := 11) (rest := []) C g mb_X12_is ml_X12_245 rfl sh_11 (mX12_is (29 : Int32) _ _ h) ⟨Nat.le_of_ble_eq_true rfl, Nat.le_of_ble_eq_true rfl⟩ ⟨Nat.le_refl _, Nat.le_refl _⟩ rfl hl.1 rfl (Nat.le_of_ble_eq_true rfl) dX12_condition_162) rfl rfl (fun r18 σ19 H locs h g => ?_)
    refine lv_istore_n (lv' := [(1, .int r18), (5, .int x5_3), (0, .ref (ga E 11)), (3, .int x3), (4, .int x4)]) C.1 C.2.1 dX12_condition_165 rfl hl (by decide) rfl (fun ls hl => ?_)
    refine lv_iload_n C.1 C.2.1 dX12_condition_166 rfl (lv_at hl 0 rfl) ?_
    refine lv_if_ne (tgt := 179) C.1 C.2.1 dX12_condition_167 (by decide) (fun c20 => ?_) (fun c20 => ?_)
    · have h := h.2 c20
      exact tX12_condition_179 C hr hK4 r18 _ _ _ _ (lv_sub hl [2, 0] rfl) g h
    · have h := h.1 c20
      refine lv_aload_n C.1 C.2.1 dX12_condition_170 rfl (lv_at hl 2 rfl) ?_
      refine lv_bipush (v := 30) C.1 C.2.1 dX12_condition_171 (by decide) ?_
      refine gx_calli0 g (gx_runV (k := 11) (rest := []) C g mb_X12_is ml_X12_245 rfl sh_11 (mX12_is (30 : Int32) _ _ h) ⟨Nat.le_of_ble_eq_true rfl, Nat.le_of_ble_eq_true rfl⟩ ⟨Nat.le_refl _, Nat.le_refl _⟩ rfl hl.1 rfl (Nat.le_of_ble_eq_true rfl) dX12_condition_173) rfl rfl (fun r21 σ22 H locs h g => ?_)
      refine lv_if_eq (tgt := 183) C.1 C.2.1 dX12_condition_176 (by decide) (fun c23 => ?_) (fun c23 => ?_)
      · have h := h.1 c23
        refine lv_iconst (v := 0) C.1 C.2.1 dX12_condition_183 (by decide) ?_
        exact tX12_condition_184 C hr hK4 r18 (0 : Int32) _ _ _ _ (lv_sub hl [2, 0] rfl) g h
      · have h := h.2 c23
        exact tX12_condition_179 C hr hK4 r18 _ _ _ _ (lv_sub hl [2, 0] rfl) g h
  · have h := h.2 c6
    exact gx_vret C hr g dX12_condition_93 h
set_option maxHeartbeats 4000000 in
set_option maxRecDepth 100000 in
theorem tX12_condition_67 {p : Program} {l : Launch} {e : Env} {s : State} {m : MethodId} {args : Array Value} {below : List Frame} {meth : Method} {c : Code} {E : EE} {base : Nat} (C : Cx p E base s m args meth c cX12_condition 6 RX12) (hr : meth.sig.returnType = none) {Q : St → Prop} {K4 : Int32 → Int32 → St → Prop} (hK4 : ∀ (x1 : Int32) (x2 : Int32) (σ : St) (H : Heap) (locs : List Loc) (ls : Array Slot), lv_has ls 6 [(0, .ref (ga E 11)), (1, .int x1), (2, .int x2)] → GW E base s σ H locs → K4 x1 x2 σ → W p l e rmX12_condition s m args below meth c H locs 0 0 (MQ below (QV E base Q) args s 0 0 (fun q => base ≤ q)) (F0 m 4 ls [])) : ∀ (x1 : Int32) (x3 : Int32) (x4 : Int32) (σ : St) (H : Heap) (locs : List Loc) (ls : Array Slot), lv_has ls 6 [(0, .ref (ga E 11)), (1, .int x1), (3, .int x3), (4, .int x4)] → GW E base s σ H locs → wX12_condition_67 Q K4 x1 x3 x4 σ → W p l e rmX12_condition s m args below meth c H locs 0 0 (MQ below (QV E base Q) args s 0 0 (fun q => base ≤ q)) (F0 m 67 ls []) := by
  intro x1 x3 x4 σ H locs ls hl g h
  refine lv_aload_n C.1 C.2.1 dX12_condition_67 rfl (lv_at hl 0 rfl) ?_
  refine lv_iconst (v := 1) C.1 C.2.1 dX12_condition_68 (by decide) ?_
  refine gx_callv0 g (gx_runV (k := 11) (rest := []) C g mb_X12_fail ml_X12_242 rfl sh_11 (mX12_fail (1 : Int32) _ _ h) ⟨Nat.le_of_ble_eq_true rfl, Nat.le_of_ble_eq_true rfl⟩ ⟨Nat.le_refl _, Nat.le_refl _⟩ rfl hl.1 rfl (Nat.le_of_ble_eq_true rfl) dX12_condition_69) rfl rfl (fun σ2 H locs h g => ?_)
  exact tX12_condition_72 C hr hK4 x1 x3 x4 _ _ _ _ (lv_sub hl [0, 1, 2, 3] rfl) g h
set_option maxHeartbeats 4000000 in
set_option maxRecDepth 100000 in
theorem tX12_condition_47 {p : Program} {l : Launch} {e : Env} {s : State} {m : MethodId} {args : Array Value} {below : List Frame} {meth : Method} {c : Code} {E : EE} {base : Nat} (C : Cx p E base s m args meth c cX12_condition 6 RX12) (hr : meth.sig.returnType = none) {Q : St → Prop} {K4 : Int32 → Int32 → St → Prop} (hK4 : ∀ (x1 : Int32) (x2 : Int32) (σ : St) (H : Heap) (locs : List Loc) (ls : Array Slot), lv_has ls 6 [(0, .ref (ga E 11)), (1, .int x1), (2, .int x2)] → GW E base s σ H locs → K4 x1 x2 σ → W p l e rmX12_condition s m args below meth c H locs 0 0 (MQ below (QV E base Q) args s 0 0 (fun q => base ≤ q)) (F0 m 4 ls [])) : ∀ (x1 : Int32) (x3 : Int32) (xt0 : Int32) (σ : St) (H : Heap) (locs : List Loc) (ls : Array Slot), lv_has ls 6 [(0, .ref (ga E 11)), (1, .int x1), (3, .int x3)] → GW E base s σ H locs → wX12_condition_47 Q K4 x1 x3 xt0 σ → W p l e rmX12_condition s m args below meth c H locs 0 0 (MQ below (QV E base Q) args s 0 0 (fun q => base ≤ q)) (F0 m 47 ls [.int xt0]) := by
  intro x1 x3 xt0 σ H locs ls hl g h
  refine lv_istore (lv' := [(4, .int xt0), (0, .ref (ga E 11)), (1, .int x1), (3, .int x3)]) C.1 C.2.1 dX12_condition_47 hl (by decide) rfl (fun ls hl => ?_)
  refine lv_aload_n C.1 C.2.1 dX12_condition_49 rfl (lv_at hl 1 rfl) ?_
  refine gx_getI C g fl_X12_227 dX12_condition_50 sh_11 rfl ?_
  refine lv_if_ne (tgt := 72) C.1 C.2.1 dX12_condition_53 (by decide) (fun c1 => ?_) (fun c1 => ?_)
  · have h := h.2 c1
    exact tX12_condition_72 C hr hK4 x1 x3 xt0 _ _ _ _ (lv_sub hl [1, 2, 3, 0] rfl) g h
  · have h := h.1 c1
    refine lv_iload C.1 C.2.1 dX12_condition_56 (lv_at hl 0 rfl) ?_
    refine lv_if_lt (tgt := 67) C.1 C.2.1 dX12_condition_58 (by decide) (fun c2 => ?_) (fun c2 => ?_)
    · have h := h.1 c2
      exact tX12_condition_67 C hr hK4 x1 x3 xt0 _ _ _ _ (lv_sub hl [1, 2, 3, 0] rfl) g h
    · have h := h.2 c2
      refine lv_iload C.1 C.2.1 dX12_condition_61 (lv_at hl 0 rfl) ?_
      refine lv_iconst (v := 3) C.1 C.2.1 dX12_condition_63 (by decide) ?_
      refine lv_icmp_le (tgt := 72) C.1 C.2.1 dX12_condition_64 (by decide) (fun c3 => ?_) (fun c3 => ?_)
      · have h := h.1 c3
        exact tX12_condition_72 C hr hK4 x1 x3 xt0 _ _ _ _ (lv_sub hl [1, 2, 3, 0] rfl) g h
      · have h := h.2 c3
        exact tX12_condition_67 C hr hK4 x1 x3 xt0 _ _ _ _ (lv_sub hl [1, 2, 3, 0] rfl) g h
set_option maxHeartbeats 4000000 in
set_option maxRecDepth 100000 in
theorem tX12_condition_4 {p : Program} {l : Launch} {e : Env} {s : State} {m : MethodId} {args : Array Value} {below : List Frame} {meth : Method} {c : Code} {E : EE} {base : Nat} (C : Cx p E base s m args meth c cX12_condition 6 RX12) (hr : meth.sig.returnType = none) {Q : St → Prop} : ∀ (n : Nat) (x1 : Int32) (x2 : Int32) (σ : St) (H : Heap) (locs : List Loc) (ls : Array Slot), lv_has ls 6 [(0, .ref (ga E 11)), (1, .int x1), (2, .int x2)] → GW E base s σ H locs → wX12_condition_4 Q n x1 x2 σ → W p l e rmX12_condition s m args below meth c H locs 0 0 (MQ below (QV E base Q) args s 0 0 (fun q => base ≤ q)) (F0 m 4 ls []) := by
  intro n
  induction n with
  | zero => intro _ _; intros; exact False.elim (by assumption)
  | succ n ih =>
    intro x1 x2 σ H locs ls hl g h
    refine lv_iload_n C.1 C.2.1 dX12_condition_4 rfl (lv_at hl 2 rfl) ?_
    refine lv_if_eq (tgt := 196) C.1 C.2.1 dX12_condition_5 (by decide) (fun c1 => ?_) (fun c1 => ?_)
    · have h := h.1 c1
      exact gx_vret C hr g dX12_condition_196 h
    · have h := h.2 c1
      refine lv_aload_n C.1 C.2.1 dX12_condition_8 rfl (lv_at hl 0 rfl) ?_
      refine gx_getI C g fl_X12_227 dX12_condition_9 sh_11 rfl ?_
      refine lv_if_ne (tgt := 196) C.1 C.2.1 dX12_condition_12 (by decide) (fun c2 => ?_) (fun c2 => ?_)
      · have h := h.2 c2
        exact gx_vret C hr g dX12_condition_196 h
      · have h := h.1 c2
        refine lv_aload_n C.1 C.2.1 dX12_condition_15 rfl (lv_at hl 0 rfl) ?_
        refine gx_getI C g fl_X12_272 dX12_condition_16 sh_11 rfl ?_
        refine lv_topi (fun x3_3 ex3_3 => ?_)
        have h := h x3_3 ex3_3
        refine lv_istore_n (lv' := [(3, .int x3_3), (0, .ref (ga E 11)), (1, .int x1), (2, .int x2)]) C.1 C.2.1 dX12_condition_19 rfl hl (by decide) rfl (fun ls hl => ?_)
        refine lv_aload_n C.1 C.2.1 dX12_condition_20 rfl (lv_at hl 1 rfl) ?_
        refine gx_callv0 g (gx_runV (k := 11) (rest := []) C g mb_X12_expression ml_X12_291 rfl sh_11 (mX12_expression _ _ h) ⟨Nat.le_of_ble_eq_true rfl, Nat.le_of_ble_eq_true rfl⟩ ⟨Nat.le_refl _, Nat.le_refl _⟩ rfl hl.1 rfl (Nat.le_of_ble_eq_true rfl) dX12_condition_21) rfl rfl (fun σ5 H locs h g => ?_)
        refine lv_aload_n C.1 C.2.1 dX12_condition_24 rfl (lv_at hl 1 rfl) ?_
        refine gx_getI C g fl_X12_227 dX12_condition_25 sh_11 rfl ?_
        refine lv_if_le (tgt := 35) C.1 C.2.1 dX12_condition_28 (by decide) (fun c6 => ?_) (fun c6 => ?_)
        · have h := h.1 c6
          refine lv_aload_n C.1 C.2.1 dX12_condition_35 rfl (lv_at hl 1 rfl) ?_
          refine gx_getR C g fl_X12_20 dX12_condition_36 sh_11 rfl (by decide) ?_
          refine lv_aload_n C.1 C.2.1 dX12_condition_39 rfl (lv_at hl 1 rfl) ?_
          refine gx_getI C g fl_X12_230 dX12_condition_40 sh_11 rfl ?_
          obtain ⟨i7, h⟩ := h
          refine gx_iald C g dX12_condition_43 sh_50 i7 ?_
          refine lv_bipush (v := 11) C.1 C.2.1 dX12_condition_44 (by decide) ?_
          refine lv_isub C.1 C.2.1 dX12_condition_46 ?_
          exact tX12_condition_47 C hr ih x1 x3_3 ((gv σ5 50 (gv σ5 11 11).toNatClampNeg) - (11 : Int32)) _ _ _ _ (lv_sub hl [1, 2, 0] rfl) g h
        · have h := h.2 c6
          refine lv_iconst (v := 0) C.1 C.2.1 dX12_condition_31 (by decide) ?_
          refine lv_goto (tgt := 47) C.1 C.2.1 dX12_condition_32 (by decide) ?_
          exact tX12_condition_47 C hr ih x1 x3_3 (0 : Int32) _ _ _ _ (lv_sub hl [1, 2, 0] rfl) g h
set_option maxHeartbeats 4000000 in
set_option maxRecDepth 100000 in
theorem tX12_condition_e {p : Program} {l : Launch} {e : Env} {s : State} {m : MethodId} {args : Array Value} {below : List Frame} {meth : Method} {c : Code} {E : EE} {base : Nat} (C : Cx p E base s m args meth c cX12_condition 6 RX12) (hr : meth.sig.returnType = none) {Q : St → Prop} : ∀ (σ : St) (H : Heap) (locs : List Loc) (ls : Array Slot), lv_has ls 6 [(0, .ref (ga E 11))] → GW E base s σ H locs → wX12_condition σ Q → W p l e rmX12_condition s m args below meth c H locs 0 0 (MQ below (QV E base Q) args s 0 0 (fun q => base ≤ q)) (F0 m 0 ls []) := by
  intro σ H locs ls hl g h
  refine lv_iconst (v := 1) C.1 C.2.1 dX12_condition_0 (by decide) ?_
  refine lv_istore_n (lv' := [(1, .int (1 : Int32)), (0, .ref (ga E 11))]) C.1 C.2.1 dX12_condition_1 rfl hl (by decide) rfl (fun ls hl => ?_)
  refine lv_iconst (v := 1) C.1 C.2.1 dX12_condition_2 (by decide) ?_
  refine lv_istore_n (lv' := [(2, .int (1 : Int32)), (1, .int (1 : Int32)), (0, .ref (ga E 11))]) C.1 C.2.1 dX12_condition_3 rfl hl (by decide) rfl (fun ls hl => ?_)
  obtain ⟨j, h⟩ := h
  exact tX12_condition_4 C hr j (1 : Int32) (1 : Int32) _ _ _ _ (lv_sub hl [2, 1, 0] rfl) g h
theorem mX12_condition {l : Launch} {E : EE} {base : Nat} (σ : St) (Q : St → Prop) (h : wX12_condition σ Q) : Met l yX12_condition (wy yX12_condition cX12_condition 6 none) rmX12_condition (va_Pc [.ref (ga E 11)] (fun U => SW E base σ U)) (QV E base Q) (rmX12_condition).cells (rmX12_condition).slots (fun q => base ≤ q) :=
  met_of (by decide) (Nat.le_of_ble_eq_true rfl) (fun p e s m args below meth c C hr g ls hl => tX12_condition_e C hr  _ _ _ _ hl g h)
abbrev rmX12_tellRule : Room := { frames := 4, cells := 0, slots := 0, locals := 94 }
def wX12_tellRule_259 (Q : St → Prop) (x2 : Int32) (σ : St) : Prop := vp_in x2 31 ∧ ∀ σ2 : St, σ2 = pv σ 64 x2.toNatClampNeg (gv σ 11 32) → wX12_must (4 : Int32) σ2 (fun (σ4 : St) => (((gv σ4 11 13) = 0 → ∀ σ6 : St, σ6 = pv σ4 11 24 ((gv σ4 11 24) + (1 : Int32)) → Q σ6) ∧ (¬ ((gv σ4 11 13) = 0) → Q σ4)))
def wX12_tellRule_232 (Q : St → Prop) (x2 : Int32) (σ : St) : Prop := vp_in x2 31 ∧ ∀ σ2 : St, σ2 = pv σ 63 x2.toNatClampNeg (gv σ 11 32) → wX12_is (28 : Int32) σ2 (fun (r3 : Int32) (σ4 : St) => ((r3 = 0 → wX12_tellRule_259 Q x2 σ4) ∧ (¬ (r3 = 0) → wX12_next σ4 (fun (σ7 : St) => wX12_condition σ7 (fun (σ9 : St) => wX12_tellRule_259 Q x2 σ9)))))
def wX12_tellRule_168 (Q : St → Prop) (x2 : Int32) (σ : St) : Prop := wX12_next σ (fun (σ2 : St) => vp_in x2 31 ∧ (((gv σ2 60 x2.toNatClampNeg) = 0 → vp_in x2 31 ∧ ∀ σ6 : St, σ6 = pv σ2 61 x2.toNatClampNeg (gv σ2 11 32) → wX12_condition σ6 (fun (σ8 : St) => vp_in x2 31 ∧ ∀ σ10 : St, σ10 = pv σ8 62 x2.toNatClampNeg (gv σ8 11 32) → wX12_tellRule_232 Q x2 σ10)) ∧ (¬ ((gv σ2 60 x2.toNatClampNeg) = 0) → vp_in x2 31 ∧ ∀ σ12 : St, σ12 = pv σ2 61 x2.toNatClampNeg (gv σ2 11 38) → wX12_expression σ12 (fun (σ14 : St) => vp_in x2 31 ∧ ∀ σ16 : St, σ16 = pv σ14 62 x2.toNatClampNeg (gv σ14 11 38) → wX12_tellRule_232 Q x2 σ16))))
def wX12_tellRule_133 (Q : St → Prop) (x2 : Int32) (σ : St) : Prop := wX12_is (27 : Int32) σ (fun (r1 : Int32) (σ2 : St) => vp_in x2 31 ∧ ∀ σ4 : St, σ4 = pv σ2 60 x2.toNatClampNeg (vp_nar .boolean r1) → wX12_is (27 : Int32) σ4 (fun (r5 : Int32) (σ6 : St) => ((r5 = 0 → wX12_is (26 : Int32) σ6 (fun (r8 : Int32) (σ9 : St) => ((r8 = 0 → wX12_fail (1 : Int32) σ9 (fun (σ12 : St) => wX12_tellRule_168 Q x2 σ12)) ∧ (¬ (r8 = 0) → wX12_tellRule_168 Q x2 σ9)))) ∧ (¬ (r5 = 0) → wX12_tellRule_168 Q x2 σ6))))
def wX12_tellRule_40 (Q : St → Prop) (x1 : Int32) (σ : St) : Prop := (((gv σ 11 13) ≤ 0 → ∀ x2_2 : Int32, x2_2 = gv σ 11 24 → wX12_is (25 : Int32) σ (fun (r3 : Int32) (σ4 : St) => wX12_next σ4 (fun (σ6 : St) => vp_in x2_2 31 ∧ ∀ σ8 : St, σ8 = pv σ6 58 x2_2.toNatClampNeg x1 → vp_in x2_2 31 ∧ ∀ σ10 : St, σ10 = pv σ8 59 x2_2.toNatClampNeg (-1 : Int32) → ((r3 = 0 → ∀ x4_12 : Int32, x4_12 = gv σ10 11 11 → wX12_must (2 : Int32) σ10 (fun (σ14 : St) => (((gv σ14 11 13) ≤ 0 → vp_in x4_12 603 ∧ vp_in x2_2 31 ∧ ∀ σ18 : St, σ18 = pv σ14 59 x2_2.toNatClampNeg (gv σ14 52 x4_12.toNatClampNeg) → vp_in x4_12 603 ∧ (((gv σ18 52 x4_12.toNatClampNeg) ≤ (6 : Int32) → wX12_tellRule_133 Q x2_2 σ18) ∧ (¬ ((gv σ18 52 x4_12.toNatClampNeg) ≤ (6 : Int32)) → wX12_wrong (5 : Int32) x4_12 σ18 (fun (σ22 : St) => wX12_tellRule_133 Q x2_2 σ22)))) ∧ (¬ ((gv σ14 11 13) ≤ 0) → Q σ14)))) ∧ (¬ (r3 = 0) → wX12_tellRule_133 Q x2_2 σ10))))) ∧ (¬ ((gv σ 11 13) ≤ 0) → Q σ))
def wX12_tellRule_26 (Q : St → Prop) (x1 : Int32) (σ : St) : Prop := (((gv σ 11 24) = (30 : Int32) → wX12_fail (2 : Int32) σ (fun (σ3 : St) => wX12_tellRule_40 Q x1 σ3)) ∧ (¬ ((gv σ 11 24) = (30 : Int32)) → wX12_tellRule_40 Q x1 σ))
def wX12_tellRule (x1 : Int32) (σ : St) (Q : St → Prop) : Prop := wX12_is (24 : Int32) σ (fun (r1 : Int32) (σ2 : St) => ((r1 = 0 → wX12_is (25 : Int32) σ2 (fun (r4 : Int32) (σ5 : St) => ((r4 = 0 → wX12_fail (1 : Int32) σ5 (fun (σ8 : St) => wX12_tellRule_40 Q x1 σ8)) ∧ (¬ (r4 = 0) → wX12_tellRule_26 Q x1 σ5)))) ∧ (¬ (r1 = 0) → wX12_tellRule_26 Q x1 σ2)))
set_option maxHeartbeats 4000000 in
set_option maxRecDepth 100000 in
theorem tX12_tellRule_259 {p : Program} {l : Launch} {e : Env} {s : State} {m : MethodId} {args : Array Value} {below : List Frame} {meth : Method} {c : Code} {E : EE} {base : Nat} (C : Cx p E base s m args meth c cX12_tellRule 5 RX12) (hr : meth.sig.returnType = none) {Q : St → Prop} : ∀ (x2 : Int32) (σ : St) (H : Heap) (locs : List Loc) (ls : Array Slot), lv_has ls 5 [(0, .ref (ga E 11)), (2, .int x2)] → GW E base s σ H locs → wX12_tellRule_259 Q x2 σ → W p l e rmX12_tellRule s m args below meth c H locs 0 0 (MQ below (QV E base Q) args s 0 0 (fun q => base ≤ q)) (F0 m 259 ls []) := by
  intro x2 σ H locs ls hl g h
  refine lv_aload_n C.1 C.2.1 dX12_tellRule_259 rfl (lv_at hl 0 rfl) ?_
  refine gx_getR C g fl_X12_68 dX12_tellRule_260 sh_11 rfl (by decide) ?_
  refine lv_iload_n C.1 C.2.1 dX12_tellRule_263 rfl (lv_at hl 1 rfl) ?_
  refine lv_aload_n C.1 C.2.1 dX12_tellRule_264 rfl (lv_at hl 0 rfl) ?_
  refine gx_getI C g fl_X12_269 dX12_tellRule_265 sh_11 rfl ?_
  obtain ⟨i1, h⟩ := h
  refine gx_iast C g dX12_tellRule_268 sh_64 i1 (fun H locs σ2 eσ2 g => ?_)
  have h := h σ2 eσ2
  refine lv_aload_n C.1 C.2.1 dX12_tellRule_269 rfl (lv_at hl 0 rfl) ?_
  refine lv_iconst (v := 4) C.1 C.2.1 dX12_tellRule_270 (by decide) ?_
  refine gx_callv0 g (gx_runV (k := 11) (rest := []) C g mb_X12_must ml_X12_281 rfl sh_11 (mX12_must (4 : Int32) _ _ h) ⟨Nat.le_of_ble_eq_true rfl, Nat.le_of_ble_eq_true rfl⟩ ⟨Nat.le_refl _, Nat.le_refl _⟩ rfl hl.1 rfl (Nat.le_of_ble_eq_true rfl) dX12_tellRule_271) rfl rfl (fun σ4 H locs h g => ?_)
  refine lv_aload_n C.1 C.2.1 dX12_tellRule_274 rfl (lv_at hl 0 rfl) ?_
  refine gx_getI C g fl_X12_227 dX12_tellRule_275 sh_11 rfl ?_
  refine lv_if_ne (tgt := 291) C.1 C.2.1 dX12_tellRule_278 (by decide) (fun c5 => ?_) (fun c5 => ?_)
  · have h := h.2 c5
    exact gx_vret C hr g dX12_tellRule_291 h
  · have h := h.1 c5
    refine lv_aload_n C.1 C.2.1 dX12_tellRule_281 rfl (lv_at hl 0 rfl) ?_
    refine lv_dup C.1 C.2.1 dX12_tellRule_282 rfl ?_
    refine gx_getI C g fl_X12_266 dX12_tellRule_283 sh_11 rfl ?_
    refine lv_iconst (v := 1) C.1 C.2.1 dX12_tellRule_286 (by decide) ?_
    refine lv_iadd C.1 C.2.1 dX12_tellRule_287 ?_
    refine gx_putI C g fi_X12_266 dX12_tellRule_288 sh_11 rfl (fun H locs σ6 eσ6 g => ?_)
    have h := h σ6 eσ6
    exact gx_vret C hr g dX12_tellRule_291 h
set_option maxHeartbeats 4000000 in
set_option maxRecDepth 100000 in
theorem tX12_tellRule_232 {p : Program} {l : Launch} {e : Env} {s : State} {m : MethodId} {args : Array Value} {below : List Frame} {meth : Method} {c : Code} {E : EE} {base : Nat} (C : Cx p E base s m args meth c cX12_tellRule 5 RX12) (hr : meth.sig.returnType = none) {Q : St → Prop} : ∀ (x2 : Int32) (σ : St) (H : Heap) (locs : List Loc) (ls : Array Slot), lv_has ls 5 [(0, .ref (ga E 11)), (2, .int x2)] → GW E base s σ H locs → wX12_tellRule_232 Q x2 σ → W p l e rmX12_tellRule s m args below meth c H locs 0 0 (MQ below (QV E base Q) args s 0 0 (fun q => base ≤ q)) (F0 m 232 ls []) := by
  intro x2 σ H locs ls hl g h
  refine lv_aload_n C.1 C.2.1 dX12_tellRule_232 rfl (lv_at hl 0 rfl) ?_
  refine gx_getR C g fl_X12_65 dX12_tellRule_233 sh_11 rfl (by decide) ?_
  refine lv_iload_n C.1 C.2.1 dX12_tellRule_236 rfl (lv_at hl 1 rfl) ?_
  refine lv_aload_n C.1 C.2.1 dX12_tellRule_237 rfl (lv_at hl 0 rfl) ?_
  refine gx_getI C g fl_X12_269 dX12_tellRule_238 sh_11 rfl ?_
  obtain ⟨i1, h⟩ := h
  refine gx_iast C g dX12_tellRule_241 sh_63 i1 (fun H locs σ2 eσ2 g => ?_)
  have h := h σ2 eσ2
  refine lv_aload_n C.1 C.2.1 dX12_tellRule_242 rfl (lv_at hl 0 rfl) ?_
  refine lv_bipush (v := 28) C.1 C.2.1 dX12_tellRule_243 (by decide) ?_
  refine gx_calli0 g (gx_runV (k := 11) (rest := []) C g mb_X12_is ml_X12_245 rfl sh_11 (mX12_is (28 : Int32) _ _ h) ⟨Nat.le_of_ble_eq_true rfl, Nat.le_of_ble_eq_true rfl⟩ ⟨Nat.le_refl _, Nat.le_refl _⟩ rfl hl.1 rfl (Nat.le_of_ble_eq_true rfl) dX12_tellRule_245) rfl rfl (fun r3 σ4 H locs h g => ?_)
  refine lv_if_eq (tgt := 259) C.1 C.2.1 dX12_tellRule_248 (by decide) (fun c5 => ?_) (fun c5 => ?_)
  · have h := h.1 c5
    exact tX12_tellRule_259 C hr x2 _ _ _ _ (lv_sub hl [0, 1] rfl) g h
  · have h := h.2 c5
    refine lv_aload_n C.1 C.2.1 dX12_tellRule_251 rfl (lv_at hl 0 rfl) ?_
    refine gx_callv0 g (gx_runV (k := 11) (rest := []) C g mb_X12_next ml_X12_248 rfl sh_11 (mX12_next _ _ h) ⟨Nat.le_of_ble_eq_true rfl, Nat.le_of_ble_eq_true rfl⟩ ⟨Nat.le_refl _, Nat.le_refl _⟩ rfl hl.1 rfl (Nat.le_of_ble_eq_true rfl) dX12_tellRule_252) rfl rfl (fun σ7 H locs h g => ?_)
    refine lv_aload_n C.1 C.2.1 dX12_tellRule_255 rfl (lv_at hl 0 rfl) ?_
    refine gx_callv0 g (gx_runV (k := 11) (rest := []) C g mb_X12_condition ml_X12_294 rfl sh_11 (mX12_condition _ _ h) ⟨Nat.le_of_ble_eq_true rfl, Nat.le_of_ble_eq_true rfl⟩ ⟨Nat.le_refl _, Nat.le_refl _⟩ rfl hl.1 rfl (Nat.le_of_ble_eq_true rfl) dX12_tellRule_256) rfl rfl (fun σ9 H locs h g => ?_)
    exact tX12_tellRule_259 C hr x2 _ _ _ _ (lv_sub hl [0, 1] rfl) g h
set_option maxHeartbeats 4000000 in
set_option maxRecDepth 100000 in
theorem tX12_tellRule_168 {p : Program} {l : Launch} {e : Env} {s : State} {m : MethodId} {args : Array Value} {below : List Frame} {meth : Method} {c : Code} {E : EE} {base : Nat} (C : Cx p E base s m args meth c cX12_tellRule 5 RX12) (hr : meth.sig.returnType = none) {Q : St → Prop} : ∀ (x2 : Int32) (σ : St) (H : Heap) (locs : List Loc) (ls : Array Slot), lv_has ls 5 [(0, .ref (ga E 11)), (2, .int x2)] → GW E base s σ H locs → wX12_tellRule_168 Q x2 σ → W p l e rmX12_tellRule s m args below meth c H locs 0 0 (MQ below (QV E base Q) args s 0 0 (fun q => base ≤ q)) (F0 m 168 ls []) := by
  intro x2 σ H locs ls hl g h
  refine lv_aload_n C.1 C.2.1 dX12_tellRule_168 rfl (lv_at hl 0 rfl) ?_
  refine gx_callv0 g (gx_runV (k := 11) (rest := []) C g mb_X12_next ml_X12_248 rfl sh_11 (mX12_next _ _ h) ⟨Nat.le_of_ble_eq_true rfl, Nat.le_of_ble_eq_true rfl⟩ ⟨Nat.le_refl _, Nat.le_refl _⟩ rfl hl.1 rfl (Nat.le_of_ble_eq_true rfl) dX12_tellRule_169) rfl rfl (fun σ2 H locs h g => ?_)
  refine lv_aload_n C.1 C.2.1 dX12_tellRule_172 rfl (lv_at hl 0 rfl) ?_
  refine gx_getR C g fl_X12_55 dX12_tellRule_173 sh_11 rfl (by decide) ?_
  refine lv_iload_n C.1 C.2.1 dX12_tellRule_176 rfl (lv_at hl 1 rfl) ?_
  obtain ⟨i3, h⟩ := h
  refine gx_zald C g dX12_tellRule_177 sh_60 i3 ?_
  refine lv_if_eq (tgt := 208) C.1 C.2.1 dX12_tellRule_178 (by decide) (fun c4 => ?_) (fun c4 => ?_)
  · have h := h.1 c4
    refine lv_aload_n C.1 C.2.1 dX12_tellRule_208 rfl (lv_at hl 0 rfl) ?_
    refine gx_getR C g fl_X12_59 dX12_tellRule_209 sh_11 rfl (by decide) ?_
    refine lv_iload_n C.1 C.2.1 dX12_tellRule_212 rfl (lv_at hl 1 rfl) ?_
    refine lv_aload_n C.1 C.2.1 dX12_tellRule_213 rfl (lv_at hl 0 rfl) ?_
    refine gx_getI C g fl_X12_269 dX12_tellRule_214 sh_11 rfl ?_
    obtain ⟨i5, h⟩ := h
    refine gx_iast C g dX12_tellRule_217 sh_61 i5 (fun H locs σ6 eσ6 g => ?_)
    have h := h σ6 eσ6
    refine lv_aload_n C.1 C.2.1 dX12_tellRule_218 rfl (lv_at hl 0 rfl) ?_
    refine gx_callv0 g (gx_runV (k := 11) (rest := []) C g mb_X12_condition ml_X12_294 rfl sh_11 (mX12_condition _ _ h) ⟨Nat.le_of_ble_eq_true rfl, Nat.le_of_ble_eq_true rfl⟩ ⟨Nat.le_refl _, Nat.le_refl _⟩ rfl hl.1 rfl (Nat.le_of_ble_eq_true rfl) dX12_tellRule_219) rfl rfl (fun σ8 H locs h g => ?_)
    refine lv_aload_n C.1 C.2.1 dX12_tellRule_222 rfl (lv_at hl 0 rfl) ?_
    refine gx_getR C g fl_X12_62 dX12_tellRule_223 sh_11 rfl (by decide) ?_
    refine lv_iload_n C.1 C.2.1 dX12_tellRule_226 rfl (lv_at hl 1 rfl) ?_
    refine lv_aload_n C.1 C.2.1 dX12_tellRule_227 rfl (lv_at hl 0 rfl) ?_
    refine gx_getI C g fl_X12_269 dX12_tellRule_228 sh_11 rfl ?_
    obtain ⟨i9, h⟩ := h
    refine gx_iast C g dX12_tellRule_231 sh_62 i9 (fun H locs σ10 eσ10 g => ?_)
    have h := h σ10 eσ10
    exact tX12_tellRule_232 C hr x2 _ _ _ _ (lv_sub hl [0, 1] rfl) g h
  · have h := h.2 c4
    refine lv_aload_n C.1 C.2.1 dX12_tellRule_181 rfl (lv_at hl 0 rfl) ?_
    refine gx_getR C g fl_X12_59 dX12_tellRule_182 sh_11 rfl (by decide) ?_
    refine lv_iload_n C.1 C.2.1 dX12_tellRule_185 rfl (lv_at hl 1 rfl) ?_
    refine lv_aload_n C.1 C.2.1 dX12_tellRule_186 rfl (lv_at hl 0 rfl) ?_
    refine gx_getI C g fl_X12_272 dX12_tellRule_187 sh_11 rfl ?_
    obtain ⟨i11, h⟩ := h
    refine gx_iast C g dX12_tellRule_190 sh_61 i11 (fun H locs σ12 eσ12 g => ?_)
    have h := h σ12 eσ12
    refine lv_aload_n C.1 C.2.1 dX12_tellRule_191 rfl (lv_at hl 0 rfl) ?_
    refine gx_callv0 g (gx_runV (k := 11) (rest := []) C g mb_X12_expression ml_X12_291 rfl sh_11 (mX12_expression _ _ h) ⟨Nat.le_of_ble_eq_true rfl, Nat.le_of_ble_eq_true rfl⟩ ⟨Nat.le_refl _, Nat.le_refl _⟩ rfl hl.1 rfl (Nat.le_of_ble_eq_true rfl) dX12_tellRule_192) rfl rfl (fun σ14 H locs h g => ?_)
    refine lv_aload_n C.1 C.2.1 dX12_tellRule_195 rfl (lv_at hl 0 rfl) ?_
    refine gx_getR C g fl_X12_62 dX12_tellRule_196 sh_11 rfl (by decide) ?_
    refine lv_iload_n C.1 C.2.1 dX12_tellRule_199 rfl (lv_at hl 1 rfl) ?_
    refine lv_aload_n C.1 C.2.1 dX12_tellRule_200 rfl (lv_at hl 0 rfl) ?_
    refine gx_getI C g fl_X12_272 dX12_tellRule_201 sh_11 rfl ?_
    obtain ⟨i15, h⟩ := h
    refine gx_iast C g dX12_tellRule_204 sh_62 i15 (fun H locs σ16 eσ16 g => ?_)
    have h := h σ16 eσ16
    refine lv_goto (tgt := 232) C.1 C.2.1 dX12_tellRule_205 (by decide) ?_
    exact tX12_tellRule_232 C hr x2 _ _ _ _ (lv_sub hl [0, 1] rfl) g h
set_option maxHeartbeats 4000000 in
set_option maxRecDepth 100000 in
theorem tX12_tellRule_133 {p : Program} {l : Launch} {e : Env} {s : State} {m : MethodId} {args : Array Value} {below : List Frame} {meth : Method} {c : Code} {E : EE} {base : Nat} (C : Cx p E base s m args meth c cX12_tellRule 5 RX12) (hr : meth.sig.returnType = none) {Q : St → Prop} : ∀ (x2 : Int32) (σ : St) (H : Heap) (locs : List Loc) (ls : Array Slot), lv_has ls 5 [(0, .ref (ga E 11)), (2, .int x2)] → GW E base s σ H locs → wX12_tellRule_133 Q x2 σ → W p l e rmX12_tellRule s m args below meth c H locs 0 0 (MQ below (QV E base Q) args s 0 0 (fun q => base ≤ q)) (F0 m 133 ls []) := by
  intro x2 σ H locs ls hl g h
  refine lv_aload_n C.1 C.2.1 dX12_tellRule_133 rfl (lv_at hl 0 rfl) ?_
  refine gx_getR C g fl_X12_55 dX12_tellRule_134 sh_11 rfl (by decide) ?_
  refine lv_iload_n C.1 C.2.1 dX12_tellRule_137 rfl (lv_at hl 1 rfl) ?_
  refine lv_aload_n C.1 C.2.1 dX12_tellRule_138 rfl (lv_at hl 0 rfl) ?_
  refine lv_bipush (v := 27) C.1 C.2.1 dX12_tellRule_139 (by decide) ?_
  refine gx_calli0 g (gx_runV (k := 11) (rest := [.int x2, .ref (ga E 60)]) C g mb_X12_is ml_X12_245 rfl sh_11 (mX12_is (27 : Int32) _ _ h) ⟨Nat.le_of_ble_eq_true rfl, Nat.le_of_ble_eq_true rfl⟩ ⟨Nat.le_refl _, Nat.le_refl _⟩ rfl hl.1 rfl (Nat.le_of_ble_eq_true rfl) dX12_tellRule_141) rfl rfl (fun r1 σ2 H locs h g => ?_)
  obtain ⟨i3, h⟩ := h
  refine gx_zast C g dX12_tellRule_144 sh_60 i3 (fun H locs σ4 eσ4 g => ?_)
  have h := h σ4 eσ4
  refine lv_aload_n C.1 C.2.1 dX12_tellRule_145 rfl (lv_at hl 0 rfl) ?_
  refine lv_bipush (v := 27) C.1 C.2.1 dX12_tellRule_146 (by decide) ?_
  refine gx_calli0 g (gx_runV (k := 11) (rest := []) C g mb_X12_is ml_X12_245 rfl sh_11 (mX12_is (27 : Int32) _ _ h) ⟨Nat.le_of_ble_eq_true rfl, Nat.le_of_ble_eq_true rfl⟩ ⟨Nat.le_refl _, Nat.le_refl _⟩ rfl hl.1 rfl (Nat.le_of_ble_eq_true rfl) dX12_tellRule_148) rfl rfl (fun r5 σ6 H locs h g => ?_)
  refine lv_if_ne (tgt := 168) C.1 C.2.1 dX12_tellRule_151 (by decide) (fun c7 => ?_) (fun c7 => ?_)
  · have h := h.2 c7
    exact tX12_tellRule_168 C hr x2 _ _ _ _ (lv_sub hl [0, 1] rfl) g h
  · have h := h.1 c7
    refine lv_aload_n C.1 C.2.1 dX12_tellRule_154 rfl (lv_at hl 0 rfl) ?_
    refine lv_bipush (v := 26) C.1 C.2.1 dX12_tellRule_155 (by decide) ?_
    refine gx_calli0 g (gx_runV (k := 11) (rest := []) C g mb_X12_is ml_X12_245 rfl sh_11 (mX12_is (26 : Int32) _ _ h) ⟨Nat.le_of_ble_eq_true rfl, Nat.le_of_ble_eq_true rfl⟩ ⟨Nat.le_refl _, Nat.le_refl _⟩ rfl hl.1 rfl (Nat.le_of_ble_eq_true rfl) dX12_tellRule_157) rfl rfl (fun r8 σ9 H locs h g => ?_)
    refine lv_if_ne (tgt := 168) C.1 C.2.1 dX12_tellRule_160 (by decide) (fun c10 => ?_) (fun c10 => ?_)
    · have h := h.2 c10
      exact tX12_tellRule_168 C hr x2 _ _ _ _ (lv_sub hl [0, 1] rfl) g h
    · have h := h.1 c10
      refine lv_aload_n C.1 C.2.1 dX12_tellRule_163 rfl (lv_at hl 0 rfl) ?_
      refine lv_iconst (v := 1) C.1 C.2.1 dX12_tellRule_164 (by decide) ?_
      refine gx_callv0 g (gx_runV (k := 11) (rest := []) C g mb_X12_fail ml_X12_242 rfl sh_11 (mX12_fail (1 : Int32) _ _ h) ⟨Nat.le_of_ble_eq_true rfl, Nat.le_of_ble_eq_true rfl⟩ ⟨Nat.le_refl _, Nat.le_refl _⟩ rfl hl.1 rfl (Nat.le_of_ble_eq_true rfl) dX12_tellRule_165) rfl rfl (fun σ12 H locs h g => ?_)
      exact tX12_tellRule_168 C hr x2 _ _ _ _ (lv_sub hl [0, 1] rfl) g h
set_option maxHeartbeats 4000000 in
set_option maxRecDepth 100000 in
theorem tX12_tellRule_40 {p : Program} {l : Launch} {e : Env} {s : State} {m : MethodId} {args : Array Value} {below : List Frame} {meth : Method} {c : Code} {E : EE} {base : Nat} (C : Cx p E base s m args meth c cX12_tellRule 5 RX12) (hr : meth.sig.returnType = none) {Q : St → Prop} : ∀ (x1 : Int32) (σ : St) (H : Heap) (locs : List Loc) (ls : Array Slot), lv_has ls 5 [(0, .ref (ga E 11)), (1, .int x1)] → GW E base s σ H locs → wX12_tellRule_40 Q x1 σ → W p l e rmX12_tellRule s m args below meth c H locs 0 0 (MQ below (QV E base Q) args s 0 0 (fun q => base ≤ q)) (F0 m 40 ls []) := by
  intro x1 σ H locs ls hl g h
  refine lv_aload_n C.1 C.2.1 dX12_tellRule_40 rfl (lv_at hl 0 rfl) ?_
  refine gx_getI C g fl_X12_227 dX12_tellRule_41 sh_11 rfl ?_
  refine lv_if_le (tgt := 48) C.1 C.2.1 dX12_tellRule_44 (by decide) (fun c1 => ?_) (fun c1 => ?_)
  · have h := h.1 c1
    refine lv_aload_n C.1 C.2.1 dX12_tellRule_48 rfl (lv_at hl 0 rfl) ?_
    refine gx_getI C g fl_X12_266 dX12_tellRule_49 sh_11 rfl ?_
    refine lv_topi (fun x2_2 ex2_2 => ?_)
    have h := h x2_2 ex2_2
    refine lv_istore_n (lv' := [(2, .int x2_2), (0, .ref (ga E 11)), (1, .int x1)]) C.1 C.2.1 dX12_tellRule_52 rfl hl (by decide) rfl (fun ls hl => ?_)
    refine lv_aload_n C.1 C.2.1 dX12_tellRule_53 rfl (lv_at hl 1 rfl) ?_
    refine lv_bipush (v := 25) C.1 C.2.1 dX12_tellRule_54 (by decide) ?_
    refine gx_calli0 g (gx_runV (k := 11) (rest := []) C g mb_X12_is ml_X12_245 rfl sh_11 (mX12_is (25 : Int32) _ _ h) ⟨Nat.le_of_ble_eq_true rfl, Nat.le_of_ble_eq_true rfl⟩ ⟨Nat.le_refl _, Nat.le_refl _⟩ rfl hl.1 rfl (Nat.le_of_ble_eq_true rfl) dX12_tellRule_56) rfl rfl (fun r3 σ4 H locs h g => ?_)
    refine lv_istore_n (lv' := [(3, .int r3), (2, .int x2_2), (0, .ref (ga E 11)), (1, .int x1)]) C.1 C.2.1 dX12_tellRule_59 rfl hl (by decide) rfl (fun ls hl => ?_)
    refine lv_aload_n C.1 C.2.1 dX12_tellRule_60 rfl (lv_at hl 2 rfl) ?_
    refine gx_callv0 g (gx_runV (k := 11) (rest := []) C g mb_X12_next ml_X12_248 rfl sh_11 (mX12_next _ _ h) ⟨Nat.le_of_ble_eq_true rfl, Nat.le_of_ble_eq_true rfl⟩ ⟨Nat.le_refl _, Nat.le_refl _⟩ rfl hl.1 rfl (Nat.le_of_ble_eq_true rfl) dX12_tellRule_61) rfl rfl (fun σ6 H locs h g => ?_)
    refine lv_aload_n C.1 C.2.1 dX12_tellRule_64 rfl (lv_at hl 2 rfl) ?_
    refine gx_getR C g fl_X12_49 dX12_tellRule_65 sh_11 rfl (by decide) ?_
    refine lv_iload_n C.1 C.2.1 dX12_tellRule_68 rfl (lv_at hl 1 rfl) ?_
    refine lv_iload_n C.1 C.2.1 dX12_tellRule_69 rfl (lv_at hl 3 rfl) ?_
    obtain ⟨i7, h⟩ := h
    refine gx_iast C g dX12_tellRule_70 sh_58 i7 (fun H locs σ8 eσ8 g => ?_)
    have h := h σ8 eσ8
    refine lv_aload_n C.1 C.2.1 dX12_tellRule_71 rfl (lv_at hl 2 rfl) ?_
    refine gx_getR C g fl_X12_52 dX12_tellRule_72 sh_11 rfl (by decide) ?_
    refine lv_iload_n C.1 C.2.1 dX12_tellRule_75 rfl (lv_at hl 1 rfl) ?_
    refine lv_iconst (v := -1) C.1 C.2.1 dX12_tellRule_76 (by decide) ?_
    obtain ⟨i9, h⟩ := h
    refine gx_iast C g dX12_tellRule_77 sh_59 i9 (fun H locs σ10 eσ10 g => ?_)
    have h := h σ10 eσ10
    refine lv_iload_n C.1 C.2.1 dX12_tellRule_78 rfl (lv_at hl 0 rfl) ?_
    refine lv_if_ne (tgt := 133) C.1 C.2.1 dX12_tellRule_79 (by decide) (fun c11 => ?_) (fun c11 => ?_)
    · have h := h.2 c11
      exact tX12_tellRule_133 C hr x2_2 _ _ _ _ (lv_sub hl [2, 1] rfl) g h
    · have h := h.1 c11
      refine lv_aload_n C.1 C.2.1 dX12_tellRule_82 rfl (lv_at hl 2 rfl) ?_
      refine gx_getI C g fl_X12_230 dX12_tellRule_83 sh_11 rfl ?_
      refine lv_topi (fun x4_12 ex4_12 => ?_)
      have h := h x4_12 ex4_12
      refine lv_istore (lv' := [(4, .int x4_12), (3, .int r3), (2, .int x2_2), (0, .ref (ga E 11)), (1, .int x1)]) C.1 C.2.1 dX12_tellRule_86 hl (by decide) rfl (fun ls hl => ?_)
      refine lv_aload_n C.1 C.2.1 dX12_tellRule_88 rfl (lv_at hl 3 rfl) ?_
      refine lv_iconst (v := 2) C.1 C.2.1 dX12_tellRule_89 (by decide) ?_
      refine gx_callv0 g (gx_runV (k := 11) (rest := []) C g mb_X12_must ml_X12_281 rfl sh_11 (mX12_must (2 : Int32) _ _ h) ⟨Nat.le_of_ble_eq_true rfl, Nat.le_of_ble_eq_true rfl⟩ ⟨Nat.le_refl _, Nat.le_refl _⟩ rfl hl.1 rfl (Nat.le_of_ble_eq_true rfl) dX12_tellRule_90) rfl rfl (fun σ14 H locs h g => ?_)
      refine lv_aload_n C.1 C.2.1 dX12_tellRule_93 rfl (lv_at hl 3 rfl) ?_
      refine gx_getI C g fl_X12_227 dX12_tellRule_94 sh_11 rfl ?_
      refine lv_if_le (tgt := 101) C.1 C.2.1 dX12_tellRule_97 (by decide) (fun c15 => ?_) (fun c15 => ?_)
      · have h := h.1 c15
        refine lv_aload_n C.1 C.2.1 dX12_tellRule_101 rfl (lv_at hl 3 rfl) ?_
        refine gx_getR C g fl_X12_52 dX12_tellRule_102 sh_11 rfl (by decide) ?_
        refine lv_iload_n C.1 C.2.1 dX12_tellRule_105 rfl (lv_at hl 2 rfl) ?_
        refine lv_aload_n C.1 C.2.1 dX12_tellRule_106 rfl (lv_at hl 3 rfl) ?_
        refine gx_getR C g fl_X12_27 dX12_tellRule_107 sh_11 rfl (by decide) ?_
        refine lv_iload C.1 C.2.1 dX12_tellRule_110 (lv_at hl 0 rfl) ?_
        obtain ⟨i16, h⟩ := h
        refine gx_iald C g dX12_tellRule_112 sh_52 i16 ?_
        obtain ⟨i17, h⟩ := h
        refine gx_iast C g dX12_tellRule_113 sh_59 i17 (fun H locs σ18 eσ18 g => ?_)
        have h := h σ18 eσ18
        refine lv_aload_n C.1 C.2.1 dX12_tellRule_114 rfl (lv_at hl 3 rfl) ?_
        refine gx_getR C g fl_X12_27 dX12_tellRule_115 sh_11 rfl (by decide) ?_
        refine lv_iload C.1 C.2.1 dX12_tellRule_118 (lv_at hl 0 rfl) ?_
        obtain ⟨i19, h⟩ := h
        refine gx_iald C g dX12_tellRule_120 sh_52 i19 ?_
        refine lv_bipush (v := 6) C.1 C.2.1 dX12_tellRule_121 (by decide) ?_
        refine lv_icmp_le (tgt := 133) C.1 C.2.1 dX12_tellRule_123 (by decide) (fun c20 => ?_) (fun c20 => ?_)
        · have h := h.1 c20
          exact tX12_tellRule_133 C hr x2_2 _ _ _ _ (lv_sub hl [3, 2] rfl) g h
        · have h := h.2 c20
          refine lv_aload_n C.1 C.2.1 dX12_tellRule_126 rfl (lv_at hl 3 rfl) ?_
          refine lv_iconst (v := 5) C.1 C.2.1 dX12_tellRule_127 (by decide) ?_
          refine lv_iload C.1 C.2.1 dX12_tellRule_128 (lv_at hl 0 rfl) ?_
          refine gx_callv0 g (gx_runV (k := 11) (rest := []) C g mb_X12_wrong ml_X12_284 rfl sh_11 (mX12_wrong (5 : Int32) x4_12 _ _ h) ⟨Nat.le_of_ble_eq_true rfl, Nat.le_of_ble_eq_true rfl⟩ ⟨Nat.le_refl _, Nat.le_refl _⟩ rfl hl.1 rfl (Nat.le_of_ble_eq_true rfl) dX12_tellRule_130) rfl rfl (fun σ22 H locs h g => ?_)
          exact tX12_tellRule_133 C hr x2_2 _ _ _ _ (lv_sub hl [3, 2] rfl) g h
      · have h := h.2 c15
        exact gx_vret C hr g dX12_tellRule_100 h
  · have h := h.2 c1
    exact gx_vret C hr g dX12_tellRule_47 h
set_option maxHeartbeats 4000000 in
set_option maxRecDepth 100000 in
theorem tX12_tellRule_26 {p : Program} {l : Launch} {e : Env} {s : State} {m : MethodId} {args : Array Value} {below : List Frame} {meth : Method} {c : Code} {E : EE} {base : Nat} (C : Cx p E base s m args meth c cX12_tellRule 5 RX12) (hr : meth.sig.returnType = none) {Q : St → Prop} : ∀ (x1 : Int32) (σ : St) (H : Heap) (locs : List Loc) (ls : Array Slot), lv_has ls 5 [(0, .ref (ga E 11)), (1, .int x1)] → GW E base s σ H locs → wX12_tellRule_26 Q x1 σ → W p l e rmX12_tellRule s m args below meth c H locs 0 0 (MQ below (QV E base Q) args s 0 0 (fun q => base ≤ q)) (F0 m 26 ls []) := by
  intro x1 σ H locs ls hl g h
  refine lv_aload_n C.1 C.2.1 dX12_tellRule_26 rfl (lv_at hl 0 rfl) ?_
  refine gx_getI C g fl_X12_266 dX12_tellRule_27 sh_11 rfl ?_
  refine lv_bipush (v := 30) C.1 C.2.1 dX12_tellRule_30 (by decide) ?_
  refine lv_icmp_ne (tgt := 40) C.1 C.2.1 dX12_tellRule_32 (by decide) (fun c1 => ?_) (fun c1 => ?_)
  · have h := h.2 c1
    exact tX12_tellRule_40 C hr x1 _ _ _ _ (lv_sub hl [0, 1] rfl) g h
  · have h := h.1 c1
    refine lv_aload_n C.1 C.2.1 dX12_tellRule_35 rfl (lv_at hl 0 rfl) ?_
    refine lv_iconst (v := 2) C.1 C.2.1 dX12_tellRule_36 (by decide) ?_
    refine gx_callv0 g (gx_runV (k := 11) (rest := []) C g mb_X12_fail ml_X12_242 rfl sh_11 (mX12_fail (2 : Int32) _ _ h) ⟨Nat.le_of_ble_eq_true rfl, Nat.le_of_ble_eq_true rfl⟩ ⟨Nat.le_refl _, Nat.le_refl _⟩ rfl hl.1 rfl (Nat.le_of_ble_eq_true rfl) dX12_tellRule_37) rfl rfl (fun σ3 H locs h g => ?_)
    exact tX12_tellRule_40 C hr x1 _ _ _ _ (lv_sub hl [0, 1] rfl) g h
set_option maxHeartbeats 4000000 in
set_option maxRecDepth 100000 in
theorem tX12_tellRule_e {p : Program} {l : Launch} {e : Env} {s : State} {m : MethodId} {args : Array Value} {below : List Frame} {meth : Method} {c : Code} {E : EE} {base : Nat} (C : Cx p E base s m args meth c cX12_tellRule 5 RX12) (hr : meth.sig.returnType = none) {Q : St → Prop} : ∀ (x1 : Int32) (σ : St) (H : Heap) (locs : List Loc) (ls : Array Slot), lv_has ls 5 [(0, .ref (ga E 11)), (1, .int x1)] → GW E base s σ H locs → wX12_tellRule x1 σ Q → W p l e rmX12_tellRule s m args below meth c H locs 0 0 (MQ below (QV E base Q) args s 0 0 (fun q => base ≤ q)) (F0 m 0 ls []) := by
  intro x1 σ H locs ls hl g h
  refine lv_aload_n C.1 C.2.1 dX12_tellRule_0 rfl (lv_at hl 0 rfl) ?_
  refine lv_bipush (v := 24) C.1 C.2.1 dX12_tellRule_1 (by decide) ?_
  refine gx_calli0 g (gx_runV (k := 11) (rest := []) C g mb_X12_is ml_X12_245 rfl sh_11 (mX12_is (24 : Int32) _ _ h) ⟨Nat.le_of_ble_eq_true rfl, Nat.le_of_ble_eq_true rfl⟩ ⟨Nat.le_refl _, Nat.le_refl _⟩ rfl hl.1 rfl (Nat.le_of_ble_eq_true rfl) dX12_tellRule_3) rfl rfl (fun r1 σ2 H locs h g => ?_)
  refine lv_if_ne (tgt := 26) C.1 C.2.1 dX12_tellRule_6 (by decide) (fun c3 => ?_) (fun c3 => ?_)
  · have h := h.2 c3
    exact tX12_tellRule_26 C hr x1 _ _ _ _ (lv_sub hl [0, 1] rfl) g h
  · have h := h.1 c3
    refine lv_aload_n C.1 C.2.1 dX12_tellRule_9 rfl (lv_at hl 0 rfl) ?_
    refine lv_bipush (v := 25) C.1 C.2.1 dX12_tellRule_10 (by decide) ?_
    refine gx_calli0 g (gx_runV (k := 11) (rest := []) C g mb_X12_is ml_X12_245 rfl sh_11 (mX12_is (25 : Int32) _ _ h) ⟨Nat.le_of_ble_eq_true rfl, Nat.le_of_ble_eq_true rfl⟩ ⟨Nat.le_refl _, Nat.le_refl _⟩ rfl hl.1 rfl (Nat.le_of_ble_eq_true rfl) dX12_tellRule_12) rfl rfl (fun r4 σ5 H locs h g => ?_)
    refine lv_if_ne (tgt := 26) C.1 C.2.1 dX12_tellRule_15 (by decide) (fun c6 => ?_) (fun c6 => ?_)
    · have h := h.2 c6
      exact tX12_tellRule_26 C hr x1 _ _ _ _ (lv_sub hl [0, 1] rfl) g h
    · have h := h.1 c6
      refine lv_aload_n C.1 C.2.1 dX12_tellRule_18 rfl (lv_at hl 0 rfl) ?_
      refine lv_iconst (v := 1) C.1 C.2.1 dX12_tellRule_19 (by decide) ?_
      refine gx_callv0 g (gx_runV (k := 11) (rest := []) C g mb_X12_fail ml_X12_242 rfl sh_11 (mX12_fail (1 : Int32) _ _ h) ⟨Nat.le_of_ble_eq_true rfl, Nat.le_of_ble_eq_true rfl⟩ ⟨Nat.le_refl _, Nat.le_refl _⟩ rfl hl.1 rfl (Nat.le_of_ble_eq_true rfl) dX12_tellRule_20) rfl rfl (fun σ8 H locs h g => ?_)
      refine lv_goto (tgt := 40) C.1 C.2.1 dX12_tellRule_23 (by decide) ?_
      exact tX12_tellRule_40 C hr x1 _ _ _ _ (lv_sub hl [0, 1] rfl) g h
theorem mX12_tellRule {l : Launch} {E : EE} {base : Nat} (x1 : Int32) (σ : St) (Q : St → Prop) (h : wX12_tellRule x1 σ Q) : Met l yX12_tellRule (wy yX12_tellRule cX12_tellRule 5 none) rmX12_tellRule (va_Pc [.ref (ga E 11), .int x1] (fun U => SW E base σ U)) (QV E base Q) (rmX12_tellRule).cells (rmX12_tellRule).slots (fun q => base ≤ q) :=
  met_of (by decide) (Nat.le_of_ble_eq_true rfl) (fun p e s m args below meth c C hr g ls hl => tX12_tellRule_e C hr x1 _ _ _ _ hl g h)
abbrev rmX12_tellAct : Room := { frames := 5, cells := 0, slots := 0, locals := 118 }
def wX12_tellAct_254 (Q : St → Prop) (σ : St) : Prop := wX12_must (23 : Int32) σ (fun (σ2 : St) => Q σ2)
def wX12_tellAct_230 (Q : St → Prop) : Nat → Int32 → St → Prop
  | 0, _, _ => False
  | n + 1, x3, σ => (((gv σ 11 13) = 0 → wX12_is (23 : Int32) σ (fun (r2 : Int32) (σ3 : St) => ((r2 = 0 → wX12_tellRule x3 σ3 (fun (σ6 : St) => wX12_tellAct_230 Q n x3 σ6)) ∧ (¬ (r2 = 0) → wX12_tellAct_254 Q σ3)))) ∧ (¬ ((gv σ 11 13) = 0) → wX12_tellAct_254 Q σ))
def wX12_tellAct_207 (Q : St → Prop) (x3 : Int32) (σ : St) : Prop := wX12_must (4 : Int32) σ (fun (σ2 : St) => (((gv σ2 11 13) ≤ 0 → ∀ σ4 : St, σ4 = pv σ2 11 19 ((gv σ2 11 19) + (1 : Int32)) → ∃ j : Nat, wX12_tellAct_230 Q j x3 σ4) ∧ (¬ ((gv σ2 11 13) ≤ 0) → Q σ2)))
def wX12_tellAct_103 (Q : St → Prop) (K71 : Int32 → Int32 → Int32 → Int32 → St → Prop) (x1 : Int32) (x2 : Int32) (x3 : Int32) (x4 : Int32) (σ : St) : Prop := ∀ x4_1 : Int32, x4_1 = x4 + 1 → K71 x1 x2 x3 x4_1 σ
def wX12_tellAct_71 (Q : St → Prop) : Nat → Int32 → Int32 → Int32 → Int32 → St → Prop
  | 0, _, _, _, _, _ => False
  | n + 1, x1, x2, x3, x4, σ => (((gv σ 11 19) ≤ x4 → vp_in x1 603 ∧ vp_in x3 11 ∧ ∀ σ4 : St, σ4 = pw σ 55 x3.toNatClampNeg (gw σ 53 x1.toNatClampNeg) → vp_in x2 603 ∧ vp_in x3 11 ∧ ∀ σ7 : St, σ7 = pv σ4 56 x3.toNatClampNeg (gv σ4 52 x2.toNatClampNeg) → vp_in x3 11 ∧ ∀ σ9 : St, σ9 = pv σ7 57 x3.toNatClampNeg (-1 : Int32) → wX12_is (22 : Int32) σ9 (fun (r10 : Int32) (σ11 : St) => ((r10 = 0 → wX12_tellAct_207 Q x3 σ11) ∧ (¬ (r10 = 0) → wX12_next σ11 (fun (σ14 : St) => ∀ x4_15 : Int32, x4_15 = gv σ14 11 11 → wX12_must (2 : Int32) σ14 (fun (σ17 : St) => (((gv σ17 11 13) ≤ 0 → vp_in x4_15 603 ∧ vp_in x3 11 ∧ ∀ σ21 : St, σ21 = pv σ17 57 x3.toNatClampNeg (gv σ17 52 x4_15.toNatClampNeg) → vp_in x3 11 ∧ vp_in x3 11 ∧ (((gv σ21 56 x3.toNatClampNeg) < (gv σ21 57 x3.toNatClampNeg) → wX12_tellAct_207 Q x3 σ21) ∧ (¬ ((gv σ21 56 x3.toNatClampNeg) < (gv σ21 57 x3.toNatClampNeg)) → wX12_wrong (5 : Int32) x4_15 σ21 (fun (σ26 : St) => wX12_tellAct_207 Q x3 σ26)))) ∧ (¬ ((gv σ17 11 13) ≤ 0) → Q σ17)))))))) ∧ (¬ ((gv σ 11 19) ≤ x4) → vp_in x4 11 ∧ vp_in x1 603 ∧ (((lg_cmp (gw σ 55 x4.toNatClampNeg) (gw σ 53 x1.toNatClampNeg)) = 0 → wX12_wrong (3 : Int32) x1 σ (fun (σ31 : St) => wX12_tellAct_103 Q (fun x1' x2' x3' x4' σ' => wX12_tellAct_71 Q n x1' x2' x3' x4' σ') x1 x2 x3 x4 σ31)) ∧ (¬ ((lg_cmp (gw σ 55 x4.toNatClampNeg) (gw σ 53 x1.toNatClampNeg)) = 0) → wX12_tellAct_103 Q (fun x1' x2' x3' x4' σ' => wX12_tellAct_71 Q n x1' x2' x3' x4' σ') x1 x2 x3 x4 σ))))
def wX12_tellAct_23 (Q : St → Prop) (σ : St) : Prop := wX12_must (20 : Int32) σ (fun (σ2 : St) => ∀ x1_3 : Int32, x1_3 = gv σ2 11 11 → wX12_must (1 : Int32) σ2 (fun (σ5 : St) => wX12_must (21 : Int32) σ5 (fun (σ7 : St) => ∀ x2_8 : Int32, x2_8 = gv σ7 11 11 → wX12_must (2 : Int32) σ7 (fun (σ10 : St) => (((gv σ10 11 13) ≤ 0 → ∀ x3_12 : Int32, x3_12 = gv σ10 11 19 → ∃ j : Nat, wX12_tellAct_71 Q j x1_3 x2_8 x3_12 (0 : Int32) σ10) ∧ (¬ ((gv σ10 11 13) ≤ 0) → Q σ10))))))
def wX12_tellAct (σ : St) (Q : St → Prop) : Prop := wX12_is (20 : Int32) σ (fun (r1 : Int32) (σ2 : St) => ((r1 = 0 → wX12_tellAct_23 Q σ2) ∧ (¬ (r1 = 0) → (((gv σ2 11 19) = (10 : Int32) → wX12_fail (2 : Int32) σ2 (fun (σ6 : St) => wX12_tellAct_23 Q σ6)) ∧ (¬ ((gv σ2 11 19) = (10 : Int32)) → wX12_tellAct_23 Q σ2)))))
set_option maxHeartbeats 4000000 in
set_option maxRecDepth 100000 in
theorem tX12_tellAct_254 {p : Program} {l : Launch} {e : Env} {s : State} {m : MethodId} {args : Array Value} {below : List Frame} {meth : Method} {c : Code} {E : EE} {base : Nat} (C : Cx p E base s m args meth c cX12_tellAct 5 RX12) (hr : meth.sig.returnType = none) {Q : St → Prop} : ∀ (σ : St) (H : Heap) (locs : List Loc) (ls : Array Slot), lv_has ls 5 [(0, .ref (ga E 11))] → GW E base s σ H locs → wX12_tellAct_254 Q σ → W p l e rmX12_tellAct s m args below meth c H locs 0 0 (MQ below (QV E base Q) args s 0 0 (fun q => base ≤ q)) (F0 m 254 ls []) := by
  intro σ H locs ls hl g h
  refine lv_aload_n C.1 C.2.1 dX12_tellAct_254 rfl (lv_at hl 0 rfl) ?_
  refine lv_bipush (v := 23) C.1 C.2.1 dX12_tellAct_255 (by decide) ?_
  refine gx_callv0 g (gx_runV (k := 11) (rest := []) C g mb_X12_must ml_X12_281 rfl sh_11 (mX12_must (23 : Int32) _ _ h) ⟨Nat.le_of_ble_eq_true rfl, Nat.le_of_ble_eq_true rfl⟩ ⟨Nat.le_refl _, Nat.le_refl _⟩ rfl hl.1 rfl (Nat.le_of_ble_eq_true rfl) dX12_tellAct_257) rfl rfl (fun σ2 H locs h g => ?_)
  exact gx_vret C hr g dX12_tellAct_260 h
set_option maxHeartbeats 4000000 in
set_option maxRecDepth 100000 in
theorem tX12_tellAct_230 {p : Program} {l : Launch} {e : Env} {s : State} {m : MethodId} {args : Array Value} {below : List Frame} {meth : Method} {c : Code} {E : EE} {base : Nat} (C : Cx p E base s m args meth c cX12_tellAct 5 RX12) (hr : meth.sig.returnType = none) {Q : St → Prop} : ∀ (n : Nat) (x3 : Int32) (σ : St) (H : Heap) (locs : List Loc) (ls : Array Slot), lv_has ls 5 [(0, .ref (ga E 11)), (3, .int x3)] → GW E base s σ H locs → wX12_tellAct_230 Q n x3 σ → W p l e rmX12_tellAct s m args below meth c H locs 0 0 (MQ below (QV E base Q) args s 0 0 (fun q => base ≤ q)) (F0 m 230 ls []) := by
  intro n
  induction n with
  | zero => intro _; intros; exact False.elim (by assumption)
  | succ n ih =>
    intro x3 σ H locs ls hl g h
    refine lv_aload_n C.1 C.2.1 dX12_tellAct_230 rfl (lv_at hl 0 rfl) ?_
    refine gx_getI C g fl_X12_227 dX12_tellAct_231 sh_11 rfl ?_
    refine lv_if_ne (tgt := 254) C.1 C.2.1 dX12_tellAct_234 (by decide) (fun c1 => ?_) (fun c1 => ?_)
    · have h := h.2 c1
      exact tX12_tellAct_254 C hr _ _ _ _ (lv_sub hl [0] rfl) g h
    · have h := h.1 c1
      refine lv_aload_n C.1 C.2.1 dX12_tellAct_237 rfl (lv_at hl 0 rfl) ?_
      refine lv_bipush (v := 23) C.1 C.2.1 dX12_tellAct_238 (by decide) ?_
      refine gx_calli0 g (gx_runV (k := 11) (rest := []) C g mb_X12_is ml_X12_245 rfl sh_11 (mX12_is (23 : Int32) _ _ h) ⟨Nat.le_of_ble_eq_true rfl, Nat.le_of_ble_eq_true rfl⟩ ⟨Nat.le_refl _, Nat.le_refl _⟩ rfl hl.1 rfl (Nat.le_of_ble_eq_true rfl) dX12_tellAct_240) rfl rfl (fun r2 σ3 H locs h g => ?_)
      refine lv_if_ne (tgt := 254) C.1 C.2.1 dX12_tellAct_243 (by decide) (fun c4 => ?_) (fun c4 => ?_)
      · have h := h.2 c4
        exact tX12_tellAct_254 C hr _ _ _ _ (lv_sub hl [0] rfl) g h
      · have h := h.1 c4
        refine lv_aload_n C.1 C.2.1 dX12_tellAct_246 rfl (lv_at hl 0 rfl) ?_
        refine lv_iload_n C.1 C.2.1 dX12_tellAct_247 rfl (lv_at hl 1 rfl) ?_
        refine gx_callv0 g (gx_runV (k := 11) (rest := []) C g mb_X12_tellRule ml_X12_288 rfl sh_11 (mX12_tellRule x3 _ _ h) ⟨Nat.le_of_ble_eq_true rfl, Nat.le_of_ble_eq_true rfl⟩ ⟨Nat.le_refl _, Nat.le_refl _⟩ rfl hl.1 rfl (Nat.le_of_ble_eq_true rfl) dX12_tellAct_248) rfl rfl (fun σ6 H locs h g => ?_)
        refine lv_goto (tgt := 230) C.1 C.2.1 dX12_tellAct_251 (by decide) ?_
        exact ih x3 _ _ _ _ (lv_sub hl [0, 1] rfl) g h
set_option maxHeartbeats 4000000 in
set_option maxRecDepth 100000 in
theorem tX12_tellAct_207 {p : Program} {l : Launch} {e : Env} {s : State} {m : MethodId} {args : Array Value} {below : List Frame} {meth : Method} {c : Code} {E : EE} {base : Nat} (C : Cx p E base s m args meth c cX12_tellAct 5 RX12) (hr : meth.sig.returnType = none) {Q : St → Prop} : ∀ (x3 : Int32) (σ : St) (H : Heap) (locs : List Loc) (ls : Array Slot), lv_has ls 5 [(0, .ref (ga E 11)), (3, .int x3)] → GW E base s σ H locs → wX12_tellAct_207 Q x3 σ → W p l e rmX12_tellAct s m args below meth c H locs 0 0 (MQ below (QV E base Q) args s 0 0 (fun q => base ≤ q)) (F0 m 207 ls []) := by
  intro x3 σ H locs ls hl g h
  refine lv_aload_n C.1 C.2.1 dX12_tellAct_207 rfl (lv_at hl 0 rfl) ?_
  refine lv_iconst (v := 4) C.1 C.2.1 dX12_tellAct_208 (by decide) ?_
  refine gx_callv0 g (gx_runV (k := 11) (rest := []) C g mb_X12_must ml_X12_281 rfl sh_11 (mX12_must (4 : Int32) _ _ h) ⟨Nat.le_of_ble_eq_true rfl, Nat.le_of_ble_eq_true rfl⟩ ⟨Nat.le_refl _, Nat.le_refl _⟩ rfl hl.1 rfl (Nat.le_of_ble_eq_true rfl) dX12_tellAct_209) rfl rfl (fun σ2 H locs h g => ?_)
  refine lv_aload_n C.1 C.2.1 dX12_tellAct_212 rfl (lv_at hl 0 rfl) ?_
  refine gx_getI C g fl_X12_227 dX12_tellAct_213 sh_11 rfl ?_
  refine lv_if_le (tgt := 220) C.1 C.2.1 dX12_tellAct_216 (by decide) (fun c3 => ?_) (fun c3 => ?_)
  · have h := h.1 c3
    refine lv_aload_n C.1 C.2.1 dX12_tellAct_220 rfl (lv_at hl 0 rfl) ?_
    refine lv_dup C.1 C.2.1 dX12_tellAct_221 rfl ?_
    refine gx_getI C g fl_X12_260 dX12_tellAct_222 sh_11 rfl ?_
    refine lv_iconst (v := 1) C.1 C.2.1 dX12_tellAct_225 (by decide) ?_
    refine lv_iadd C.1 C.2.1 dX12_tellAct_226 ?_
    refine gx_putI C g fi_X12_260 dX12_tellAct_227 sh_11 rfl (fun H locs σ4 eσ4 g => ?_)
    have h := h σ4 eσ4
    obtain ⟨j, h⟩ := h
    exact tX12_tellAct_230 C hr j x3 _ _ _ _ (lv_sub hl [0, 1] rfl) g h
  · have h := h.2 c3
    exact gx_vret C hr g dX12_tellAct_219 h
set_option maxHeartbeats 4000000 in
set_option maxRecDepth 100000 in
theorem tX12_tellAct_103 {p : Program} {l : Launch} {e : Env} {s : State} {m : MethodId} {args : Array Value} {below : List Frame} {meth : Method} {c : Code} {E : EE} {base : Nat} (C : Cx p E base s m args meth c cX12_tellAct 5 RX12) (hr : meth.sig.returnType = none) {Q : St → Prop} {K71 : Int32 → Int32 → Int32 → Int32 → St → Prop} (hK71 : ∀ (x1 : Int32) (x2 : Int32) (x3 : Int32) (x4 : Int32) (σ : St) (H : Heap) (locs : List Loc) (ls : Array Slot), lv_has ls 5 [(0, .ref (ga E 11)), (1, .int x1), (2, .int x2), (3, .int x3), (4, .int x4)] → GW E base s σ H locs → K71 x1 x2 x3 x4 σ → W p l e rmX12_tellAct s m args below meth c H locs 0 0 (MQ below (QV E base Q) args s 0 0 (fun q => base ≤ q)) (F0 m 71 ls [])) : ∀ (x1 : Int32) (x2 : Int32) (x3 : Int32) (x4 : Int32) (σ : St) (H : Heap) (locs : List Loc) (ls : Array Slot), lv_has ls 5 [(0, .ref (ga E 11)), (1, .int x1), (2, .int x2), (3, .int x3), (4, .int x4)] → GW E base s σ H locs → wX12_tellAct_103 Q K71 x1 x2 x3 x4 σ → W p l e rmX12_tellAct s m args below meth c H locs 0 0 (MQ below (QV E base Q) args s 0 0 (fun q => base ≤ q)) (F0 m 103 ls []) := by
  intro x1 x2 x3 x4 σ H locs ls hl g h
  obtain ⟨x4_1, ex4_1⟩ : ∃ y : Int32, y = x4 + 1 := ⟨_, rfl⟩
  have h := h x4_1 ex4_1
  refine lv_iinc (v := x4_1) (lv' := [(4, .int x4_1), (0, .ref (ga E 11)), (1, .int x1), (2, .int x2), (3, .int x3)]) C.1 C.2.1 dX12_tellAct_103 hl (k := 4) rfl (by rw [ex4_1]; rfl) (by decide) rfl (fun ls hl => ?_)
  refine lv_goto (tgt := 71) C.1 C.2.1 dX12_tellAct_106 (by decide) ?_
  exact hK71 x1 x2 x3 x4_1 _ _ _ _ (lv_sub hl [1, 2, 3, 4, 0] rfl) g h
set_option maxHeartbeats 4000000 in
set_option maxRecDepth 100000 in
theorem tX12_tellAct_71 {p : Program} {l : Launch} {e : Env} {s : State} {m : MethodId} {args : Array Value} {below : List Frame} {meth : Method} {c : Code} {E : EE} {base : Nat} (C : Cx p E base s m args meth c cX12_tellAct 5 RX12) (hr : meth.sig.returnType = none) {Q : St → Prop} : ∀ (n : Nat) (x1 : Int32) (x2 : Int32) (x3 : Int32) (x4 : Int32) (σ : St) (H : Heap) (locs : List Loc) (ls : Array Slot), lv_has ls 5 [(0, .ref (ga E 11)), (1, .int x1), (2, .int x2), (3, .int x3), (4, .int x4)] → GW E base s σ H locs → wX12_tellAct_71 Q n x1 x2 x3 x4 σ → W p l e rmX12_tellAct s m args below meth c H locs 0 0 (MQ below (QV E base Q) args s 0 0 (fun q => base ≤ q)) (F0 m 71 ls []) := by
  intro n
  induction n with
  | zero => intro _ _ _ _; intros; exact False.elim (by assumption)
  | succ n ih =>
    intro x1 x2 x3 x4 σ H locs ls hl g h
    refine lv_iload C.1 C.2.1 dX12_tellAct_71 (lv_at hl 4 rfl) ?_
    refine lv_aload_n C.1 C.2.1 dX12_tellAct_73 rfl (lv_at hl 0 rfl) ?_
    refine gx_getI C g fl_X12_260 dX12_tellAct_74 sh_11 rfl ?_
    refine lv_icmp_ge (tgt := 109) C.1 C.2.1 dX12_tellAct_77 (by decide) (fun c1 => ?_) (fun c1 => ?_)
    · have h := h.1 c1
      refine lv_aload_n C.1 C.2.1 dX12_tellAct_109 rfl (lv_at hl 0 rfl) ?_
      refine gx_getR C g fl_X12_40 dX12_tellAct_110 sh_11 rfl (by decide) ?_
      refine lv_iload_n C.1 C.2.1 dX12_tellAct_113 rfl (lv_at hl 3 rfl) ?_
      refine lv_aload_n C.1 C.2.1 dX12_tellAct_114 rfl (lv_at hl 0 rfl) ?_
      refine gx_getR C g fl_X12_30 dX12_tellAct_115 sh_11 rfl (by decide) ?_
      refine lv_iload_n C.1 C.2.1 dX12_tellAct_118 rfl (lv_at hl 1 rfl) ?_
      obtain ⟨i2, h⟩ := h
      refine gx_lald C g dX12_tellAct_119 sh_53 i2 ?_
      obtain ⟨i3, h⟩ := h
      refine gx_last C g dX12_tellAct_120 sh_55 i3 (fun H locs σ4 eσ4 g => ?_)
      have h := h σ4 eσ4
      refine lv_aload_n C.1 C.2.1 dX12_tellAct_121 rfl (lv_at hl 0 rfl) ?_
      refine gx_getR C g fl_X12_43 dX12_tellAct_122 sh_11 rfl (by decide) ?_
      refine lv_iload_n C.1 C.2.1 dX12_tellAct_125 rfl (lv_at hl 3 rfl) ?_
      refine lv_aload_n C.1 C.2.1 dX12_tellAct_126 rfl (lv_at hl 0 rfl) ?_
      refine gx_getR C g fl_X12_27 dX12_tellAct_127 sh_11 rfl (by decide) ?_
      refine lv_iload_n C.1 C.2.1 dX12_tellAct_130 rfl (lv_at hl 2 rfl) ?_
      obtain ⟨i5, h⟩ := h
      refine gx_iald C g dX12_tellAct_131 sh_52 i5 ?_
      obtain ⟨i6, h⟩ := h
      refine gx_iast C g dX12_tellAct_132 sh_56 i6 (fun H locs σ7 eσ7 g => ?_)
      have h := h σ7 eσ7
      refine lv_aload_n C.1 C.2.1 dX12_tellAct_133 rfl (lv_at hl 0 rfl) ?_
      refine gx_getR C g fl_X12_46 dX12_tellAct_134 sh_11 rfl (by decide) ?_
      refine lv_iload_n C.1 C.2.1 dX12_tellAct_137 rfl (lv_at hl 3 rfl) ?_
      refine lv_iconst (v := -1) C.1 C.2.1 dX12_tellAct_138 (by decide) ?_
      obtain ⟨i8, h⟩ := h
      refine gx_iast C g dX12_tellAct_139 sh_57 i8 (fun H locs σ9 eσ9 g => ?_)
      have h := h σ9 eσ9
      refine lv_aload_n C.1 C.2.1 dX12_tellAct_140 rfl (lv_at hl 0 rfl) ?_
      refine lv_bipush (v := 22) C.1 C.2.1 dX12_tellAct_141 (by decide) ?_
      refine gx_calli0 g (gx_runV (k := 11) (rest := []) C g mb_X12_is ml_X12_245 rfl sh_11 (mX12_is (22 : Int32) _ _ h) ⟨Nat.le_of_ble_eq_true rfl, Nat.le_of_ble_eq_true rfl⟩ ⟨Nat.le_refl _, Nat.le_refl _⟩ rfl hl.1 rfl (Nat.le_of_ble_eq_true rfl) dX12_tellAct_143) rfl rfl (fun r10 σ11 H locs h g => ?_)
      refine lv_if_eq (tgt := 207) C.1 C.2.1 dX12_tellAct_146 (by decide) (fun c12 => ?_) (fun c12 => ?_)
      · have h := h.1 c12
        exact tX12_tellAct_207 C hr x3 _ _ _ _ (lv_sub hl [0, 3] rfl) g h
      · have h := h.2 c12
        refine lv_aload_n C.1 C.2.1 dX12_tellAct_149 rfl (lv_at hl 0 rfl) ?_
        refine gx_callv0 g (gx_runV (k := 11) (rest := []) C g mb_X12_next ml_X12_248 rfl sh_11 (mX12_next _ _ h) ⟨Nat.le_of_ble_eq_true rfl, Nat.le_of_ble_eq_true rfl⟩ ⟨Nat.le_refl _, Nat.le_refl _⟩ rfl hl.1 rfl (Nat.le_of_ble_eq_true rfl) dX12_tellAct_150) rfl rfl (fun σ14 H locs h g => ?_)
        refine lv_aload_n C.1 C.2.1 dX12_tellAct_153 rfl (lv_at hl 0 rfl) ?_
        refine gx_getI C g fl_X12_230 dX12_tellAct_154 sh_11 rfl ?_
        refine lv_topi (fun x4_15 ex4_15 => ?_)
        have h := h x4_15 ex4_15
        refine lv_istore (lv' := [(4, .int x4_15), (0, .ref (ga E 11)), (1, .int x1), (2, .int x2), (3, .int x3)]) C.1 C.2.1 dX12_tellAct_157 hl (by decide) rfl (fun ls hl => ?_)
        refine lv_aload_n C.1 C.2.1 dX12_tellAct_159 rfl (lv_at hl 1 rfl) ?_
        refine lv_iconst (v := 2) C.1 C.2.1 dX12_tellAct_160 (by decide) ?_
        refine gx_callv0 g (gx_runV (k := 11) (rest := []) C g mb_X12_must ml_X12_281 rfl sh_11 (mX12_must (2 : Int32) _ _ h) ⟨Nat.le_of_ble_eq_true rfl, Nat.le_of_ble_eq_true rfl⟩ ⟨Nat.le_refl _, Nat.le_refl _⟩ rfl hl.1 rfl (Nat.le_of_ble_eq_true rfl) dX12_tellAct_161) rfl rfl (fun σ17 H locs h g => ?_)
        refine lv_aload_n C.1 C.2.1 dX12_tellAct_164 rfl (lv_at hl 1 rfl) ?_
        refine gx_getI C g fl_X12_227 dX12_tellAct_165 sh_11 rfl ?_
        refine lv_if_le (tgt := 172) C.1 C.2.1 dX12_tellAct_168 (by decide) (fun c18 => ?_) (fun c18 => ?_)
        · have h := h.1 c18
          refine lv_aload_n C.1 C.2.1 dX12_tellAct_172 rfl (lv_at hl 1 rfl) ?_
          refine gx_getR C g fl_X12_46 dX12_tellAct_173 sh_11 rfl (by decide) ?_
          refine lv_iload_n C.1 C.2.1 dX12_tellAct_176 rfl (lv_at hl 4 rfl) ?_
          refine lv_aload_n C.1 C.2.1 dX12_tellAct_177 rfl (lv_at hl 1 rfl) ?_
          refine gx_getR C g fl_X12_27 dX12_tellAct_178 sh_11 rfl (by decide) ?_
          refine lv_iload C.1 C.2.1 dX12_tellAct_181 (lv_at hl 0 rfl) ?_
          obtain ⟨i19, h⟩ := h
          refine gx_iald C g dX12_tellAct_183 sh_52 i19 ?_
          obtain ⟨i20, h⟩ := h
          refine gx_iast C g dX12_tellAct_184 sh_57 i20 (fun H locs σ21 eσ21 g => ?_)
          have h := h σ21 eσ21
          refine lv_aload_n C.1 C.2.1 dX12_tellAct_185 rfl (lv_at hl 1 rfl) ?_
          refine gx_getR C g fl_X12_46 dX12_tellAct_186 sh_11 rfl (by decide) ?_
          refine lv_iload_n C.1 C.2.1 dX12_tellAct_189 rfl (lv_at hl 4 rfl) ?_
          obtain ⟨i22, h⟩ := h
          refine gx_iald C g dX12_tellAct_190 sh_57 i22 ?_
          refine lv_aload_n C.1 C.2.1 dX12_tellAct_191 rfl (lv_at hl 1 rfl) ?_
          refine gx_getR C g fl_X12_43 dX12_tellAct_192 sh_11 rfl (by decide) ?_
          refine lv_iload_n C.1 C.2.1 dX12_tellAct_195 rfl (lv_at hl 4 rfl) ?_
          obtain ⟨i23, h⟩ := h
          refine gx_iald C g dX12_tellAct_196 sh_56 i23 ?_
          refine lv_icmp_gt (tgt := 207) C.1 C.2.1 dX12_tellAct_197 (by decide) (fun c24 => ?_) (fun c24 => ?_)
          · have h := h.1 c24
            exact tX12_tellAct_207 C hr x3 _ _ _ _ (lv_sub hl [1, 4] rfl) g h
          · have h := h.2 c24
            refine lv_aload_n C.1 C.2.1 dX12_tellAct_200 rfl (lv_at hl 1 rfl) ?_
            refine lv_iconst (v := 5) C.1 C.2.1 dX12_tellAct_201 (by decide) ?_
            refine lv_iload C.1 C.2.1 dX12_tellAct_202 (lv_at hl 0 rfl) ?_
            refine gx_callv0 g (gx_runV (k := 11) (rest := []) C g mb_X12_wrong ml_X12_284 rfl sh_11 (mX12_wrong (5 : Int32) x4_15 _ _ h) ⟨Nat.le_of_ble_eq_true rfl, Nat.le_of_ble_eq_true rfl⟩ ⟨Nat.le_refl _, Nat.le_refl _⟩ rfl hl.1 rfl (Nat.le_of_ble_eq_true rfl) dX12_tellAct_204) rfl rfl (fun σ26 H locs h g => ?_)
            exact tX12_tellAct_207 C hr x3 _ _ _ _ (lv_sub hl [1, 4] rfl) g h
        · have h := h.2 c18
          exact gx_vret C hr g dX12_tellAct_171 h
    · have h := h.2 c1
      refine lv_aload_n C.1 C.2.1 dX12_tellAct_80 rfl (lv_at hl 0 rfl) ?_
      refine gx_getR C g fl_X12_40 dX12_tellAct_81 sh_11 rfl (by decide) ?_
      refine lv_iload C.1 C.2.1 dX12_tellAct_84 (lv_at hl 4 rfl) ?_
      obtain ⟨i27, h⟩ := h
      refine gx_lald C g dX12_tellAct_86 sh_55 i27 ?_
      refine lv_aload_n C.1 C.2.1 dX12_tellAct_87 rfl (lv_at hl 0 rfl) ?_
      refine gx_getR C g fl_X12_30 dX12_tellAct_88 sh_11 rfl (by decide) ?_
      refine lv_iload_n C.1 C.2.1 dX12_tellAct_91 rfl (lv_at hl 1 rfl) ?_
      obtain ⟨i28, h⟩ := h
      refine gx_lald C g dX12_tellAct_92 sh_53 i28 ?_
      refine W.lcmp C.1 C.2.1 dX12_tellAct_93 ?_
      refine lv_if_ne (tgt := 103) C.1 C.2.1 dX12_tellAct_94 (by decide) (fun c29 => ?_) (fun c29 => ?_)
      · have h := h.2 c29
        exact tX12_tellAct_103 C hr ih x1 x2 x3 x4 _ _ _ _ (lv_sub hl [0, 1, 2, 3, 4] rfl) g h
      · have h := h.1 c29
        refine lv_aload_n C.1 C.2.1 dX12_tellAct_97 rfl (lv_at hl 0 rfl) ?_
        refine lv_iconst (v := 3) C.1 C.2.1 dX12_tellAct_98 (by decide) ?_
        refine lv_iload_n C.1 C.2.1 dX12_tellAct_99 rfl (lv_at hl 1 rfl) ?_
        refine gx_callv0 g (gx_runV (k := 11) (rest := []) C g mb_X12_wrong ml_X12_284 rfl sh_11 (mX12_wrong (3 : Int32) x1 _ _ h) ⟨Nat.le_of_ble_eq_true rfl, Nat.le_of_ble_eq_true rfl⟩ ⟨Nat.le_refl _, Nat.le_refl _⟩ rfl hl.1 rfl (Nat.le_of_ble_eq_true rfl) dX12_tellAct_100) rfl rfl (fun σ31 H locs h g => ?_)
        exact tX12_tellAct_103 C hr ih x1 x2 x3 x4 _ _ _ _ (lv_sub hl [0, 1, 2, 3, 4] rfl) g h
set_option maxHeartbeats 4000000 in
set_option maxRecDepth 100000 in
theorem tX12_tellAct_23 {p : Program} {l : Launch} {e : Env} {s : State} {m : MethodId} {args : Array Value} {below : List Frame} {meth : Method} {c : Code} {E : EE} {base : Nat} (C : Cx p E base s m args meth c cX12_tellAct 5 RX12) (hr : meth.sig.returnType = none) {Q : St → Prop} : ∀ (σ : St) (H : Heap) (locs : List Loc) (ls : Array Slot), lv_has ls 5 [(0, .ref (ga E 11))] → GW E base s σ H locs → wX12_tellAct_23 Q σ → W p l e rmX12_tellAct s m args below meth c H locs 0 0 (MQ below (QV E base Q) args s 0 0 (fun q => base ≤ q)) (F0 m 23 ls []) := by
  intro σ H locs ls hl g h
  refine lv_aload_n C.1 C.2.1 dX12_tellAct_23 rfl (lv_at hl 0 rfl) ?_
  refine lv_bipush (v := 20) C.1 C.2.1 dX12_tellAct_24 (by decide) ?_
  refine gx_callv0 g (gx_runV (k := 11) (rest := []) C g mb_X12_must ml_X12_281 rfl sh_11 (mX12_must (20 : Int32) _ _ h) ⟨Nat.le_of_ble_eq_true rfl, Nat.le_of_ble_eq_true rfl⟩ ⟨Nat.le_refl _, Nat.le_refl _⟩ rfl hl.1 rfl (Nat.le_of_ble_eq_true rfl) dX12_tellAct_26) rfl rfl (fun σ2 H locs h g => ?_)
  refine lv_aload_n C.1 C.2.1 dX12_tellAct_29 rfl (lv_at hl 0 rfl) ?_
  refine gx_getI C g fl_X12_230 dX12_tellAct_30 sh_11 rfl ?_
  refine lv_topi (fun x1_3 ex1_3 => ?_)
  have h := h x1_3 ex1_3
  refine lv_istore_n (lv' := [(1, .int x1_3), (0, .ref (ga E 11))]) C.1 C.2.1 dX12_tellAct_33 rfl hl (by decide) rfl (fun ls hl => ?_)
  refine lv_aload_n C.1 C.2.1 dX12_tellAct_34 rfl (lv_at hl 1 rfl) ?_
  refine lv_iconst (v := 1) C.1 C.2.1 dX12_tellAct_35 (by decide) ?_
  refine gx_callv0 g (gx_runV (k := 11) (rest := []) C g mb_X12_must ml_X12_281 rfl sh_11 (mX12_must (1 : Int32) _ _ h) ⟨Nat.le_of_ble_eq_true rfl, Nat.le_of_ble_eq_true rfl⟩ ⟨Nat.le_refl _, Nat.le_refl _⟩ rfl hl.1 rfl (Nat.le_of_ble_eq_true rfl) dX12_tellAct_36) rfl rfl (fun σ5 H locs h g => ?_)
  refine lv_aload_n C.1 C.2.1 dX12_tellAct_39 rfl (lv_at hl 1 rfl) ?_
  refine lv_bipush (v := 21) C.1 C.2.1 dX12_tellAct_40 (by decide) ?_
  refine gx_callv0 g (gx_runV (k := 11) (rest := []) C g mb_X12_must ml_X12_281 rfl sh_11 (mX12_must (21 : Int32) _ _ h) ⟨Nat.le_of_ble_eq_true rfl, Nat.le_of_ble_eq_true rfl⟩ ⟨Nat.le_refl _, Nat.le_refl _⟩ rfl hl.1 rfl (Nat.le_of_ble_eq_true rfl) dX12_tellAct_42) rfl rfl (fun σ7 H locs h g => ?_)
  refine lv_aload_n C.1 C.2.1 dX12_tellAct_45 rfl (lv_at hl 1 rfl) ?_
  refine gx_getI C g fl_X12_230 dX12_tellAct_46 sh_11 rfl ?_
  refine lv_topi (fun x2_8 ex2_8 => ?_)
  have h := h x2_8 ex2_8
  refine lv_istore_n (lv' := [(2, .int x2_8), (1, .int x1_3), (0, .ref (ga E 11))]) C.1 C.2.1 dX12_tellAct_49 rfl hl (by decide) rfl (fun ls hl => ?_)
  refine lv_aload_n C.1 C.2.1 dX12_tellAct_50 rfl (lv_at hl 2 rfl) ?_
  refine lv_iconst (v := 2) C.1 C.2.1 dX12_tellAct_51 (by decide) ?_
  refine gx_callv0 g (gx_runV (k := 11) (rest := []) C g mb_X12_must ml_X12_281 rfl sh_11 (mX12_must (2 : Int32) _ _ h) ⟨Nat.le_of_ble_eq_true rfl, Nat.le_of_ble_eq_true rfl⟩ ⟨Nat.le_refl _, Nat.le_refl _⟩ rfl hl.1 rfl (Nat.le_of_ble_eq_true rfl) dX12_tellAct_52) rfl rfl (fun σ10 H locs h g => ?_)
  refine lv_aload_n C.1 C.2.1 dX12_tellAct_55 rfl (lv_at hl 2 rfl) ?_
  refine gx_getI C g fl_X12_227 dX12_tellAct_56 sh_11 rfl ?_
  refine lv_if_le (tgt := 63) C.1 C.2.1 dX12_tellAct_59 (by decide) (fun c11 => ?_) (fun c11 => ?_)
  · have h := h.1 c11
    refine lv_aload_n C.1 C.2.1 dX12_tellAct_63 rfl (lv_at hl 2 rfl) ?_
    refine gx_getI C g fl_X12_260 dX12_tellAct_64 sh_11 rfl ?_
    refine lv_topi (fun x3_12 ex3_12 => ?_)
    have h := h x3_12 ex3_12
    refine lv_istore_n (lv' := [(3, .int x3_12), (2, .int x2_8), (1, .int x1_3), (0, .ref (ga E 11))]) C.1 C.2.1 dX12_tellAct_67 rfl hl (by decide) rfl (fun ls hl => ?_)
    refine lv_iconst (v := 0) C.1 C.2.1 dX12_tellAct_68 (by decide) ?_
    refine lv_istore (lv' := [(4, .int (0 : Int32)), (3, .int x3_12), (2, .int x2_8), (1, .int x1_3), (0, .ref (ga E 11))]) C.1 C.2.1 dX12_tellAct_69 hl (by decide) rfl (fun ls hl => ?_)
    obtain ⟨j, h⟩ := h
    exact tX12_tellAct_71 C hr j x1_3 x2_8 x3_12 (0 : Int32) _ _ _ _ (lv_sub hl [4, 3, 2, 1, 0] rfl) g h
  · have h := h.2 c11
    exact gx_vret C hr g dX12_tellAct_62 h
set_option maxHeartbeats 4000000 in
set_option maxRecDepth 100000 in
theorem tX12_tellAct_e {p : Program} {l : Launch} {e : Env} {s : State} {m : MethodId} {args : Array Value} {below : List Frame} {meth : Method} {c : Code} {E : EE} {base : Nat} (C : Cx p E base s m args meth c cX12_tellAct 5 RX12) (hr : meth.sig.returnType = none) {Q : St → Prop} : ∀ (σ : St) (H : Heap) (locs : List Loc) (ls : Array Slot), lv_has ls 5 [(0, .ref (ga E 11))] → GW E base s σ H locs → wX12_tellAct σ Q → W p l e rmX12_tellAct s m args below meth c H locs 0 0 (MQ below (QV E base Q) args s 0 0 (fun q => base ≤ q)) (F0 m 0 ls []) := by
  intro σ H locs ls hl g h
  refine lv_aload_n C.1 C.2.1 dX12_tellAct_0 rfl (lv_at hl 0 rfl) ?_
  refine lv_bipush (v := 20) C.1 C.2.1 dX12_tellAct_1 (by decide) ?_
  refine gx_calli0 g (gx_runV (k := 11) (rest := []) C g mb_X12_is ml_X12_245 rfl sh_11 (mX12_is (20 : Int32) _ _ h) ⟨Nat.le_of_ble_eq_true rfl, Nat.le_of_ble_eq_true rfl⟩ ⟨Nat.le_refl _, Nat.le_refl _⟩ rfl hl.1 rfl (Nat.le_of_ble_eq_true rfl) dX12_tellAct_3) rfl rfl (fun r1 σ2 H locs h g => ?_)
  refine lv_if_eq (tgt := 23) C.1 C.2.1 dX12_tellAct_6 (by decide) (fun c3 => ?_) (fun c3 => ?_)
  · have h := h.1 c3
    exact tX12_tellAct_23 C hr _ _ _ _ (lv_sub hl [0] rfl) g h
  · have h := h.2 c3
    refine lv_aload_n C.1 C.2.1 dX12_tellAct_9 rfl (lv_at hl 0 rfl) ?_
    refine gx_getI C g fl_X12_260 dX12_tellAct_10 sh_11 rfl ?_
    refine lv_bipush (v := 10) C.1 C.2.1 dX12_tellAct_13 (by decide) ?_
    refine lv_icmp_ne (tgt := 23) C.1 C.2.1 dX12_tellAct_15 (by decide) (fun c4 => ?_) (fun c4 => ?_)
    · have h := h.2 c4
      exact tX12_tellAct_23 C hr _ _ _ _ (lv_sub hl [0] rfl) g h
    · have h := h.1 c4
      refine lv_aload_n C.1 C.2.1 dX12_tellAct_18 rfl (lv_at hl 0 rfl) ?_
      refine lv_iconst (v := 2) C.1 C.2.1 dX12_tellAct_19 (by decide) ?_
      refine gx_callv0 g (gx_runV (k := 11) (rest := []) C g mb_X12_fail ml_X12_242 rfl sh_11 (mX12_fail (2 : Int32) _ _ h) ⟨Nat.le_of_ble_eq_true rfl, Nat.le_of_ble_eq_true rfl⟩ ⟨Nat.le_refl _, Nat.le_refl _⟩ rfl hl.1 rfl (Nat.le_of_ble_eq_true rfl) dX12_tellAct_20) rfl rfl (fun σ6 H locs h g => ?_)
      exact tX12_tellAct_23 C hr _ _ _ _ (lv_sub hl [0] rfl) g h
theorem mX12_tellAct {l : Launch} {E : EE} {base : Nat} (σ : St) (Q : St → Prop) (h : wX12_tellAct σ Q) : Met l yX12_tellAct (wy yX12_tellAct cX12_tellAct 5 none) rmX12_tellAct (va_Pc [.ref (ga E 11)] (fun U => SW E base σ U)) (QV E base Q) (rmX12_tellAct).cells (rmX12_tellAct).slots (fun q => base ≤ q) :=
  met_of (by decide) (Nat.le_of_ble_eq_true rfl) (fun p e s m args below meth c C hr g ls hl => tX12_tellAct_e C hr  _ _ _ _ hl g h)
abbrev rmX12_changes : Room := { frames := 0, cells := 0, slots := 0, locals := 0 }
def wX12_changes (σ : St) (Q : St → Prop) : Prop := ∀ σ1 : St, σ1 = pv σ 11 66 (-1 : Int32) → Q σ1
set_option maxHeartbeats 4000000 in
set_option maxRecDepth 100000 in
theorem tX12_changes_e {p : Program} {l : Launch} {e : Env} {s : State} {m : MethodId} {args : Array Value} {below : List Frame} {meth : Method} {c : Code} {E : EE} {base : Nat} (C : Cx p E base s m args meth c cX12_changes 1 RX12) (hr : meth.sig.returnType = none) {Q : St → Prop} : ∀ (σ : St) (H : Heap) (locs : List Loc) (ls : Array Slot), lv_has ls 1 [(0, .ref (ga E 11))] → GW E base s σ H locs → wX12_changes σ Q → W p l e rmX12_changes s m args below meth c H locs 0 0 (MQ below (QV E base Q) args s 0 0 (fun q => base ≤ q)) (F0 m 0 ls []) := by
  intro σ H locs ls hl g h
  refine lv_aload_n C.1 C.2.1 dX12_changes_0 rfl (lv_at hl 0 rfl) ?_
  refine lv_iconst (v := -1) C.1 C.2.1 dX12_changes_1 (by decide) ?_
  refine gx_putI C g fi_X12_143 dX12_changes_2 sh_11 rfl (fun H locs σ1 eσ1 g => ?_)
  have h := h σ1 eσ1
  exact gx_vret C hr g dX12_changes_5 h
theorem mX12_changes {l : Launch} {E : EE} {base : Nat} (σ : St) (Q : St → Prop) (h : wX12_changes σ Q) : Met l yX12_changes (wy yX12_changes cX12_changes 1 none) rmX12_changes (va_Pc [.ref (ga E 11)] (fun U => SW E base σ U)) (QV E base Q) (rmX12_changes).cells (rmX12_changes).slots (fun q => base ≤ q) :=
  met_of (by decide) (Nat.le_of_ble_eq_true rfl) (fun p e s m args below meth c C hr g ls hl => tX12_changes_e C hr  _ _ _ _ hl g h)
abbrev rmX12_read : Room := { frames := 6, cells := 0, slots := 0, locals := 142 }
def wX12_read_143 (Q : Int32 → St → Prop) (x1 : Int32) (x2 : Int32) (xt1 : Int32) (σ : St) : Prop := ∀ σ1 : St, σ1 = pv σ 11 17 xt1 → (((gv σ1 11 17) = (-1 : Int32) → ∀ σ3 : St, σ3 = pv σ1 11 18 (gv σ1 11 19) → ∀ σ4 : St, σ4 = pv σ3 11 23 (gv σ3 11 24) → wX12_changes σ4 (fun (σ6 : St) => Q (0 : Int32) σ6)) ∧ (¬ ((gv σ1 11 17) = (-1 : Int32)) → ∀ σ7 : St, σ7 = pv σ1 11 32 x1 → ∀ σ8 : St, σ8 = pv σ7 11 38 x2 → (((gv σ8 11 13) ≤ 0 → Q (gv σ8 11 15) σ8) ∧ (¬ ((gv σ8 11 13) ≤ 0) → Q (gv σ8 11 13) σ8))))
def wX12_read_113 (Q : Int32 → St → Prop) (x1 : Int32) (x2 : Int32) (σ : St) : Prop := (((gv σ 11 13) ≤ 0 → (((gv σ 11 15) ≤ 0 → wX12_read_143 Q x1 x2 (-1 : Int32) σ) ∧ (¬ ((gv σ 11 15) ≤ 0) → wX12_read_143 Q x1 x2 (gv σ 11 16) σ))) ∧ (¬ ((gv σ 11 13) ≤ 0) → wX12_read_143 Q x1 x2 (gv σ 11 14) σ))
def wX12_read_91 (Q : Int32 → St → Prop) : Nat → Int32 → Int32 → St → Prop
  | 0, _, _, _ => False
  | n + 1, x1, x2, σ => (((gv σ 11 13) = 0 → wX12_is (0 : Int32) σ (fun (r2 : Int32) (σ3 : St) => ((r2 = 0 → wX12_tellAct σ3 (fun (σ6 : St) => wX12_read_91 Q n x1 x2 σ6)) ∧ (¬ (r2 = 0) → wX12_read_113 Q x1 x2 σ3)))) ∧ (¬ ((gv σ 11 13) = 0) → wX12_read_113 Q x1 x2 σ))
def wX12_read_10 (Q : Int32 → St → Prop) : Nat → Int32 → St → Prop
  | 0, _, _ => False
  | n + 1, x1, σ => (((gv σ 11 4) ≤ x1 → ∀ σ2 : St, σ2 = pv σ 11 2 (0 : Int32) → wX12_cut σ2 (fun (σ4 : St) => ∀ σ5 : St, σ5 = pv σ4 11 11 (0 : Int32) → ∀ σ6 : St, σ6 = pv σ5 11 12 (0 : Int32) → ∀ σ7 : St, σ7 = pv σ6 11 13 (0 : Int32) → ∀ σ8 : St, σ8 = pv σ7 11 15 (0 : Int32) → ∀ σ9 : St, σ9 = pv σ8 11 19 (gv σ8 11 18) → ∀ σ10 : St, σ10 = pv σ9 11 24 (gv σ9 11 23) → ∀ x1_11 : Int32, x1_11 = gv σ10 11 32 → ∀ x2_12 : Int32, x2_12 = gv σ10 11 38 → ∃ j : Nat, wX12_read_91 Q j x1_11 x2_12 σ10)) ∧ (¬ ((gv σ 11 4) ≤ x1) → vp_in x1 2000 ∧ vp_in x1 2000 ∧ ∀ σ15 : St, σ15 = pv σ 49 x1.toNatClampNeg (vp_nar .byte (gv σ 48 x1.toNatClampNeg)) → ∀ x1_16 : Int32, x1_16 = x1 + 1 → wX12_read_10 Q n x1_16 σ15))
def wX12_read (σ : St) (Q : Int32 → St → Prop) : Prop := ∀ σ1 : St, σ1 = pv σ 11 4 (gv σ 11 2) → ∃ j : Nat, wX12_read_10 Q j (0 : Int32) σ1
set_option maxHeartbeats 4000000 in
set_option maxRecDepth 100000 in
theorem tX12_read_143 {p : Program} {l : Launch} {e : Env} {s : State} {m : MethodId} {args : Array Value} {below : List Frame} {meth : Method} {c : Code} {E : EE} {base : Nat} (C : Cx p E base s m args meth c cX12_read 3 RX12) (hr : meth.sig.returnType = (some .int)) {Q : Int32 → St → Prop} : ∀ (x1 : Int32) (x2 : Int32) (xt1 : Int32) (σ : St) (H : Heap) (locs : List Loc) (ls : Array Slot), lv_has ls 3 [(0, .ref (ga E 11)), (1, .int x1), (2, .int x2)] → GW E base s σ H locs → wX12_read_143 Q x1 x2 xt1 σ → W p l e rmX12_read s m args below meth c H locs 0 0 (MQ below (QI E base Q) args s 0 0 (fun q => base ≤ q)) (F0 m 143 ls [.int xt1, .ref (ga E 11)]) := by
  intro x1 x2 xt1 σ H locs ls hl g h
  refine gx_putI C g fi_X12_37 dX12_read_143 sh_11 rfl (fun H locs σ1 eσ1 g => ?_)
  have h := h σ1 eσ1
  refine lv_aload_n C.1 C.2.1 dX12_read_146 rfl (lv_at hl 0 rfl) ?_
  refine gx_getI C g fl_X12_37 dX12_read_147 sh_11 rfl ?_
  refine lv_iconst (v := -1) C.1 C.2.1 dX12_read_150 (by decide) ?_
  refine lv_icmp_eq (tgt := 183) C.1 C.2.1 dX12_read_151 (by decide) (fun c2 => ?_) (fun c2 => ?_)
  · have h := h.1 c2
    refine lv_aload_n C.1 C.2.1 dX12_read_183 rfl (lv_at hl 0 rfl) ?_
    refine lv_aload_n C.1 C.2.1 dX12_read_184 rfl (lv_at hl 0 rfl) ?_
    refine gx_getI C g fl_X12_260 dX12_read_185 sh_11 rfl ?_
    refine gx_putI C g fi_X12_257 dX12_read_188 sh_11 rfl (fun H locs σ3 eσ3 g => ?_)
    have h := h σ3 eσ3
    refine lv_aload_n C.1 C.2.1 dX12_read_191 rfl (lv_at hl 0 rfl) ?_
    refine lv_aload_n C.1 C.2.1 dX12_read_192 rfl (lv_at hl 0 rfl) ?_
    refine gx_getI C g fl_X12_266 dX12_read_193 sh_11 rfl ?_
    refine gx_putI C g fi_X12_263 dX12_read_196 sh_11 rfl (fun H locs σ4 eσ4 g => ?_)
    have h := h σ4 eσ4
    refine lv_aload_n C.1 C.2.1 dX12_read_199 rfl (lv_at hl 0 rfl) ?_
    refine gx_callv0 g (gx_runV (k := 11) (rest := []) C g mb_X12_changes ml_X12_278 rfl sh_11 (mX12_changes _ _ h) ⟨Nat.le_of_ble_eq_true rfl, Nat.le_of_ble_eq_true rfl⟩ ⟨Nat.le_refl _, Nat.le_refl _⟩ rfl hl.1 rfl (Nat.le_of_ble_eq_true rfl) dX12_read_200) rfl rfl (fun σ6 H locs h g => ?_)
    refine lv_iconst (v := 0) C.1 C.2.1 dX12_read_203 (by decide) ?_
    exact gx_iret C hr g dX12_read_204 h
  · have h := h.2 c2
    refine lv_aload_n C.1 C.2.1 dX12_read_154 rfl (lv_at hl 0 rfl) ?_
    refine lv_iload_n C.1 C.2.1 dX12_read_155 rfl (lv_at hl 1 rfl) ?_
    refine gx_putI C g fi_X12_269 dX12_read_156 sh_11 rfl (fun H locs σ7 eσ7 g => ?_)
    have h := h σ7 eσ7
    refine lv_aload_n C.1 C.2.1 dX12_read_159 rfl (lv_at hl 0 rfl) ?_
    refine lv_iload_n C.1 C.2.1 dX12_read_160 rfl (lv_at hl 2 rfl) ?_
    refine gx_putI C g fi_X12_272 dX12_read_161 sh_11 rfl (fun H locs σ8 eσ8 g => ?_)
    have h := h σ8 eσ8
    refine lv_aload_n C.1 C.2.1 dX12_read_164 rfl (lv_at hl 0 rfl) ?_
    refine gx_getI C g fl_X12_227 dX12_read_165 sh_11 rfl ?_
    refine lv_if_le (tgt := 178) C.1 C.2.1 dX12_read_168 (by decide) (fun c9 => ?_) (fun c9 => ?_)
    · have h := h.1 c9
      refine lv_aload_n C.1 C.2.1 dX12_read_178 rfl (lv_at hl 0 rfl) ?_
      refine gx_getI C g fl_X12_236 dX12_read_179 sh_11 rfl ?_
      exact gx_iret C hr g dX12_read_182 h
    · have h := h.2 c9
      refine lv_aload_n C.1 C.2.1 dX12_read_171 rfl (lv_at hl 0 rfl) ?_
      refine gx_getI C g fl_X12_227 dX12_read_172 sh_11 rfl ?_
      refine lv_goto (tgt := 182) C.1 C.2.1 dX12_read_175 (by decide) ?_
      exact gx_iret C hr g dX12_read_182 h
set_option maxHeartbeats 4000000 in
set_option maxRecDepth 100000 in
theorem tX12_read_113 {p : Program} {l : Launch} {e : Env} {s : State} {m : MethodId} {args : Array Value} {below : List Frame} {meth : Method} {c : Code} {E : EE} {base : Nat} (C : Cx p E base s m args meth c cX12_read 3 RX12) (hr : meth.sig.returnType = (some .int)) {Q : Int32 → St → Prop} : ∀ (x1 : Int32) (x2 : Int32) (σ : St) (H : Heap) (locs : List Loc) (ls : Array Slot), lv_has ls 3 [(0, .ref (ga E 11)), (1, .int x1), (2, .int x2)] → GW E base s σ H locs → wX12_read_113 Q x1 x2 σ → W p l e rmX12_read s m args below meth c H locs 0 0 (MQ below (QI E base Q) args s 0 0 (fun q => base ≤ q)) (F0 m 113 ls []) := by
  intro x1 x2 σ H locs ls hl g h
  refine lv_aload_n C.1 C.2.1 dX12_read_113 rfl (lv_at hl 0 rfl) ?_
  refine lv_aload_n C.1 C.2.1 dX12_read_114 rfl (lv_at hl 0 rfl) ?_
  refine gx_getI C g fl_X12_227 dX12_read_115 sh_11 rfl ?_
  refine lv_if_le (tgt := 128) C.1 C.2.1 dX12_read_118 (by decide) (fun c1 => ?_) (fun c1 => ?_)
  · have h := h.1 c1
    refine lv_aload_n C.1 C.2.1 dX12_read_128 rfl (lv_at hl 0 rfl) ?_
    refine gx_getI C g fl_X12_236 dX12_read_129 sh_11 rfl ?_
    refine lv_if_le (tgt := 142) C.1 C.2.1 dX12_read_132 (by decide) (fun c2 => ?_) (fun c2 => ?_)
    · have h := h.1 c2
      refine lv_iconst (v := -1) C.1 C.2.1 dX12_read_142 (by decide) ?_
      exact tX12_read_143 C hr x1 x2 (-1 : Int32) _ _ _ _ (lv_sub hl [0, 1, 2] rfl) g h
    · have h := h.2 c2
      refine lv_aload_n C.1 C.2.1 dX12_read_135 rfl (lv_at hl 0 rfl) ?_
      refine gx_getI C g fl_X12_239 dX12_read_136 sh_11 rfl ?_
      refine lv_goto (tgt := 143) C.1 C.2.1 dX12_read_139 (by decide) ?_
      exact tX12_read_143 C hr x1 x2 (gv σ 11 16) _ _ _ _ (lv_sub hl [0, 1, 2] rfl) g h
  · have h := h.2 c1
    refine lv_aload_n C.1 C.2.1 dX12_read_121 rfl (lv_at hl 0 rfl) ?_
    refine gx_getI C g fl_X12_233 dX12_read_122 sh_11 rfl ?_
    refine lv_goto (tgt := 143) C.1 C.2.1 dX12_read_125 (by decide) ?_
    exact tX12_read_143 C hr x1 x2 (gv σ 11 14) _ _ _ _ (lv_sub hl [0, 1, 2] rfl) g h
set_option maxHeartbeats 4000000 in
set_option maxRecDepth 100000 in
theorem tX12_read_91 {p : Program} {l : Launch} {e : Env} {s : State} {m : MethodId} {args : Array Value} {below : List Frame} {meth : Method} {c : Code} {E : EE} {base : Nat} (C : Cx p E base s m args meth c cX12_read 3 RX12) (hr : meth.sig.returnType = (some .int)) {Q : Int32 → St → Prop} : ∀ (n : Nat) (x1 : Int32) (x2 : Int32) (σ : St) (H : Heap) (locs : List Loc) (ls : Array Slot), lv_has ls 3 [(0, .ref (ga E 11)), (1, .int x1), (2, .int x2)] → GW E base s σ H locs → wX12_read_91 Q n x1 x2 σ → W p l e rmX12_read s m args below meth c H locs 0 0 (MQ below (QI E base Q) args s 0 0 (fun q => base ≤ q)) (F0 m 91 ls []) := by
  intro n
  induction n with
  | zero => intro _ _; intros; exact False.elim (by assumption)
  | succ n ih =>
    intro x1 x2 σ H locs ls hl g h
    refine lv_aload_n C.1 C.2.1 dX12_read_91 rfl (lv_at hl 0 rfl) ?_
    refine gx_getI C g fl_X12_227 dX12_read_92 sh_11 rfl ?_
    refine lv_if_ne (tgt := 113) C.1 C.2.1 dX12_read_95 (by decide) (fun c1 => ?_) (fun c1 => ?_)
    · have h := h.2 c1
      exact tX12_read_113 C hr x1 x2 _ _ _ _ (lv_sub hl [0, 1, 2] rfl) g h
    · have h := h.1 c1
      refine lv_aload_n C.1 C.2.1 dX12_read_98 rfl (lv_at hl 0 rfl) ?_
      refine lv_iconst (v := 0) C.1 C.2.1 dX12_read_99 (by decide) ?_
      refine gx_calli0 g (gx_runV (k := 11) (rest := []) C g mb_X12_is ml_X12_245 rfl sh_11 (mX12_is (0 : Int32) _ _ h) ⟨Nat.le_of_ble_eq_true rfl, Nat.le_of_ble_eq_true rfl⟩ ⟨Nat.le_refl _, Nat.le_refl _⟩ rfl hl.1 rfl (Nat.le_of_ble_eq_true rfl) dX12_read_100) rfl rfl (fun r2 σ3 H locs h g => ?_)
      refine lv_if_ne (tgt := 113) C.1 C.2.1 dX12_read_103 (by decide) (fun c4 => ?_) (fun c4 => ?_)
      · have h := h.2 c4
        exact tX12_read_113 C hr x1 x2 _ _ _ _ (lv_sub hl [0, 1, 2] rfl) g h
      · have h := h.1 c4
        refine lv_aload_n C.1 C.2.1 dX12_read_106 rfl (lv_at hl 0 rfl) ?_
        refine gx_callv0 g (gx_runV (k := 11) (rest := []) C g mb_X12_tellAct ml_X12_275 rfl sh_11 (mX12_tellAct _ _ h) ⟨Nat.le_of_ble_eq_true rfl, Nat.le_of_ble_eq_true rfl⟩ ⟨Nat.le_refl _, Nat.le_refl _⟩ rfl hl.1 rfl (Nat.le_of_ble_eq_true rfl) dX12_read_107) rfl rfl (fun σ6 H locs h g => ?_)
        refine lv_goto (tgt := 91) C.1 C.2.1 dX12_read_110 (by decide) ?_
        exact ih x1 x2 _ _ _ _ (lv_sub hl [0, 1, 2] rfl) g h
set_option maxHeartbeats 4000000 in
set_option maxRecDepth 100000 in
theorem tX12_read_10 {p : Program} {l : Launch} {e : Env} {s : State} {m : MethodId} {args : Array Value} {below : List Frame} {meth : Method} {c : Code} {E : EE} {base : Nat} (C : Cx p E base s m args meth c cX12_read 3 RX12) (hr : meth.sig.returnType = (some .int)) {Q : Int32 → St → Prop} : ∀ (n : Nat) (x1 : Int32) (σ : St) (H : Heap) (locs : List Loc) (ls : Array Slot), lv_has ls 3 [(0, .ref (ga E 11)), (1, .int x1)] → GW E base s σ H locs → wX12_read_10 Q n x1 σ → W p l e rmX12_read s m args below meth c H locs 0 0 (MQ below (QI E base Q) args s 0 0 (fun q => base ≤ q)) (F0 m 10 ls []) := by
  intro n
  induction n with
  | zero => intro _; intros; exact False.elim (by assumption)
  | succ n ih =>
    intro x1 σ H locs ls hl g h
    refine lv_iload_n C.1 C.2.1 dX12_read_10 rfl (lv_at hl 1 rfl) ?_
    refine lv_aload_n C.1 C.2.1 dX12_read_11 rfl (lv_at hl 0 rfl) ?_
    refine gx_getI C g fl_X12_196 dX12_read_12 sh_11 rfl ?_
    refine lv_icmp_ge (tgt := 36) C.1 C.2.1 dX12_read_15 (by decide) (fun c1 => ?_) (fun c1 => ?_)
    · have h := h.1 c1
      refine lv_aload_n C.1 C.2.1 dX12_read_36 rfl (lv_at hl 0 rfl) ?_
      refine lv_iconst (v := 0) C.1 C.2.1 dX12_read_37 (by decide) ?_
      refine gx_putI C g fi_X12_189 dX12_read_38 sh_11 rfl (fun H locs σ2 eσ2 g => ?_)
      have h := h σ2 eσ2
      refine lv_aload_n C.1 C.2.1 dX12_read_41 rfl (lv_at hl 0 rfl) ?_
      refine gx_callv0 g (gx_runV (k := 11) (rest := []) C g mb_X12_cut ml_X12_251 rfl sh_11 (mX12_cut _ _ h) ⟨Nat.le_of_ble_eq_true rfl, Nat.le_of_ble_eq_true rfl⟩ ⟨Nat.le_refl _, Nat.le_refl _⟩ rfl hl.1 rfl (Nat.le_of_ble_eq_true rfl) dX12_read_42) rfl rfl (fun σ4 H locs h g => ?_)
      refine lv_aload_n C.1 C.2.1 dX12_read_45 rfl (lv_at hl 0 rfl) ?_
      refine lv_iconst (v := 0) C.1 C.2.1 dX12_read_46 (by decide) ?_
      refine gx_putI C g fi_X12_230 dX12_read_47 sh_11 rfl (fun H locs σ5 eσ5 g => ?_)
      have h := h σ5 eσ5
      refine lv_aload_n C.1 C.2.1 dX12_read_50 rfl (lv_at hl 0 rfl) ?_
      refine lv_iconst (v := 0) C.1 C.2.1 dX12_read_51 (by decide) ?_
      refine gx_putI C g fi_X12_254 dX12_read_52 sh_11 rfl (fun H locs σ6 eσ6 g => ?_)
      have h := h σ6 eσ6
      refine lv_aload_n C.1 C.2.1 dX12_read_55 rfl (lv_at hl 0 rfl) ?_
      refine lv_iconst (v := 0) C.1 C.2.1 dX12_read_56 (by decide) ?_
      refine gx_putI C g fi_X12_227 dX12_read_57 sh_11 rfl (fun H locs σ7 eσ7 g => ?_)
      have h := h σ7 eσ7
      refine lv_aload_n C.1 C.2.1 dX12_read_60 rfl (lv_at hl 0 rfl) ?_
      refine lv_iconst (v := 0) C.1 C.2.1 dX12_read_61 (by decide) ?_
      refine gx_putI C g fi_X12_236 dX12_read_62 sh_11 rfl (fun H locs σ8 eσ8 g => ?_)
      have h := h σ8 eσ8
      refine lv_aload_n C.1 C.2.1 dX12_read_65 rfl (lv_at hl 0 rfl) ?_
      refine lv_aload_n C.1 C.2.1 dX12_read_66 rfl (lv_at hl 0 rfl) ?_
      refine gx_getI C g fl_X12_257 dX12_read_67 sh_11 rfl ?_
      refine gx_putI C g fi_X12_260 dX12_read_70 sh_11 rfl (fun H locs σ9 eσ9 g => ?_)
      have h := h σ9 eσ9
      refine lv_aload_n C.1 C.2.1 dX12_read_73 rfl (lv_at hl 0 rfl) ?_
      refine lv_aload_n C.1 C.2.1 dX12_read_74 rfl (lv_at hl 0 rfl) ?_
      refine gx_getI C g fl_X12_263 dX12_read_75 sh_11 rfl ?_
      refine gx_putI C g fi_X12_266 dX12_read_78 sh_11 rfl (fun H locs σ10 eσ10 g => ?_)
      have h := h σ10 eσ10
      refine lv_aload_n C.1 C.2.1 dX12_read_81 rfl (lv_at hl 0 rfl) ?_
      refine gx_getI C g fl_X12_269 dX12_read_82 sh_11 rfl ?_
      refine lv_topi (fun x1_11 ex1_11 => ?_)
      have h := h x1_11 ex1_11
      refine lv_istore_n (lv' := [(1, .int x1_11), (0, .ref (ga E 11))]) C.1 C.2.1 dX12_read_85 rfl hl (by decide) rfl (fun ls hl => ?_)
      refine lv_aload_n C.1 C.2.1 dX12_read_86 rfl (lv_at hl 1 rfl) ?_
      refine gx_getI C g fl_X12_272 dX12_read_87 sh_11 rfl ?_
      refine lv_topi (fun x2_12 ex2_12 => ?_)
      have h := h x2_12 ex2_12
      refine lv_istore_n (lv' := [(2, .int x2_12), (1, .int x1_11), (0, .ref (ga E 11))]) C.1 C.2.1 dX12_read_90 rfl hl (by decide) rfl (fun ls hl => ?_)
      obtain ⟨j, h⟩ := h
      exact tX12_read_91 C hr j x1_11 x2_12 _ _ _ _ (lv_sub hl [2, 1, 0] rfl) g h
    · have h := h.2 c1
      refine lv_aload_n C.1 C.2.1 dX12_read_18 rfl (lv_at hl 0 rfl) ?_
      refine gx_getR C g fl_X12_17 dX12_read_19 sh_11 rfl (by decide) ?_
      refine lv_iload_n C.1 C.2.1 dX12_read_22 rfl (lv_at hl 1 rfl) ?_
      refine lv_aload_n C.1 C.2.1 dX12_read_23 rfl (lv_at hl 0 rfl) ?_
      refine gx_getR C g fl_X12_13 dX12_read_24 sh_11 rfl (by decide) ?_
      refine lv_iload_n C.1 C.2.1 dX12_read_27 rfl (lv_at hl 1 rfl) ?_
      obtain ⟨i13, h⟩ := h
      refine gx_bald C g dX12_read_28 sh_48 i13 ?_
      obtain ⟨i14, h⟩ := h
      refine gx_bast C g dX12_read_29 sh_49 i14 (fun H locs σ15 eσ15 g => ?_)
      have h := h σ15 eσ15
      obtain ⟨x1_16, ex1_16⟩ : ∃ y : Int32, y = x1 + 1 := ⟨_, rfl⟩
      have h := h x1_16 ex1_16
      refine lv_iinc (v := x1_16) (lv' := [(1, .int x1_16), (0, .ref (ga E 11))]) C.1 C.2.1 dX12_read_30 hl (k := 1) rfl (by rw [ex1_16]; rfl) (by decide) rfl (fun ls hl => ?_)
      refine lv_goto (tgt := 10) C.1 C.2.1 dX12_read_33 (by decide) ?_
      exact ih x1_16 _ _ _ _ (lv_sub hl [1, 0] rfl) g h
set_option maxHeartbeats 4000000 in
set_option maxRecDepth 100000 in
theorem tX12_read_e {p : Program} {l : Launch} {e : Env} {s : State} {m : MethodId} {args : Array Value} {below : List Frame} {meth : Method} {c : Code} {E : EE} {base : Nat} (C : Cx p E base s m args meth c cX12_read 3 RX12) (hr : meth.sig.returnType = (some .int)) {Q : Int32 → St → Prop} : ∀ (σ : St) (H : Heap) (locs : List Loc) (ls : Array Slot), lv_has ls 3 [(0, .ref (ga E 11))] → GW E base s σ H locs → wX12_read σ Q → W p l e rmX12_read s m args below meth c H locs 0 0 (MQ below (QI E base Q) args s 0 0 (fun q => base ≤ q)) (F0 m 0 ls []) := by
  intro σ H locs ls hl g h
  refine lv_aload_n C.1 C.2.1 dX12_read_0 rfl (lv_at hl 0 rfl) ?_
  refine lv_aload_n C.1 C.2.1 dX12_read_1 rfl (lv_at hl 0 rfl) ?_
  refine gx_getI C g fl_X12_189 dX12_read_2 sh_11 rfl ?_
  refine gx_putI C g fi_X12_196 dX12_read_5 sh_11 rfl (fun H locs σ1 eσ1 g => ?_)
  have h := h σ1 eσ1
  refine lv_iconst (v := 0) C.1 C.2.1 dX12_read_8 (by decide) ?_
  refine lv_istore_n (lv' := [(1, .int (0 : Int32)), (0, .ref (ga E 11))]) C.1 C.2.1 dX12_read_9 rfl hl (by decide) rfl (fun ls hl => ?_)
  obtain ⟨j, h⟩ := h
  exact tX12_read_10 C hr j (0 : Int32) _ _ _ _ (lv_sub hl [1, 0] rfl) g h
theorem mX12_read {l : Launch} {E : EE} {base : Nat} (σ : St) (Q : Int32 → St → Prop) (h : wX12_read σ Q) : Met l yX12_read (wy yX12_read cX12_read 3 (some .int)) rmX12_read (va_Pc [.ref (ga E 11)] (fun U => SW E base σ U)) (QI E base Q) (rmX12_read).cells (rmX12_read).slots (fun q => base ≤ q) :=
  met_of (by decide) (Nat.le_of_ble_eq_true rfl) (fun p e s m args below meth c C hr g ls hl => tX12_read_e C hr  _ _ _ _ hl g h)
abbrev rmX12_place : Room := { frames := 0, cells := 0, slots := 0, locals := 0 }
def wX12_place (σ : St) (Q : Int32 → St → Prop) : Prop := Q (gv σ 11 17) σ
set_option maxHeartbeats 4000000 in
set_option maxRecDepth 100000 in
theorem tX12_place_e {p : Program} {l : Launch} {e : Env} {s : State} {m : MethodId} {args : Array Value} {below : List Frame} {meth : Method} {c : Code} {E : EE} {base : Nat} (C : Cx p E base s m args meth c cX12_place 1 RX12) (hr : meth.sig.returnType = (some .int)) {Q : Int32 → St → Prop} : ∀ (σ : St) (H : Heap) (locs : List Loc) (ls : Array Slot), lv_has ls 1 [(0, .ref (ga E 11))] → GW E base s σ H locs → wX12_place σ Q → W p l e rmX12_place s m args below meth c H locs 0 0 (MQ below (QI E base Q) args s 0 0 (fun q => base ≤ q)) (F0 m 0 ls []) := by
  intro σ H locs ls hl g h
  refine lv_aload_n C.1 C.2.1 dX12_place_0 rfl (lv_at hl 0 rfl) ?_
  refine gx_getI C g fl_X12_37 dX12_place_1 sh_11 rfl ?_
  exact gx_iret C hr g dX12_place_4 h
theorem mX12_place {l : Launch} {E : EE} {base : Nat} (σ : St) (Q : Int32 → St → Prop) (h : wX12_place σ Q) : Met l yX12_place (wy yX12_place cX12_place 1 (some .int)) rmX12_place (va_Pc [.ref (ga E 11)] (fun U => SW E base σ U)) (QI E base Q) (rmX12_place).cells (rmX12_place).slots (fun q => base ≤ q) :=
  met_of (by decide) (Nat.le_of_ble_eq_true rfl) (fun p e s m args below meth c C hr g ls hl => tX12_place_e C hr  _ _ _ _ hl g h)
abbrev rmX12_isMill : Room := { frames := 0, cells := 0, slots := 0, locals := 0 }
def wX12_isMill (x1 : Int32) (σ : St) (Q : Int32 → St → Prop) : Prop := ((x1 < 0 → Q (0 : Int32) σ) ∧ (¬ (x1 < 0) → (((gv σ 11 43) ≤ x1 → Q (0 : Int32) σ) ∧ (¬ ((gv σ 11 43) ≤ x1) → Q (1 : Int32) σ))))
set_option maxHeartbeats 4000000 in
set_option maxRecDepth 100000 in
theorem tX12_isMill_e {p : Program} {l : Launch} {e : Env} {s : State} {m : MethodId} {args : Array Value} {below : List Frame} {meth : Method} {c : Code} {E : EE} {base : Nat} (C : Cx p E base s m args meth c cX12_isMill 2 RX12) (hr : meth.sig.returnType = (some .boolean)) {Q : Int32 → St → Prop} : ∀ (x1 : Int32) (σ : St) (H : Heap) (locs : List Loc) (ls : Array Slot), lv_has ls 2 [(0, .ref (ga E 11)), (1, .int x1)] → GW E base s σ H locs → wX12_isMill x1 σ Q → W p l e rmX12_isMill s m args below meth c H locs 0 0 (MQ below (QI E base Q) args s 0 0 (fun q => base ≤ q)) (F0 m 0 ls []) := by
  intro x1 σ H locs ls hl g h
  refine lv_iload_n C.1 C.2.1 dX12_isMill_0 rfl (lv_at hl 1 rfl) ?_
  refine lv_if_lt (tgt := 16) C.1 C.2.1 dX12_isMill_1 (by decide) (fun c1 => ?_) (fun c1 => ?_)
  · have h := h.1 c1
    refine lv_iconst (v := 0) C.1 C.2.1 dX12_isMill_16 (by decide) ?_
    exact gx_zret C hr g dX12_isMill_17 (by decide) h
  · have h := h.2 c1
    refine lv_iload_n C.1 C.2.1 dX12_isMill_4 rfl (lv_at hl 1 rfl) ?_
    refine lv_aload_n C.1 C.2.1 dX12_isMill_5 rfl (lv_at hl 0 rfl) ?_
    refine gx_getI C g fl_X12_307 dX12_isMill_6 sh_11 rfl ?_
    refine lv_icmp_ge (tgt := 16) C.1 C.2.1 dX12_isMill_9 (by decide) (fun c2 => ?_) (fun c2 => ?_)
    · have h := h.1 c2
      refine lv_iconst (v := 0) C.1 C.2.1 dX12_isMill_16 (by decide) ?_
      exact gx_zret C hr g dX12_isMill_17 (by decide) h
    · have h := h.2 c2
      refine lv_iconst (v := 1) C.1 C.2.1 dX12_isMill_12 (by decide) ?_
      refine lv_goto (tgt := 17) C.1 C.2.1 dX12_isMill_13 (by decide) ?_
      exact gx_zret C hr g dX12_isMill_17 (by decide) h
theorem mX12_isMill {l : Launch} {E : EE} {base : Nat} (x1 : Int32) (σ : St) (Q : Int32 → St → Prop) (h : wX12_isMill x1 σ Q) : Met l yX12_isMill (wy yX12_isMill cX12_isMill 2 (some .boolean)) rmX12_isMill (va_Pc [.ref (ga E 11), .int x1] (fun U => SW E base σ U)) (QI E base Q) (rmX12_isMill).cells (rmX12_isMill).slots (fun q => base ≤ q) :=
  met_of (by decide) (Nat.le_of_ble_eq_true rfl) (fun p e s m args below meth c C hr g ls hl => tX12_isMill_e C hr x1 _ _ _ _ hl g h)
abbrev rmX12_mill : Room := { frames := 1, cells := 0, slots := 0, locals := 20 }
def wX12_mill (x1 : Int32) (x2 : Int32) (x3 : Int32) (x4 : Int32) (σ : St) (Q : Int32 → St → Prop) : Prop := (((gv σ 11 43) = (7 : Int32) → Q (-1 : Int32) σ) ∧ (¬ ((gv σ 11 43) = (7 : Int32)) → (((gv σ 11 51) = 0 → ((x1 < (1 : Int32) → Q (-1 : Int32) σ) ∧ (¬ (x1 < (1 : Int32)) → (((1000 : Int32) < x1 → Q (-1 : Int32) σ) ∧ (¬ ((1000 : Int32) < x1) → ((x2 < 0 → Q (-1 : Int32) σ) ∧ (¬ (x2 < 0) → ((x1 < x2 → Q (-1 : Int32) σ) ∧ (¬ (x1 < x2) → ((x3 < (1 : Int32) → Q (-1 : Int32) σ) ∧ (¬ (x3 < (1 : Int32)) → (((4 : Int32) < x3 → Q (-1 : Int32) σ) ∧ (¬ ((4 : Int32) < x3) → ((x4 < 0 → Q (-1 : Int32) σ) ∧ (¬ (x4 < 0) → ((x4 ≤ (9 : Int32) → vp_in (gv σ 11 43) 7 ∧ ∀ σ12 : St, σ12 = pv σ 73 (gv σ 11 43).toNatClampNeg x1 → vp_in (gv σ12 11 43) 7 ∧ ∀ σ14 : St, σ14 = pv σ12 74 (gv σ12 11 43).toNatClampNeg x2 → vp_in (gv σ14 11 43) 7 ∧ ∀ σ16 : St, σ16 = pv σ14 75 (gv σ14 11 43).toNatClampNeg x3 → vp_in (gv σ16 11 43) 7 ∧ ∀ σ18 : St, σ18 = pv σ16 76 (gv σ16 11 43).toNatClampNeg x4 → ∀ σ19 : St, σ19 = pv σ18 11 43 ((gv σ18 11 43) + (1 : Int32)) → wX12_changes σ19 (fun (σ21 : St) => Q ((gv σ21 11 43) - (1 : Int32)) σ21)) ∧ (¬ (x4 ≤ (9 : Int32)) → Q (-1 : Int32) σ))))))))))))))))) ∧ (¬ ((gv σ 11 51) = 0) → Q (-1 : Int32) σ))))
set_option maxHeartbeats 4000000 in
set_option maxRecDepth 100000 in
theorem tX12_mill_e {p : Program} {l : Launch} {e : Env} {s : State} {m : MethodId} {args : Array Value} {below : List Frame} {meth : Method} {c : Code} {E : EE} {base : Nat} (C : Cx p E base s m args meth c cX12_mill 5 RX12) (hr : meth.sig.returnType = (some .int)) {Q : Int32 → St → Prop} : ∀ (x1 : Int32) (x2 : Int32) (x3 : Int32) (x4 : Int32) (σ : St) (H : Heap) (locs : List Loc) (ls : Array Slot), lv_has ls 5 [(0, .ref (ga E 11)), (1, .int x1), (2, .int x2), (3, .int x3), (4, .int x4)] → GW E base s σ H locs → wX12_mill x1 x2 x3 x4 σ Q → W p l e rmX12_mill s m args below meth c H locs 0 0 (MQ below (QI E base Q) args s 0 0 (fun q => base ≤ q)) (F0 m 0 ls []) := by
  intro x1 x2 x3 x4 σ H locs ls hl g h
  refine lv_aload_n C.1 C.2.1 dX12_mill_0 rfl (lv_at hl 0 rfl) ?_
  refine gx_getI C g fl_X12_307 dX12_mill_1 sh_11 rfl ?_
  refine lv_bipush (v := 7) C.1 C.2.1 dX12_mill_4 (by decide) ?_
  refine lv_icmp_eq (tgt := 59) C.1 C.2.1 dX12_mill_6 (by decide) (fun c1 => ?_) (fun c1 => ?_)
  · have h := h.1 c1
    refine lv_iconst (v := -1) C.1 C.2.1 dX12_mill_59 (by decide) ?_
    exact gx_iret C hr g dX12_mill_60 h
  · have h := h.2 c1
    refine lv_aload_n C.1 C.2.1 dX12_mill_9 rfl (lv_at hl 0 rfl) ?_
    refine gx_getI C g fl_X12_310 dX12_mill_10 sh_11 rfl ?_
    refine lv_if_ne (tgt := 59) C.1 C.2.1 dX12_mill_13 (by decide) (fun c2 => ?_) (fun c2 => ?_)
    · have h := h.2 c2
      refine lv_iconst (v := -1) C.1 C.2.1 dX12_mill_59 (by decide) ?_
      exact gx_iret C hr g dX12_mill_60 h
    · have h := h.1 c2
      refine lv_iload_n C.1 C.2.1 dX12_mill_16 rfl (lv_at hl 1 rfl) ?_
      refine lv_iconst (v := 1) C.1 C.2.1 dX12_mill_17 (by decide) ?_
      refine lv_icmp_lt (tgt := 59) C.1 C.2.1 dX12_mill_18 (by decide) (fun c3 => ?_) (fun c3 => ?_)
      · have h := h.1 c3
        refine lv_iconst (v := -1) C.1 C.2.1 dX12_mill_59 (by decide) ?_
        exact gx_iret C hr g dX12_mill_60 h
      · have h := h.2 c3
        refine lv_iload_n C.1 C.2.1 dX12_mill_21 rfl (lv_at hl 1 rfl) ?_
        refine lv_sipush (v := 1000) C.1 C.2.1 dX12_mill_22 (by decide) ?_
        refine lv_icmp_gt (tgt := 59) C.1 C.2.1 dX12_mill_25 (by decide) (fun c4 => ?_) (fun c4 => ?_)
        · have h := h.1 c4
          refine lv_iconst (v := -1) C.1 C.2.1 dX12_mill_59 (by decide) ?_
          exact gx_iret C hr g dX12_mill_60 h
        · have h := h.2 c4
          refine lv_iload_n C.1 C.2.1 dX12_mill_28 rfl (lv_at hl 2 rfl) ?_
          refine lv_if_lt (tgt := 59) C.1 C.2.1 dX12_mill_29 (by decide) (fun c5 => ?_) (fun c5 => ?_)
          · have h := h.1 c5
            refine lv_iconst (v := -1) C.1 C.2.1 dX12_mill_59 (by decide) ?_
            exact gx_iret C hr g dX12_mill_60 h
          · have h := h.2 c5
            refine lv_iload_n C.1 C.2.1 dX12_mill_32 rfl (lv_at hl 2 rfl) ?_
            refine lv_iload_n C.1 C.2.1 dX12_mill_33 rfl (lv_at hl 1 rfl) ?_
            refine lv_icmp_gt (tgt := 59) C.1 C.2.1 dX12_mill_34 (by decide) (fun c6 => ?_) (fun c6 => ?_)
            · have h := h.1 c6
              refine lv_iconst (v := -1) C.1 C.2.1 dX12_mill_59 (by decide) ?_
              exact gx_iret C hr g dX12_mill_60 h
            · have h := h.2 c6
              refine lv_iload_n C.1 C.2.1 dX12_mill_37 rfl (lv_at hl 3 rfl) ?_
              refine lv_iconst (v := 1) C.1 C.2.1 dX12_mill_38 (by decide) ?_
              refine lv_icmp_lt (tgt := 59) C.1 C.2.1 dX12_mill_39 (by decide) (fun c7 => ?_) (fun c7 => ?_)
              · have h := h.1 c7
                refine lv_iconst (v := -1) C.1 C.2.1 dX12_mill_59 (by decide) ?_
                exact gx_iret C hr g dX12_mill_60 h
              · have h := h.2 c7
                refine lv_iload_n C.1 C.2.1 dX12_mill_42 rfl (lv_at hl 3 rfl) ?_
                refine lv_iconst (v := 4) C.1 C.2.1 dX12_mill_43 (by decide) ?_
                refine lv_icmp_gt (tgt := 59) C.1 C.2.1 dX12_mill_44 (by decide) (fun c8 => ?_) (fun c8 => ?_)
                · have h := h.1 c8
                  refine lv_iconst (v := -1) C.1 C.2.1 dX12_mill_59 (by decide) ?_
                  exact gx_iret C hr g dX12_mill_60 h
                · have h := h.2 c8
                  refine lv_iload C.1 C.2.1 dX12_mill_47 (lv_at hl 4 rfl) ?_
                  refine lv_if_lt (tgt := 59) C.1 C.2.1 dX12_mill_49 (by decide) (fun c9 => ?_) (fun c9 => ?_)
                  · have h := h.1 c9
                    refine lv_iconst (v := -1) C.1 C.2.1 dX12_mill_59 (by decide) ?_
                    exact gx_iret C hr g dX12_mill_60 h
                  · have h := h.2 c9
                    refine lv_iload C.1 C.2.1 dX12_mill_52 (lv_at hl 4 rfl) ?_
                    refine lv_bipush (v := 9) C.1 C.2.1 dX12_mill_54 (by decide) ?_
                    refine lv_icmp_le (tgt := 61) C.1 C.2.1 dX12_mill_56 (by decide) (fun c10 => ?_) (fun c10 => ?_)
                    · have h := h.1 c10
                      refine lv_aload_n C.1 C.2.1 dX12_mill_61 rfl (lv_at hl 0 rfl) ?_
                      refine gx_getR C g fl_X12_95 dX12_mill_62 sh_11 rfl (by decide) ?_
                      refine lv_aload_n C.1 C.2.1 dX12_mill_65 rfl (lv_at hl 0 rfl) ?_
                      refine gx_getI C g fl_X12_307 dX12_mill_66 sh_11 rfl ?_
                      refine lv_iload_n C.1 C.2.1 dX12_mill_69 rfl (lv_at hl 1 rfl) ?_
                      obtain ⟨i11, h⟩ := h
                      refine gx_iast C g dX12_mill_70 sh_73 i11 (fun H locs σ12 eσ12 g => ?_)
                      have h := h σ12 eσ12
                      refine lv_aload_n C.1 C.2.1 dX12_mill_71 rfl (lv_at hl 0 rfl) ?_
                      refine gx_getR C g fl_X12_98 dX12_mill_72 sh_11 rfl (by decide) ?_
                      refine lv_aload_n C.1 C.2.1 dX12_mill_75 rfl (lv_at hl 0 rfl) ?_
                      refine gx_getI C g fl_X12_307 dX12_mill_76 sh_11 rfl ?_
                      refine lv_iload_n C.1 C.2.1 dX12_mill_79 rfl (lv_at hl 2 rfl) ?_
                      obtain ⟨i13, h⟩ := h
                      refine gx_iast C g dX12_mill_80 sh_74 i13 (fun H locs σ14 eσ14 g => ?_)
                      have h := h σ14 eσ14
                      refine lv_aload_n C.1 C.2.1 dX12_mill_81 rfl (lv_at hl 0 rfl) ?_
                      refine gx_getR C g fl_X12_101 dX12_mill_82 sh_11 rfl (by decide) ?_
                      refine lv_aload_n C.1 C.2.1 dX12_mill_85 rfl (lv_at hl 0 rfl) ?_
                      refine gx_getI C g fl_X12_307 dX12_mill_86 sh_11 rfl ?_
                      refine lv_iload_n C.1 C.2.1 dX12_mill_89 rfl (lv_at hl 3 rfl) ?_
                      obtain ⟨i15, h⟩ := h
                      refine gx_iast C g dX12_mill_90 sh_75 i15 (fun H locs σ16 eσ16 g => ?_)
                      have h := h σ16 eσ16
                      refine lv_aload_n C.1 C.2.1 dX12_mill_91 rfl (lv_at hl 0 rfl) ?_
                      refine gx_getR C g fl_X12_104 dX12_mill_92 sh_11 rfl (by decide) ?_
                      refine lv_aload_n C.1 C.2.1 dX12_mill_95 rfl (lv_at hl 0 rfl) ?_
                      refine gx_getI C g fl_X12_307 dX12_mill_96 sh_11 rfl ?_
                      refine lv_iload C.1 C.2.1 dX12_mill_99 (lv_at hl 4 rfl) ?_
                      obtain ⟨i17, h⟩ := h
                      refine gx_iast C g dX12_mill_101 sh_76 i17 (fun H locs σ18 eσ18 g => ?_)
                      have h := h σ18 eσ18
                      refine lv_aload_n C.1 C.2.1 dX12_mill_102 rfl (lv_at hl 0 rfl) ?_
                      refine lv_dup C.1 C.2.1 dX12_mill_103 rfl ?_
                      refine gx_getI C g fl_X12_307 dX12_mill_104 sh_11 rfl ?_
                      refine lv_iconst (v := 1) C.1 C.2.1 dX12_mill_107 (by decide) ?_
                      refine lv_iadd C.1 C.2.1 dX12_mill_108 ?_
                      refine gx_putI C g fi_X12_307 dX12_mill_109 sh_11 rfl (fun H locs σ19 eσ19 g => ?_)
                      have h := h σ19 eσ19
                      refine lv_aload_n C.1 C.2.1 dX12_mill_112 rfl (lv_at hl 0 rfl) ?_
                      refine gx_callv0 g (gx_runV (k := 11) (rest := []) C g mb_X12_changes ml_X12_278 rfl sh_11 (mX12_changes _ _ h) ⟨Nat.le_of_ble_eq_true rfl, Nat.le_of_ble_eq_true rfl⟩ ⟨Nat.le_refl _, Nat.le_refl _⟩ rfl hl.1 rfl (Nat.le_of_ble_eq_true rfl) dX12_mill_113) rfl rfl (fun σ21 H locs h g => ?_)
                      refine lv_aload_n C.1 C.2.1 dX12_mill_116 rfl (lv_at hl 0 rfl) ?_
                      refine gx_getI C g fl_X12_307 dX12_mill_117 sh_11 rfl ?_
                      refine lv_iconst (v := 1) C.1 C.2.1 dX12_mill_120 (by decide) ?_
                      refine lv_isub C.1 C.2.1 dX12_mill_121 ?_
                      exact gx_iret C hr g dX12_mill_122 h
                    · have h := h.2 c10
                      refine lv_iconst (v := -1) C.1 C.2.1 dX12_mill_59 (by decide) ?_
                      exact gx_iret C hr g dX12_mill_60 h
theorem mX12_mill {l : Launch} {E : EE} {base : Nat} (x1 : Int32) (x2 : Int32) (x3 : Int32) (x4 : Int32) (σ : St) (Q : Int32 → St → Prop) (h : wX12_mill x1 x2 x3 x4 σ Q) : Met l yX12_mill (wy yX12_mill cX12_mill 5 (some .int)) rmX12_mill (va_Pc [.ref (ga E 11), .int x1, .int x2, .int x3, .int x4] (fun U => SW E base σ U)) (QI E base Q) (rmX12_mill).cells (rmX12_mill).slots (fun q => base ≤ q) :=
  met_of (by decide) (Nat.le_of_ble_eq_true rfl) (fun p e s m args below meth c C hr g ls hl => tX12_mill_e C hr x1 x2 x3 x4 _ _ _ _ hl g h)
abbrev rmX12_spring : Room := { frames := 1, cells := 0, slots := 0, locals := 20 }
def wX12_spring (x1 : Int32) (σ : St) (Q : Int32 → St → Prop) : Prop := ((x1 < 0 → Q (0 : Int32) σ) ∧ (¬ (x1 < 0) → ((x1 ≤ (100 : Int32) → ∀ σ3 : St, σ3 = pv σ 11 48 x1 → wX12_changes σ3 (fun (σ5 : St) => Q (1 : Int32) σ5)) ∧ (¬ (x1 ≤ (100 : Int32)) → Q (0 : Int32) σ))))
set_option maxHeartbeats 4000000 in
set_option maxRecDepth 100000 in
theorem tX12_spring_e {p : Program} {l : Launch} {e : Env} {s : State} {m : MethodId} {args : Array Value} {below : List Frame} {meth : Method} {c : Code} {E : EE} {base : Nat} (C : Cx p E base s m args meth c cX12_spring 2 RX12) (hr : meth.sig.returnType = (some .boolean)) {Q : Int32 → St → Prop} : ∀ (x1 : Int32) (σ : St) (H : Heap) (locs : List Loc) (ls : Array Slot), lv_has ls 2 [(0, .ref (ga E 11)), (1, .int x1)] → GW E base s σ H locs → wX12_spring x1 σ Q → W p l e rmX12_spring s m args below meth c H locs 0 0 (MQ below (QI E base Q) args s 0 0 (fun q => base ≤ q)) (F0 m 0 ls []) := by
  intro x1 σ H locs ls hl g h
  refine lv_iload_n C.1 C.2.1 dX12_spring_0 rfl (lv_at hl 1 rfl) ?_
  refine lv_if_lt (tgt := 10) C.1 C.2.1 dX12_spring_1 (by decide) (fun c1 => ?_) (fun c1 => ?_)
  · have h := h.1 c1
    refine lv_iconst (v := 0) C.1 C.2.1 dX12_spring_10 (by decide) ?_
    exact gx_zret C hr g dX12_spring_11 (by decide) h
  · have h := h.2 c1
    refine lv_iload_n C.1 C.2.1 dX12_spring_4 rfl (lv_at hl 1 rfl) ?_
    refine lv_bipush (v := 100) C.1 C.2.1 dX12_spring_5 (by decide) ?_
    refine lv_icmp_le (tgt := 12) C.1 C.2.1 dX12_spring_7 (by decide) (fun c2 => ?_) (fun c2 => ?_)
    · have h := h.1 c2
      refine lv_aload_n C.1 C.2.1 dX12_spring_12 rfl (lv_at hl 0 rfl) ?_
      refine lv_iload_n C.1 C.2.1 dX12_spring_13 rfl (lv_at hl 1 rfl) ?_
      refine gx_putI C g fi_X12_313 dX12_spring_14 sh_11 rfl (fun H locs σ3 eσ3 g => ?_)
      have h := h σ3 eσ3
      refine lv_aload_n C.1 C.2.1 dX12_spring_17 rfl (lv_at hl 0 rfl) ?_
      refine gx_callv0 g (gx_runV (k := 11) (rest := []) C g mb_X12_changes ml_X12_278 rfl sh_11 (mX12_changes _ _ h) ⟨Nat.le_of_ble_eq_true rfl, Nat.le_of_ble_eq_true rfl⟩ ⟨Nat.le_refl _, Nat.le_refl _⟩ rfl hl.1 rfl (Nat.le_of_ble_eq_true rfl) dX12_spring_18) rfl rfl (fun σ5 H locs h g => ?_)
      refine lv_iconst (v := 1) C.1 C.2.1 dX12_spring_21 (by decide) ?_
      exact gx_zret C hr g dX12_spring_22 (by decide) h
    · have h := h.2 c2
      refine lv_iconst (v := 0) C.1 C.2.1 dX12_spring_10 (by decide) ?_
      exact gx_zret C hr g dX12_spring_11 (by decide) h
theorem mX12_spring {l : Launch} {E : EE} {base : Nat} (x1 : Int32) (σ : St) (Q : Int32 → St → Prop) (h : wX12_spring x1 σ Q) : Met l yX12_spring (wy yX12_spring cX12_spring 2 (some .boolean)) rmX12_spring (va_Pc [.ref (ga E 11), .int x1] (fun U => SW E base σ U)) (QI E base Q) (rmX12_spring).cells (rmX12_spring).slots (fun q => base ≤ q) :=
  met_of (by decide) (Nat.le_of_ble_eq_true rfl) (fun p e s m args below meth c C hr g ls hl => tX12_spring_e C hr x1 _ _ _ _ hl g h)
abbrev rmX12_factors : Room := { frames := 1, cells := 0, slots := 0, locals := 20 }
def wX12_factors_25 (Q : Int32 → St → Prop) : Nat → Int32 → St → Prop
  | 0, _, _ => False
  | n + 1, x2, σ => (((20 : Int32) ≤ x2 → wX12_changes σ (fun (σ3 : St) => Q (1 : Int32) σ3)) ∧ (¬ ((20 : Int32) ≤ x2) → vp_in x2 20 ∧ ∀ σ5 : St, σ5 = pv σ 77 x2.toNatClampNeg (1 : Int32) → ∀ x2_6 : Int32, x2_6 = x2 + 1 → wX12_factors_25 Q n x2_6 σ5))
def wX12_factors_18 (Q : Int32 → St → Prop) (x1 : Int32) (σ : St) : Prop := ∀ σ1 : St, σ1 = pv σ 11 49 x1 → ∃ j : Nat, wX12_factors_25 Q j (0 : Int32) σ1
def wX12_factors (x1 : Int32) (σ : St) (Q : Int32 → St → Prop) : Prop := ((x1 = (-1 : Int32) → wX12_factors_18 Q x1 σ) ∧ (¬ (x1 = (-1 : Int32)) → ((x1 < (1 : Int32) → Q (0 : Int32) σ) ∧ (¬ (x1 < (1 : Int32)) → ((x1 ≤ (20 : Int32) → wX12_factors_18 Q x1 σ) ∧ (¬ (x1 ≤ (20 : Int32)) → Q (0 : Int32) σ))))))
set_option maxHeartbeats 4000000 in
set_option maxRecDepth 100000 in
theorem tX12_factors_25 {p : Program} {l : Launch} {e : Env} {s : State} {m : MethodId} {args : Array Value} {below : List Frame} {meth : Method} {c : Code} {E : EE} {base : Nat} (C : Cx p E base s m args meth c cX12_factors 3 RX12) (hr : meth.sig.returnType = (some .boolean)) {Q : Int32 → St → Prop} : ∀ (n : Nat) (x2 : Int32) (σ : St) (H : Heap) (locs : List Loc) (ls : Array Slot), lv_has ls 3 [(0, .ref (ga E 11)), (2, .int x2)] → GW E base s σ H locs → wX12_factors_25 Q n x2 σ → W p l e rmX12_factors s m args below meth c H locs 0 0 (MQ below (QI E base Q) args s 0 0 (fun q => base ≤ q)) (F0 m 25 ls []) := by
  intro n
  induction n with
  | zero => intro _; intros; exact False.elim (by assumption)
  | succ n ih =>
    intro x2 σ H locs ls hl g h
    refine lv_iload_n C.1 C.2.1 dX12_factors_25 rfl (lv_at hl 1 rfl) ?_
    refine lv_bipush (v := 20) C.1 C.2.1 dX12_factors_26 (by decide) ?_
    refine lv_icmp_ge (tgt := 44) C.1 C.2.1 dX12_factors_28 (by decide) (fun c1 => ?_) (fun c1 => ?_)
    · have h := h.1 c1
      refine lv_aload_n C.1 C.2.1 dX12_factors_44 rfl (lv_at hl 0 rfl) ?_
      refine gx_callv0 g (gx_runV (k := 11) (rest := []) C g mb_X12_changes ml_X12_278 rfl sh_11 (mX12_changes _ _ h) ⟨Nat.le_of_ble_eq_true rfl, Nat.le_of_ble_eq_true rfl⟩ ⟨Nat.le_refl _, Nat.le_refl _⟩ rfl hl.1 rfl (Nat.le_of_ble_eq_true rfl) dX12_factors_45) rfl rfl (fun σ3 H locs h g => ?_)
      refine lv_iconst (v := 1) C.1 C.2.1 dX12_factors_48 (by decide) ?_
      exact gx_zret C hr g dX12_factors_49 (by decide) h
    · have h := h.2 c1
      refine lv_aload_n C.1 C.2.1 dX12_factors_31 rfl (lv_at hl 0 rfl) ?_
      refine gx_getR C g fl_X12_107 dX12_factors_32 sh_11 rfl (by decide) ?_
      refine lv_iload_n C.1 C.2.1 dX12_factors_35 rfl (lv_at hl 1 rfl) ?_
      refine lv_iconst (v := 1) C.1 C.2.1 dX12_factors_36 (by decide) ?_
      obtain ⟨i4, h⟩ := h
      refine gx_iast C g dX12_factors_37 sh_77 i4 (fun H locs σ5 eσ5 g => ?_)
      have h := h σ5 eσ5
      obtain ⟨x2_6, ex2_6⟩ : ∃ y : Int32, y = x2 + 1 := ⟨_, rfl⟩
      have h := h x2_6 ex2_6
      refine lv_iinc (v := x2_6) (lv' := [(2, .int x2_6), (0, .ref (ga E 11))]) C.1 C.2.1 dX12_factors_38 hl (k := 1) rfl (by rw [ex2_6]; rfl) (by decide) rfl (fun ls hl => ?_)
      refine lv_goto (tgt := 25) C.1 C.2.1 dX12_factors_41 (by decide) ?_
      exact ih x2_6 _ _ _ _ (lv_sub hl [1, 0] rfl) g h
set_option maxHeartbeats 4000000 in
set_option maxRecDepth 100000 in
theorem tX12_factors_18 {p : Program} {l : Launch} {e : Env} {s : State} {m : MethodId} {args : Array Value} {below : List Frame} {meth : Method} {c : Code} {E : EE} {base : Nat} (C : Cx p E base s m args meth c cX12_factors 3 RX12) (hr : meth.sig.returnType = (some .boolean)) {Q : Int32 → St → Prop} : ∀ (x1 : Int32) (σ : St) (H : Heap) (locs : List Loc) (ls : Array Slot), lv_has ls 3 [(0, .ref (ga E 11)), (1, .int x1)] → GW E base s σ H locs → wX12_factors_18 Q x1 σ → W p l e rmX12_factors s m args below meth c H locs 0 0 (MQ below (QI E base Q) args s 0 0 (fun q => base ≤ q)) (F0 m 18 ls []) := by
  intro x1 σ H locs ls hl g h
  refine lv_aload_n C.1 C.2.1 dX12_factors_18 rfl (lv_at hl 0 rfl) ?_
  refine lv_iload_n C.1 C.2.1 dX12_factors_19 rfl (lv_at hl 1 rfl) ?_
  refine gx_putI C g fi_X12_186 dX12_factors_20 sh_11 rfl (fun H locs σ1 eσ1 g => ?_)
  have h := h σ1 eσ1
  refine lv_iconst (v := 0) C.1 C.2.1 dX12_factors_23 (by decide) ?_
  refine lv_istore_n (lv' := [(2, .int (0 : Int32)), (0, .ref (ga E 11)), (1, .int x1)]) C.1 C.2.1 dX12_factors_24 rfl hl (by decide) rfl (fun ls hl => ?_)
  obtain ⟨j, h⟩ := h
  exact tX12_factors_25 C hr j (0 : Int32) _ _ _ _ (lv_sub hl [1, 0] rfl) g h
set_option maxHeartbeats 4000000 in
set_option maxRecDepth 100000 in
theorem tX12_factors_e {p : Program} {l : Launch} {e : Env} {s : State} {m : MethodId} {args : Array Value} {below : List Frame} {meth : Method} {c : Code} {E : EE} {base : Nat} (C : Cx p E base s m args meth c cX12_factors 3 RX12) (hr : meth.sig.returnType = (some .boolean)) {Q : Int32 → St → Prop} : ∀ (x1 : Int32) (σ : St) (H : Heap) (locs : List Loc) (ls : Array Slot), lv_has ls 3 [(0, .ref (ga E 11)), (1, .int x1)] → GW E base s σ H locs → wX12_factors x1 σ Q → W p l e rmX12_factors s m args below meth c H locs 0 0 (MQ below (QI E base Q) args s 0 0 (fun q => base ≤ q)) (F0 m 0 ls []) := by
  intro x1 σ H locs ls hl g h
  refine lv_iload_n C.1 C.2.1 dX12_factors_0 rfl (lv_at hl 1 rfl) ?_
  refine lv_iconst (v := -1) C.1 C.2.1 dX12_factors_1 (by decide) ?_
  refine lv_icmp_eq (tgt := 18) C.1 C.2.1 dX12_factors_2 (by decide) (fun c1 => ?_) (fun c1 => ?_)
  · have h := h.1 c1
    exact tX12_factors_18 C hr x1 _ _ _ _ (lv_sub hl [0, 1] rfl) g h
  · have h := h.2 c1
    refine lv_iload_n C.1 C.2.1 dX12_factors_5 rfl (lv_at hl 1 rfl) ?_
    refine lv_iconst (v := 1) C.1 C.2.1 dX12_factors_6 (by decide) ?_
    refine lv_icmp_lt (tgt := 16) C.1 C.2.1 dX12_factors_7 (by decide) (fun c2 => ?_) (fun c2 => ?_)
    · have h := h.1 c2
      refine lv_iconst (v := 0) C.1 C.2.1 dX12_factors_16 (by decide) ?_
      exact gx_zret C hr g dX12_factors_17 (by decide) h
    · have h := h.2 c2
      refine lv_iload_n C.1 C.2.1 dX12_factors_10 rfl (lv_at hl 1 rfl) ?_
      refine lv_bipush (v := 20) C.1 C.2.1 dX12_factors_11 (by decide) ?_
      refine lv_icmp_le (tgt := 18) C.1 C.2.1 dX12_factors_13 (by decide) (fun c3 => ?_) (fun c3 => ?_)
      · have h := h.1 c3
        exact tX12_factors_18 C hr x1 _ _ _ _ (lv_sub hl [0, 1] rfl) g h
      · have h := h.2 c3
        refine lv_iconst (v := 0) C.1 C.2.1 dX12_factors_16 (by decide) ?_
        exact gx_zret C hr g dX12_factors_17 (by decide) h
theorem mX12_factors {l : Launch} {E : EE} {base : Nat} (x1 : Int32) (σ : St) (Q : Int32 → St → Prop) (h : wX12_factors x1 σ Q) : Met l yX12_factors (wy yX12_factors cX12_factors 3 (some .boolean)) rmX12_factors (va_Pc [.ref (ga E 11), .int x1] (fun U => SW E base σ U)) (QI E base Q) (rmX12_factors).cells (rmX12_factors).slots (fun q => base ≤ q) :=
  met_of (by decide) (Nat.le_of_ble_eq_true rfl) (fun p e s m args below meth c C hr g ls hl => tX12_factors_e C hr x1 _ _ _ _ hl g h)
