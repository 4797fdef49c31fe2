abbrev rmX1_add : Room := { frames := 0, cells := 0, slots := 0, locals := 0 }
def wX1_add (x1 : Int32) (x2 : Int32) (x3 : Int32) (σ : St) (Q : Int32 → St → Prop) : Prop := (((gv σ 9 5) < (60 : Int32) → vp_in (gv σ 9 5) 60 ∧ ∀ σ3 : St, σ3 = pv σ 39 (gv σ 9 5).toNatClampNeg x1 → vp_in (gv σ3 9 5) 60 ∧ ∀ σ5 : St, σ5 = pv σ3 40 (gv σ3 9 5).toNatClampNeg x2 → vp_in (gv σ5 9 5) 60 ∧ ∀ σ7 : St, σ7 = pv σ5 41 (gv σ5 9 5).toNatClampNeg x3 → ∀ σ8 : St, σ8 = pv σ7 9 5 ((gv σ7 9 5) + (1 : Int32)) → Q ((gv σ8 9 5) - (1 : Int32)) σ8) ∧ (¬ ((gv σ 9 5) < (60 : Int32)) → Q (-1 : Int32) σ))
set_option maxHeartbeats 4000000 in
set_option maxRecDepth 100000 in
theorem tX1_add_e {p : Program} {l : Launch} {e : Env} {s : State} {m : MethodId} {args : Array Value} {below : List Frame} {meth : Method} {c : Code} {E : EE} {base : Nat} (C : Cx p E base s m args meth c cX1_add 4 RX1) (hr : meth.sig.returnType = (some .int)) {Q : Int32 → St → Prop} : ∀ (x1 : Int32) (x2 : Int32) (x3 : Int32) (σ : St) (H : Heap) (locs : List Loc) (ls : Array Slot), lv_has ls 4 [(0, .ref (ga E 9)), (1, .int x1), (2, .int x2), (3, .int x3)] → GW E base s σ H locs → wX1_add x1 x2 x3 σ Q → W p l e rmX1_add s m args below meth c H locs 0 0 (MQ below (QI E base Q) args s 0 0 (fun q => base ≤ q)) (F0 m 0 ls []) := by
  intro x1 x2 x3 σ H locs ls hl g h
  refine lv_aload_n C.1 C.2.1 dX1_add_0 rfl (lv_at hl 0 rfl) ?_
  refine gx_getI C g fl_X1_27 dX1_add_1 sh_9 rfl ?_
  refine lv_bipush (v := 60) C.1 C.2.1 dX1_add_4 (by decide) ?_
  refine lv_icmp_lt (tgt := 11) C.1 C.2.1 dX1_add_6 (by decide) (fun c1 => ?_) (fun c1 => ?_)
  · have h := h.1 c1
    refine lv_aload_n C.1 C.2.1 dX1_add_11 rfl (lv_at hl 0 rfl) ?_
    refine gx_getR C g fl_X1_11 dX1_add_12 sh_9 rfl (by decide) ?_
    refine lv_aload_n C.1 C.2.1 dX1_add_15 rfl (lv_at hl 0 rfl) ?_
    refine gx_getI C g fl_X1_27 dX1_add_16 sh_9 rfl ?_
    refine lv_iload_n C.1 C.2.1 dX1_add_19 rfl (lv_at hl 1 rfl) ?_
    obtain ⟨i2, h⟩ := h
    refine gx_iast C g dX1_add_20 sh_39 i2 (fun H locs σ3 eσ3 g => ?_)
    have h := h σ3 eσ3
    refine lv_aload_n C.1 C.2.1 dX1_add_21 rfl (lv_at hl 0 rfl) ?_
    refine gx_getR C g fl_X1_15 dX1_add_22 sh_9 rfl (by decide) ?_
    refine lv_aload_n C.1 C.2.1 dX1_add_25 rfl (lv_at hl 0 rfl) ?_
    refine gx_getI C g fl_X1_27 dX1_add_26 sh_9 rfl ?_
    refine lv_iload_n C.1 C.2.1 dX1_add_29 rfl (lv_at hl 2 rfl) ?_
    obtain ⟨i4, h⟩ := h
    refine gx_iast C g dX1_add_30 sh_40 i4 (fun H locs σ5 eσ5 g => ?_)
    have h := h σ5 eσ5
    refine lv_aload_n C.1 C.2.1 dX1_add_31 rfl (lv_at hl 0 rfl) ?_
    refine gx_getR C g fl_X1_18 dX1_add_32 sh_9 rfl (by decide) ?_
    refine lv_aload_n C.1 C.2.1 dX1_add_35 rfl (lv_at hl 0 rfl) ?_
    refine gx_getI C g fl_X1_27 dX1_add_36 sh_9 rfl ?_
    refine lv_iload_n C.1 C.2.1 dX1_add_39 rfl (lv_at hl 3 rfl) ?_
    obtain ⟨i6, h⟩ := h
    refine gx_iast C g dX1_add_40 sh_41 i6 (fun H locs σ7 eσ7 g => ?_)
    have h := h σ7 eσ7
    refine lv_aload_n C.1 C.2.1 dX1_add_41 rfl (lv_at hl 0 rfl) ?_
    refine lv_dup C.1 C.2.1 dX1_add_42 rfl ?_
    refine gx_getI C g fl_X1_27 dX1_add_43 sh_9 rfl ?_
    refine lv_iconst (v := 1) C.1 C.2.1 dX1_add_46 (by decide) ?_
    refine lv_iadd C.1 C.2.1 dX1_add_47 ?_
    refine gx_putI C g fi_X1_27 dX1_add_48 sh_9 rfl (fun H locs σ8 eσ8 g => ?_)
    have h := h σ8 eσ8
    refine lv_aload_n C.1 C.2.1 dX1_add_51 rfl (lv_at hl 0 rfl) ?_
    refine gx_getI C g fl_X1_27 dX1_add_52 sh_9 rfl ?_
    refine lv_iconst (v := 1) C.1 C.2.1 dX1_add_55 (by decide) ?_
    refine lv_isub C.1 C.2.1 dX1_add_56 ?_
    exact gx_iret C hr g dX1_add_57 h
  · have h := h.2 c1
    refine lv_iconst (v := -1) C.1 C.2.1 dX1_add_9 (by decide) ?_
    exact gx_iret C hr g dX1_add_10 h
theorem mX1_add {l : Launch} {E : EE} {base : Nat} (x1 : Int32) (x2 : Int32) (x3 : Int32) (σ : St) (Q : Int32 → St → Prop) (h : wX1_add x1 x2 x3 σ Q) : Met l yX1_add (wy yX1_add cX1_add 4 (some .int)) rmX1_add (va_Pc [.ref (ga E 9), .int x1, .int x2, .int x3] (fun U => SW E base σ U)) (QI E base Q) (rmX1_add).cells (rmX1_add).slots (fun q => base ≤ q) :=
  met_of (by decide) (Nat.le_of_ble_eq_true rfl) (fun p e s m args below meth c C hr g ls hl => tX1_add_e C hr x1 x2 x3 _ _ _ _ hl g h)
abbrev rmX1_restart : Room := { frames := 1, cells := 0, slots := 0, locals := 23 }
def wX1_restart (σ : St) (Q : St → Prop) : Prop := ∀ σ1 : St, σ1 = pa σ 42 (fun _ => (0 : Int32)) → ∀ σ2 : St, σ2 = pa σ1 43 (fun _ => (-1 : Int32)) → Q σ2
set_option maxHeartbeats 4000000 in
set_option maxRecDepth 100000 in
theorem tX1_restart_e {p : Program} {l : Launch} {e : Env} {s : State} {m : MethodId} {args : Array Value} {below : List Frame} {meth : Method} {c : Code} {E : EE} {base : Nat} (C : Cx p E base s m args meth c cX1_restart 1 RX1) (hr : meth.sig.returnType = none) {Q : St → Prop} : ∀ (σ : St) (H : Heap) (locs : List Loc) (ls : Array Slot), lv_has ls 1 [(0, .ref (ga E 9))] → GW E base s σ H locs → wX1_restart σ Q → W p l e rmX1_restart s m args below meth c H locs 0 0 (MQ below (QV E base Q) args s 0 0 (fun q => base ≤ q)) (F0 m 0 ls []) := by
  intro σ H locs ls hl g h
  refine lv_aload_n C.1 C.2.1 dX1_restart_0 rfl (lv_at hl 0 rfl) ?_
  refine gx_getR C g fl_X1_21 dX1_restart_1 sh_9 rfl (by decide) ?_
  refine lv_iconst (v := 0) C.1 C.2.1 dX1_restart_4 (by decide) ?_
  refine gx_callv0 g (gx_runS (rest := []) C g ms_J7_fill_53178 ml_X1_31 (mFill (k := 42) (n := 60) sh_42 (by decide) (0 : Int32) (QQ := fun τ => τ = pa σ 42 (fun _ => (0 : Int32))) rfl) ⟨Nat.le_of_ble_eq_true rfl, Nat.le_of_ble_eq_true rfl⟩ ⟨Nat.le_refl _, Nat.le_refl _⟩ rfl hl.1 rfl (Nat.le_of_ble_eq_true rfl) dX1_restart_5) rfl rfl (fun σ1 H locs eσ1 g => ?_)
  have h := h σ1 eσ1
  refine lv_aload_n C.1 C.2.1 dX1_restart_8 rfl (lv_at hl 0 rfl) ?_
  refine gx_getR C g fl_X1_24 dX1_restart_9 sh_9 rfl (by decide) ?_
  refine lv_iconst (v := -1) C.1 C.2.1 dX1_restart_12 (by decide) ?_
  refine gx_callv0 g (gx_runS (rest := []) C g ms_J7_fill_53178 ml_X1_31 (mFill (k := 43) (n := 60) sh_43 (by decide) (-1 : Int32) (QQ := fun τ => τ = pa σ1 43 (fun _ => (-1 : Int32))) rfl) ⟨Nat.le_of_ble_eq_true rfl, Nat.le_of_ble_eq_true rfl⟩ ⟨Nat.le_refl _, Nat.le_refl _⟩ rfl hl.1 rfl (Nat.le_of_ble_eq_true rfl) dX1_restart_13) rfl rfl (fun σ2 H locs eσ2 g => ?_)
  have h := h σ2 eσ2
  exact gx_vret C hr g dX1_restart_16 h
theorem mX1_restart {l : Launch} {E : EE} {base : Nat} (σ : St) (Q : St → Prop) (h : wX1_restart σ Q) : Met l yX1_restart (wy yX1_restart cX1_restart 1 none) rmX1_restart (va_Pc [.ref (ga E 9)] (fun U => SW E base σ U)) (QV E base Q) (rmX1_restart).cells (rmX1_restart).slots (fun q => base ≤ q) :=
  met_of (by decide) (Nat.le_of_ble_eq_true rfl) (fun p e s m args below meth c C hr g ls hl => tX1_restart_e C hr  _ _ _ _ hl g h)
abbrev rmX1_take : Room := { frames := 1, cells := 0, slots := 0, locals := 13 }
def wX1_take_119 (Q : St → Prop) (K6 : Int32 → Int32 → Int32 → Int32 → St → Prop) (x1 : Int32) (x2 : Int32) (x4 : Int32) (x5 : Int32) (σ : St) : Prop := ∀ x5_1 : Int32, x5_1 = x5 + 1 → K6 x1 x2 x4 x5_1 σ
def wX1_take_6 (Q : St → Prop) : Nat → Int32 → Int32 → Int32 → Int32 → St → Prop
  | 0, _, _, _, _, _ => False
  | n + 1, x1, x2, x4, x5, σ => (((gv σ 9 5) ≤ x5 → Q σ) ∧ (¬ ((gv σ 9 5) ≤ x5) → ((x4 ≤ 0 → Q σ) ∧ (¬ (x4 ≤ 0) → vp_in x5 60 ∧ (((gv σ 40 x5.toNatClampNeg) = x1 → vp_in x5 60 ∧ ((x2 < (gv σ 39 x5.toNatClampNeg) → wX1_take_119 Q (fun x1' x2' x4' x5' σ' => wX1_take_6 Q n x1' x2' x4' x5' σ') x1 x2 x4 x5 σ) ∧ (¬ (x2 < (gv σ 39 x5.toNatClampNeg)) → vp_in x5 60 ∧ (((gv σ 43 x5.toNatClampNeg) = (-1 : Int32) → vp_in x5 60 ∧ vp_in x5 60 ∧ ∀ x6_11 : Int32, x6_11 = jmin x4 ((gv σ 41 x5.toNatClampNeg) - (gv σ 42 x5.toNatClampNeg)) → vp_in x5 60 ∧ vp_in x5 60 ∧ ∀ σ14 : St, σ14 = pv σ 42 x5.toNatClampNeg ((gv σ 42 x5.toNatClampNeg) + x6_11) → ∀ x4_15 : Int32, x4_15 = x4 - x6_11 → vp_in x5 60 ∧ vp_in x5 60 ∧ (((gv σ14 42 x5.toNatClampNeg) = (gv σ14 41 x5.toNatClampNeg) → vp_in x5 60 ∧ ∀ σ20 : St, σ20 = pv σ14 43 x5.toNatClampNeg x2 → wX1_take_119 Q (fun x1' x2' x4' x5' σ' => wX1_take_6 Q n x1' x2' x4' x5' σ') x1 x2 x4_15 x5 σ20) ∧ (¬ ((gv σ14 42 x5.toNatClampNeg) = (gv σ14 41 x5.toNatClampNeg)) → wX1_take_119 Q (fun x1' x2' x4' x5' σ' => wX1_take_6 Q n x1' x2' x4' x5' σ') x1 x2 x4_15 x5 σ14))) ∧ (¬ ((gv σ 43 x5.toNatClampNeg) = (-1 : Int32)) → wX1_take_119 Q (fun x1' x2' x4' x5' σ' => wX1_take_6 Q n x1' x2' x4' x5' σ') x1 x2 x4 x5 σ))))) ∧ (¬ ((gv σ 40 x5.toNatClampNeg) = x1) → wX1_take_119 Q (fun x1' x2' x4' x5' σ' => wX1_take_6 Q n x1' x2' x4' x5' σ') x1 x2 x4 x5 σ))))))
def wX1_take (x1 : Int32) (x2 : Int32) (x3 : Int32) (σ : St) (Q : St → Prop) : Prop := ∃ j : Nat, wX1_take_6 Q j x1 x2 x3 (0 : Int32) σ
set_option maxHeartbeats 4000000 in
set_option maxRecDepth 100000 in
theorem tX1_take_119 {p : Program} {l : Launch} {e : Env} {s : State} {m : MethodId} {args : Array Value} {below : List Frame} {meth : Method} {c : Code} {E : EE} {base : Nat} (C : Cx p E base s m args meth c cX1_take 7 RX1) (hr : meth.sig.returnType = none) {Q : St → Prop} {K6 : Int32 → Int32 → Int32 → Int32 → St → Prop} (hK6 : ∀ (x1 : Int32) (x2 : Int32) (x4 : Int32) (x5 : Int32) (σ : St) (H : Heap) (locs : List Loc) (ls : Array Slot), lv_has ls 7 [(0, .ref (ga E 9)), (1, .int x1), (2, .int x2), (4, .int x4), (5, .int x5)] → GW E base s σ H locs → K6 x1 x2 x4 x5 σ → W p l e rmX1_take s m args below meth c H locs 0 0 (MQ below (QV E base Q) args s 0 0 (fun q => base ≤ q)) (F0 m 6 ls [])) : ∀ (x1 : Int32) (x2 : Int32) (x4 : Int32) (x5 : Int32) (σ : St) (H : Heap) (locs : List Loc) (ls : Array Slot), lv_has ls 7 [(0, .ref (ga E 9)), (1, .int x1), (2, .int x2), (4, .int x4), (5, .int x5)] → GW E base s σ H locs → wX1_take_119 Q K6 x1 x2 x4 x5 σ → W p l e rmX1_take s m args below meth c H locs 0 0 (MQ below (QV E base Q) args s 0 0 (fun q => base ≤ q)) (F0 m 119 ls []) := by
  intro x1 x2 x4 x5 σ H locs ls hl g h
  obtain ⟨x5_1, ex5_1⟩ : ∃ y : Int32, y = x5 + 1 := ⟨_, rfl⟩
  have h := h x5_1 ex5_1
  refine lv_iinc (v := x5_1) (lv' := [(5, .int x5_1), (0, .ref (ga E 9)), (1, .int x1), (2, .int x2), (4, .int x4)]) C.1 C.2.1 dX1_take_119 hl (k := 4) rfl (by rw [ex5_1]; rfl) (by decide) rfl (fun ls hl => ?_)
  refine lv_goto (tgt := 6) C.1 C.2.1 dX1_take_122 (by decide) ?_
  exact hK6 x1 x2 x4 x5_1 _ _ _ _ (lv_sub hl [1, 2, 3, 4, 0] rfl) g h
set_option maxHeartbeats 4000000 in
set_option maxRecDepth 100000 in
theorem tX1_take_6 {p : Program} {l : Launch} {e : Env} {s : State} {m : MethodId} {args : Array Value} {below : List Frame} {meth : Method} {c : Code} {E : EE} {base : Nat} (C : Cx p E base s m args meth c cX1_take 7 RX1) (hr : meth.sig.returnType = none) {Q : St → Prop} : ∀ (n : Nat) (x1 : Int32) (x2 : Int32) (x4 : Int32) (x5 : Int32) (σ : St) (H : Heap) (locs : List Loc) (ls : Array Slot), lv_has ls 7 [(0, .ref (ga E 9)), (1, .int x1), (2, .int x2), (4, .int x4), (5, .int x5)] → GW E base s σ H locs → wX1_take_6 Q n x1 x2 x4 x5 σ → W p l e rmX1_take s m args below meth c H locs 0 0 (MQ below (QV E base Q) args s 0 0 (fun q => base ≤ q)) (F0 m 6 ls []) := by
  intro n
  induction n with
  | zero => intro _ _ _ _; intros; exact False.elim (by assumption)
  | succ n ih =>
    intro x1 x2 x4 x5 σ H locs ls hl g h
    refine lv_iload C.1 C.2.1 dX1_take_6 (lv_at hl 4 rfl) ?_
    refine lv_aload_n C.1 C.2.1 dX1_take_8 rfl (lv_at hl 0 rfl) ?_
    refine gx_getI C g fl_X1_27 dX1_take_9 sh_9 rfl ?_
    refine lv_icmp_ge (tgt := 125) C.1 C.2.1 dX1_take_12 (by decide) (fun c1 => ?_) (fun c1 => ?_)
    · have h := h.1 c1
      exact gx_vret C hr g dX1_take_125 h
    · have h := h.2 c1
      refine lv_iload C.1 C.2.1 dX1_take_15 (lv_at hl 3 rfl) ?_
      refine lv_if_le (tgt := 125) C.1 C.2.1 dX1_take_17 (by decide) (fun c2 => ?_) (fun c2 => ?_)
      · have h := h.1 c2
        exact gx_vret C hr g dX1_take_125 h
      · have h := h.2 c2
        refine lv_aload_n C.1 C.2.1 dX1_take_20 rfl (lv_at hl 0 rfl) ?_
        refine gx_getR C g fl_X1_15 dX1_take_21 sh_9 rfl (by decide) ?_
        refine lv_iload C.1 C.2.1 dX1_take_24 (lv_at hl 4 rfl) ?_
        obtain ⟨i3, h⟩ := h
        refine gx_iald C g dX1_take_26 sh_40 i3 ?_
        refine lv_iload_n C.1 C.2.1 dX1_take_27 rfl (lv_at hl 1 rfl) ?_
        refine lv_icmp_ne (tgt := 119) C.1 C.2.1 dX1_take_28 (by decide) (fun c4 => ?_) (fun c4 => ?_)
        · have h := h.2 c4
          exact tX1_take_119 C hr ih x1 x2 x4 x5 _ _ _ _ (lv_sub hl [0, 1, 2, 3, 4] rfl) g h
        · have h := h.1 c4
          refine lv_aload_n C.1 C.2.1 dX1_take_31 rfl (lv_at hl 0 rfl) ?_
          refine gx_getR C g fl_X1_11 dX1_take_32 sh_9 rfl (by decide) ?_
          refine lv_iload C.1 C.2.1 dX1_take_35 (lv_at hl 4 rfl) ?_
          obtain ⟨i5, h⟩ := h
          refine gx_iald C g dX1_take_37 sh_39 i5 ?_
          refine lv_iload_n C.1 C.2.1 dX1_take_38 rfl (lv_at hl 2 rfl) ?_
          refine lv_icmp_gt (tgt := 119) C.1 C.2.1 dX1_take_39 (by decide) (fun c6 => ?_) (fun c6 => ?_)
          · have h := h.1 c6
            exact tX1_take_119 C hr ih x1 x2 x4 x5 _ _ _ _ (lv_sub hl [0, 1, 2, 3, 4] rfl) g h
          · have h := h.2 c6
            refine lv_aload_n C.1 C.2.1 dX1_take_42 rfl (lv_at hl 0 rfl) ?_
            refine gx_getR C g fl_X1_24 dX1_take_43 sh_9 rfl (by decide) ?_
            refine lv_iload C.1 C.2.1 dX1_take_46 (lv_at hl 4 rfl) ?_
            obtain ⟨i7, h⟩ := h
            refine gx_iald C g dX1_take_48 sh_43 i7 ?_
            refine lv_iconst (v := -1) C.1 C.2.1 dX1_take_49 (by decide) ?_
            refine lv_icmp_ne (tgt := 119) C.1 C.2.1 dX1_take_50 (by decide) (fun c8 => ?_) (fun c8 => ?_)
            · have h := h.2 c8
              exact tX1_take_119 C hr ih x1 x2 x4 x5 _ _ _ _ (lv_sub hl [0, 1, 2, 3, 4] rfl) g h
            · have h := h.1 c8
              refine lv_iload C.1 C.2.1 dX1_take_53 (lv_at hl 3 rfl) ?_
              refine lv_aload_n C.1 C.2.1 dX1_take_55 rfl (lv_at hl 0 rfl) ?_
              refine gx_getR C g fl_X1_18 dX1_take_56 sh_9 rfl (by decide) ?_
              refine lv_iload C.1 C.2.1 dX1_take_59 (lv_at hl 4 rfl) ?_
              obtain ⟨i9, h⟩ := h
              refine gx_iald C g dX1_take_61 sh_41 i9 ?_
              refine lv_aload_n C.1 C.2.1 dX1_take_62 rfl (lv_at hl 0 rfl) ?_
              refine gx_getR C g fl_X1_21 dX1_take_63 sh_9 rfl (by decide) ?_
              refine lv_iload C.1 C.2.1 dX1_take_66 (lv_at hl 4 rfl) ?_
              obtain ⟨i10, h⟩ := h
              refine gx_iald C g dX1_take_68 sh_42 i10 ?_
              refine lv_isub C.1 C.2.1 dX1_take_69 ?_
              refine gx_min (rest := []) C ml_X1_37 hl.1 (Nat.le_of_ble_eq_true rfl) (Nat.le_of_ble_eq_true rfl) (Nat.le_refl _) (Nat.le_refl _) dX1_take_70 ?_
              refine lv_topi (fun x6_11 ex6_11 => ?_)
              have h := h x6_11 ex6_11
              refine lv_istore (lv' := [(6, .int x6_11), (0, .ref (ga E 9)), (1, .int x1), (2, .int x2), (4, .int x4), (5, .int x5)]) C.1 C.2.1 dX1_take_73 hl (by decide) rfl (fun ls hl => ?_)
              refine lv_aload_n C.1 C.2.1 dX1_take_75 rfl (lv_at hl 1 rfl) ?_
              refine gx_getR C g fl_X1_21 dX1_take_76 sh_9 rfl (by decide) ?_
              refine lv_iload C.1 C.2.1 dX1_take_79 (lv_at hl 5 rfl) ?_
              refine lv_dup2_11 C.1 C.2.1 dX1_take_81 rfl rfl ?_
              obtain ⟨i12, h⟩ := h
              refine gx_iald C g dX1_take_82 sh_42 i12 ?_
              refine lv_iload C.1 C.2.1 dX1_take_83 (lv_at hl 0 rfl) ?_
              refine lv_iadd C.1 C.2.1 dX1_take_85 ?_
              obtain ⟨i13, h⟩ := h
              refine gx_iast C g dX1_take_86 sh_42 i13 (fun H locs σ14 eσ14 g => ?_)
              have h := h σ14 eσ14
              refine lv_iload C.1 C.2.1 dX1_take_87 (lv_at hl 4 rfl) ?_
              refine lv_iload C.1 C.2.1 dX1_take_89 (lv_at hl 0 rfl) ?_
              refine lv_isub C.1 C.2.1 dX1_take_91 ?_
              refine lv_topi (fun x4_15 ex4_15 => ?_)
              have h := h x4_15 ex4_15
              refine lv_istore (lv' := [(4, .int x4_15), (6, .int x6_11), (0, .ref (ga E 9)), (1, .int x1), (2, .int x2), (5, .int x5)]) C.1 C.2.1 dX1_take_92 hl (by decide) rfl (fun ls hl => ?_)
              refine lv_aload_n C.1 C.2.1 dX1_take_94 rfl (lv_at hl 2 rfl) ?_
              refine gx_getR C g fl_X1_21 dX1_take_95 sh_9 rfl (by decide) ?_
              refine lv_iload C.1 C.2.1 dX1_take_98 (lv_at hl 5 rfl) ?_
              obtain ⟨i16, h⟩ := h
              refine gx_iald C g dX1_take_100 sh_42 i16 ?_
              refine lv_aload_n C.1 C.2.1 dX1_take_101 rfl (lv_at hl 2 rfl) ?_
              refine gx_getR C g fl_X1_18 dX1_take_102 sh_9 rfl (by decide) ?_
              refine lv_iload C.1 C.2.1 dX1_take_105 (lv_at hl 5 rfl) ?_
              obtain ⟨i17, h⟩ := h
              refine gx_iald C g dX1_take_107 sh_41 i17 ?_
              refine lv_icmp_ne (tgt := 119) C.1 C.2.1 dX1_take_108 (by decide) (fun c18 => ?_) (fun c18 => ?_)
              · have h := h.2 c18
                exact tX1_take_119 C hr ih x1 x2 x4_15 x5 _ _ _ _ (lv_sub hl [2, 3, 4, 0, 5] rfl) g h
              · have h := h.1 c18
                refine lv_aload_n C.1 C.2.1 dX1_take_111 rfl (lv_at hl 2 rfl) ?_
                refine gx_getR C g fl_X1_24 dX1_take_112 sh_9 rfl (by decide) ?_
                refine lv_iload C.1 C.2.1 dX1_take_115 (lv_at hl 5 rfl) ?_
                refine lv_iload_n C.1 C.2.1 dX1_take_117 rfl (lv_at hl 4 rfl) ?_
                obtain ⟨i19, h⟩ := h
                refine gx_iast C g dX1_take_118 sh_43 i19 (fun H locs σ20 eσ20 g => ?_)
                have h := h σ20 eσ20
                exact tX1_take_119 C hr ih x1 x2 x4_15 x5 _ _ _ _ (lv_sub hl [2, 3, 4, 0, 5] rfl) g h
set_option maxHeartbeats 4000000 in
set_option maxRecDepth 100000 in
theorem tX1_take_e {p : Program} {l : Launch} {e : Env} {s : State} {m : MethodId} {args : Array Value} {below : List Frame} {meth : Method} {c : Code} {E : EE} {base : Nat} (C : Cx p E base s m args meth c cX1_take 7 RX1) (hr : meth.sig.returnType = none) {Q : St → Prop} : ∀ (x1 : Int32) (x2 : Int32) (x3 : Int32) (σ : St) (H : Heap) (locs : List Loc) (ls : Array Slot), lv_has ls 7 [(0, .ref (ga E 9)), (1, .int x1), (2, .int x2), (3, .int x3)] → GW E base s σ H locs → wX1_take x1 x2 x3 σ Q → W p l e rmX1_take s m args below meth c H locs 0 0 (MQ below (QV E base Q) args s 0 0 (fun q => base ≤ q)) (F0 m 0 ls []) := by
  intro x1 x2 x3 σ H locs ls hl g h
  refine lv_iload_n C.1 C.2.1 dX1_take_0 rfl (lv_at hl 3 rfl) ?_
  refine lv_istore (lv' := [(4, .int x3), (0, .ref (ga E 9)), (1, .int x1), (2, .int x2), (3, .int x3)]) C.1 C.2.1 dX1_take_1 hl (by decide) rfl (fun ls hl => ?_)
  refine lv_iconst (v := 0) C.1 C.2.1 dX1_take_3 (by decide) ?_
  refine lv_istore (lv' := [(5, .int (0 : Int32)), (4, .int x3), (0, .ref (ga E 9)), (1, .int x1), (2, .int x2), (3, .int x3)]) C.1 C.2.1 dX1_take_4 hl (by decide) rfl (fun ls hl => ?_)
  obtain ⟨j, h⟩ := h
  exact tX1_take_6 C hr j x1 x2 x3 (0 : Int32) _ _ _ _ (lv_sub hl [2, 3, 4, 1, 0] rfl) g h
theorem mX1_take {l : Launch} {E : EE} {base : Nat} (x1 : Int32) (x2 : Int32) (x3 : Int32) (σ : St) (Q : St → Prop) (h : wX1_take x1 x2 x3 σ Q) : Met l yX1_take (wy yX1_take cX1_take 7 none) rmX1_take (va_Pc [.ref (ga E 9), .int x1, .int x2, .int x3] (fun U => SW E base σ U)) (QV E base Q) (rmX1_take).cells (rmX1_take).slots (fun q => base ≤ q) :=
  met_of (by decide) (Nat.le_of_ble_eq_true rfl) (fun p e s m args below meth c C hr g ls hl => tX1_take_e C hr x1 x2 x3 _ _ _ _ hl g h)
abbrev rmX1_tollsOf : Room := { frames := 0, cells := 0, slots := 0, locals := 0 }
def wX1_tollsOf_46 (Q : Int32 → St → Prop) (K4 : Int32 → Int32 → Int32 → St → Prop) (x1 : Int32) (x3 : Int32) (xt0 : Int32) (xt1 : Int32) (σ : St) : Prop := ∀ x2_1 : Int32, x2_1 = xt0 + xt1 → ∀ x3_2 : Int32, x3_2 = x3 + 1 → K4 x1 x2_1 x3_2 σ
def wX1_tollsOf_45 (Q : Int32 → St → Prop) (K4 : Int32 → Int32 → Int32 → St → Prop) (x1 : Int32) (x3 : Int32) (xt0 : Int32) (σ : St) : Prop := wX1_tollsOf_46 Q K4 x1 x3 xt0 (0 : Int32) σ
def wX1_tollsOf_4 (Q : Int32 → St → Prop) : Nat → Int32 → Int32 → Int32 → St → Prop
  | 0, _, _, _, _ => False
  | n + 1, x1, x2, x3, σ => (((gv σ 9 5) ≤ x3 → Q x2 σ) ∧ (¬ ((gv σ 9 5) ≤ x3) → vp_in x3 60 ∧ (((gv σ 40 x3.toNatClampNeg) = x1 → vp_in x3 60 ∧ (((gv σ 43 x3.toNatClampNeg) = (-1 : Int32) → wX1_tollsOf_45 Q (fun x1' x2' x3' σ' => wX1_tollsOf_4 Q n x1' x2' x3' σ') x1 x3 x2 σ) ∧ (¬ ((gv σ 43 x3.toNatClampNeg) = (-1 : Int32)) → vp_in x3 60 ∧ wX1_tollsOf_46 Q (fun x1' x2' x3' σ' => wX1_tollsOf_4 Q n x1' x2' x3' σ') x1 x3 x2 ((gv σ 41 x3.toNatClampNeg) / (16 : Int32)) σ))) ∧ (¬ ((gv σ 40 x3.toNatClampNeg) = x1) → wX1_tollsOf_45 Q (fun x1' x2' x3' σ' => wX1_tollsOf_4 Q n x1' x2' x3' σ') x1 x3 x2 σ))))
def wX1_tollsOf (x1 : Int32) (σ : St) (Q : Int32 → St → Prop) : Prop := ∃ j : Nat, wX1_tollsOf_4 Q j x1 (0 : Int32) (0 : Int32) σ
set_option maxHeartbeats 4000000 in
set_option maxRecDepth 100000 in
theorem tX1_tollsOf_46 {p : Program} {l : Launch} {e : Env} {s : State} {m : MethodId} {args : Array Value} {below : List Frame} {meth : Method} {c : Code} {E : EE} {base : Nat} (C : Cx p E base s m args meth c cX1_tollsOf 4 RX1) (hr : meth.sig.returnType = (some .int)) {Q : Int32 → St → Prop} {K4 : Int32 → Int32 → Int32 → St → Prop} (hK4 : ∀ (x1 : Int32) (x2 : Int32) (x3 : Int32) (σ : St) (H : Heap) (locs : List Loc) (ls : Array Slot), lv_has ls 4 [(0, .ref (ga E 9)), (1, .int x1), (2, .int x2), (3, .int x3)] → GW E base s σ H locs → K4 x1 x2 x3 σ → W p l e rmX1_tollsOf s m args below meth c H locs 0 0 (MQ below (QI E base Q) args s 0 0 (fun q => base ≤ q)) (F0 m 4 ls [])) : ∀ (x1 : Int32) (x3 : Int32) (xt0 : Int32) (xt1 : Int32) (σ : St) (H : Heap) (locs : List Loc) (ls : Array Slot), lv_has ls 4 [(0, .ref (ga E 9)), (1, .int x1), (3, .int x3)] → GW E base s σ H locs → wX1_tollsOf_46 Q K4 x1 x3 xt0 xt1 σ → W p l e rmX1_tollsOf s m args below meth c H locs 0 0 (MQ below (QI E base Q) args s 0 0 (fun q => base ≤ q)) (F0 m 46 ls [.int xt1, .int xt0]) := by
  intro x1 x3 xt0 xt1 σ H locs ls hl g h
  refine lv_iadd C.1 C.2.1 dX1_tollsOf_46 ?_
  refine lv_topi (fun x2_1 ex2_1 => ?_)
  have h := h x2_1 ex2_1
  refine lv_istore_n (lv' := [(2, .int x2_1), (0, .ref (ga E 9)), (1, .int x1), (3, .int x3)]) C.1 C.2.1 dX1_tollsOf_47 rfl hl (by decide) rfl (fun ls hl => ?_)
  obtain ⟨x3_2, ex3_2⟩ : ∃ y : Int32, y = x3 + 1 := ⟨_, rfl⟩
  have h := h x3_2 ex3_2
  refine lv_iinc (v := x3_2) (lv' := [(3, .int x3_2), (2, .int x2_1), (0, .ref (ga E 9)), (1, .int x1)]) C.1 C.2.1 dX1_tollsOf_48 hl (k := 3) rfl (by rw [ex3_2]; rfl) (by decide) rfl (fun ls hl => ?_)
  refine lv_goto (tgt := 4) C.1 C.2.1 dX1_tollsOf_51 (by decide) ?_
  exact hK4 x1 x2_1 x3_2 _ _ _ _ (lv_sub hl [2, 3, 1, 0] rfl) g h
set_option maxHeartbeats 4000000 in
set_option maxRecDepth 100000 in
theorem tX1_tollsOf_45 {p : Program} {l : Launch} {e : Env} {s : State} {m : MethodId} {args : Array Value} {below : List Frame} {meth : Method} {c : Code} {E : EE} {base : Nat} (C : Cx p E base s m args meth c cX1_tollsOf 4 RX1) (hr : meth.sig.returnType = (some .int)) {Q : Int32 → St → Prop} {K4 : Int32 → Int32 → Int32 → St → Prop} (hK4 : ∀ (x1 : Int32) (x2 : Int32) (x3 : Int32) (σ : St) (H : Heap) (locs : List Loc) (ls : Array Slot), lv_has ls 4 [(0, .ref (ga E 9)), (1, .int x1), (2, .int x2), (3, .int x3)] → GW E base s σ H locs → K4 x1 x2 x3 σ → W p l e rmX1_tollsOf s m args below meth c H locs 0 0 (MQ below (QI E base Q) args s 0 0 (fun q => base ≤ q)) (F0 m 4 ls [])) : ∀ (x1 : Int32) (x3 : Int32) (xt0 : Int32) (σ : St) (H : Heap) (locs : List Loc) (ls : Array Slot), lv_has ls 4 [(0, .ref (ga E 9)), (1, .int x1), (3, .int x3)] → GW E base s σ H locs → wX1_tollsOf_45 Q K4 x1 x3 xt0 σ → W p l e rmX1_tollsOf s m args below meth c H locs 0 0 (MQ below (QI E base Q) args s 0 0 (fun q => base ≤ q)) (F0 m 45 ls [.int xt0]) := by
  intro x1 x3 xt0 σ H locs ls hl g h
  refine lv_iconst (v := 0) C.1 C.2.1 dX1_tollsOf_45 (by decide) ?_
  exact tX1_tollsOf_46 C hr hK4 x1 x3 xt0 (0 : Int32) _ _ _ _ (lv_sub hl [0, 1, 2] rfl) g h
set_option maxHeartbeats 4000000 in
set_option maxRecDepth 100000 in
theorem tX1_tollsOf_4 {p : Program} {l : Launch} {e : Env} {s : State} {m : MethodId} {args : Array Value} {below : List Frame} {meth : Method} {c : Code} {E : EE} {base : Nat} (C : Cx p E base s m args meth c cX1_tollsOf 4 RX1) (hr : meth.sig.returnType = (some .int)) {Q : Int32 → St → Prop} : ∀ (n : Nat) (x1 : Int32) (x2 : Int32) (x3 : Int32) (σ : St) (H : Heap) (locs : List Loc) (ls : Array Slot), lv_has ls 4 [(0, .ref (ga E 9)), (1, .int x1), (2, .int x2), (3, .int x3)] → GW E base s σ H locs → wX1_tollsOf_4 Q n x1 x2 x3 σ → W p l e rmX1_tollsOf s m args below meth c H locs 0 0 (MQ below (QI E base Q) args s 0 0 (fun q => base ≤ q)) (F0 m 4 ls []) := by
  intro n
  induction n with
  | zero => intro _ _ _; intros; exact False.elim (by assumption)
  | succ n ih =>
    intro x1 x2 x3 σ H locs ls hl g h
    refine lv_iload_n C.1 C.2.1 dX1_tollsOf_4 rfl (lv_at hl 3 rfl) ?_
    refine lv_aload_n C.1 C.2.1 dX1_tollsOf_5 rfl (lv_at hl 0 rfl) ?_
    refine gx_getI C g fl_X1_27 dX1_tollsOf_6 sh_9 rfl ?_
    refine lv_icmp_ge (tgt := 54) C.1 C.2.1 dX1_tollsOf_9 (by decide) (fun c1 => ?_) (fun c1 => ?_)
    · have h := h.1 c1
      refine lv_iload_n C.1 C.2.1 dX1_tollsOf_54 rfl (lv_at hl 2 rfl) ?_
      exact gx_iret C hr g dX1_tollsOf_55 h
    · have h := h.2 c1
      refine lv_iload_n C.1 C.2.1 dX1_tollsOf_12 rfl (lv_at hl 2 rfl) ?_
      refine lv_aload_n C.1 C.2.1 dX1_tollsOf_13 rfl (lv_at hl 0 rfl) ?_
      refine gx_getR C g fl_X1_15 dX1_tollsOf_14 sh_9 rfl (by decide) ?_
      refine lv_iload_n C.1 C.2.1 dX1_tollsOf_17 rfl (lv_at hl 3 rfl) ?_
      obtain ⟨i2, h⟩ := h
      refine gx_iald C g dX1_tollsOf_18 sh_40 i2 ?_
      refine lv_iload_n C.1 C.2.1 dX1_tollsOf_19 rfl (lv_at hl 1 rfl) ?_
      refine lv_icmp_ne (tgt := 45) C.1 C.2.1 dX1_tollsOf_20 (by decide) (fun c3 => ?_) (fun c3 => ?_)
      · have h := h.2 c3
        exact tX1_tollsOf_45 C hr ih x1 x3 x2 _ _ _ _ (lv_sub hl [0, 1, 3] rfl) g h
      · have h := h.1 c3
        refine lv_aload_n C.1 C.2.1 dX1_tollsOf_23 rfl (lv_at hl 0 rfl) ?_
        refine gx_getR C g fl_X1_24 dX1_tollsOf_24 sh_9 rfl (by decide) ?_
        refine lv_iload_n C.1 C.2.1 dX1_tollsOf_27 rfl (lv_at hl 3 rfl) ?_
        obtain ⟨i4, h⟩ := h
        refine gx_iald C g dX1_tollsOf_28 sh_43 i4 ?_
        refine lv_iconst (v := -1) C.1 C.2.1 dX1_tollsOf_29 (by decide) ?_
        refine lv_icmp_eq (tgt := 45) C.1 C.2.1 dX1_tollsOf_30 (by decide) (fun c5 => ?_) (fun c5 => ?_)
        · have h := h.1 c5
          exact tX1_tollsOf_45 C hr ih x1 x3 x2 _ _ _ _ (lv_sub hl [0, 1, 3] rfl) g h
        · have h := h.2 c5
          refine lv_aload_n C.1 C.2.1 dX1_tollsOf_33 rfl (lv_at hl 0 rfl) ?_
          refine gx_getR C g fl_X1_18 dX1_tollsOf_34 sh_9 rfl (by decide) ?_
          refine lv_iload_n C.1 C.2.1 dX1_tollsOf_37 rfl (lv_at hl 3 rfl) ?_
          obtain ⟨i6, h⟩ := h
          refine gx_iald C g dX1_tollsOf_38 sh_41 i6 ?_
          refine lv_bipush (v := 16) C.1 C.2.1 dX1_tollsOf_39 (by decide) ?_
          refine lv_idiv C.1 C.2.1 dX1_tollsOf_41 (by decide) ?_
          refine lv_goto (tgt := 46) C.1 C.2.1 dX1_tollsOf_42 (by decide) ?_
          exact tX1_tollsOf_46 C hr ih x1 x3 x2 ((gv σ 41 x3.toNatClampNeg) / (16 : Int32)) _ _ _ _ (lv_sub hl [0, 1, 3] rfl) g h
set_option maxHeartbeats 4000000 in
set_option maxRecDepth 100000 in
theorem tX1_tollsOf_e {p : Program} {l : Launch} {e : Env} {s : State} {m : MethodId} {args : Array Value} {below : List Frame} {meth : Method} {c : Code} {E : EE} {base : Nat} (C : Cx p E base s m args meth c cX1_tollsOf 4 RX1) (hr : meth.sig.returnType = (some .int)) {Q : Int32 → St → Prop} : ∀ (x1 : Int32) (σ : St) (H : Heap) (locs : List Loc) (ls : Array Slot), lv_has ls 4 [(0, .ref (ga E 9)), (1, .int x1)] → GW E base s σ H locs → wX1_tollsOf x1 σ Q → W p l e rmX1_tollsOf s m args below meth c H locs 0 0 (MQ below (QI E base Q) args s 0 0 (fun q => base ≤ q)) (F0 m 0 ls []) := by
  intro x1 σ H locs ls hl g h
  refine lv_iconst (v := 0) C.1 C.2.1 dX1_tollsOf_0 (by decide) ?_
  refine lv_istore_n (lv' := [(2, .int (0 : Int32)), (0, .ref (ga E 9)), (1, .int x1)]) C.1 C.2.1 dX1_tollsOf_1 rfl hl (by decide) rfl (fun ls hl => ?_)
  refine lv_iconst (v := 0) C.1 C.2.1 dX1_tollsOf_2 (by decide) ?_
  refine lv_istore_n (lv' := [(3, .int (0 : Int32)), (2, .int (0 : Int32)), (0, .ref (ga E 9)), (1, .int x1)]) C.1 C.2.1 dX1_tollsOf_3 rfl hl (by decide) rfl (fun ls hl => ?_)
  obtain ⟨j, h⟩ := h
  exact tX1_tollsOf_4 C hr j x1 (0 : Int32) (0 : Int32) _ _ _ _ (lv_sub hl [2, 3, 1, 0] rfl) g h
theorem mX1_tollsOf {l : Launch} {E : EE} {base : Nat} (x1 : Int32) (σ : St) (Q : Int32 → St → Prop) (h : wX1_tollsOf x1 σ Q) : Met l yX1_tollsOf (wy yX1_tollsOf cX1_tollsOf 4 (some .int)) rmX1_tollsOf (va_Pc [.ref (ga E 9), .int x1] (fun U => SW E base σ U)) (QI E base Q) (rmX1_tollsOf).cells (rmX1_tollsOf).slots (fun q => base ≤ q) :=
  met_of (by decide) (Nat.le_of_ble_eq_true rfl) (fun p e s m args below meth c C hr g ls hl => tX1_tollsOf_e C hr x1 _ _ _ _ hl g h)
