abbrev rmX6_add : Room := { frames := 0, cells := 0, slots := 0, locals := 0 }
def wX6_add (x1 : Int32) (x2 : Int32) (x3 : Int32) (σ : St) (Q : Int32 → St → Prop) : Prop := (((gv σ 3 0) < (400 : Int32) → vp_in (gv σ 3 0) 400 ∧ ∀ σ3 : St, σ3 = pv σ 17 (gv σ 3 0).toNatClampNeg ((x1 * (7 : Int32)) + x2) → vp_in (gv σ3 3 0) 400 ∧ ∀ σ5 : St, σ5 = pv σ3 18 (gv σ3 3 0).toNatClampNeg x3 → ∀ σ6 : St, σ6 = pv σ5 3 0 ((gv σ5 3 0) + (1 : Int32)) → Q ((gv σ6 3 0) - (1 : Int32)) σ6) ∧ (¬ ((gv σ 3 0) < (400 : Int32)) → Q (-1 : Int32) σ))
set_option maxHeartbeats 4000000 in
set_option maxRecDepth 100000 in
theorem tX6_add_e {p : Program} {l : Launch} {e : Env} {s : State} {m : MethodId} {args : Array Value} {below : List Frame} {meth : Method} {c : Code} {E : EE} {base : Nat} (C : Cx p E base s m args meth c cX6_add 4 RX6) (hr : meth.sig.returnType = (some .int)) {Q : Int32 → St → Prop} : ∀ (x1 : Int32) (x2 : Int32) (x3 : Int32) (σ : St) (H : Heap) (locs : List Loc) (ls : Array Slot), lv_has ls 4 [(0, .ref (ga E 3)), (1, .int x1), (2, .int x2), (3, .int x3)] → GW E base s σ H locs → wX6_add x1 x2 x3 σ Q → W p l e rmX6_add s m args below meth c H locs 0 0 (MQ below (QI E base Q) args s 0 0 (fun q => base ≤ q)) (F0 m 0 ls []) := by
  intro x1 x2 x3 σ H locs ls hl g h
  refine lv_aload_n C.1 C.2.1 dX6_add_0 rfl (lv_at hl 0 rfl) ?_
  refine gx_getI C g fl_X6_9 dX6_add_1 sh_3 rfl ?_
  refine lv_sipush (v := 400) C.1 C.2.1 dX6_add_4 (by decide) ?_
  refine lv_icmp_lt (tgt := 12) C.1 C.2.1 dX6_add_7 (by decide) (fun c1 => ?_) (fun c1 => ?_)
  · have h := h.1 c1
    refine lv_aload_n C.1 C.2.1 dX6_add_12 rfl (lv_at hl 0 rfl) ?_
    refine gx_getR C g fl_X6_15 dX6_add_13 sh_3 rfl (by decide) ?_
    refine lv_aload_n C.1 C.2.1 dX6_add_16 rfl (lv_at hl 0 rfl) ?_
    refine gx_getI C g fl_X6_9 dX6_add_17 sh_3 rfl ?_
    refine lv_iload_n C.1 C.2.1 dX6_add_20 rfl (lv_at hl 1 rfl) ?_
    refine lv_bipush (v := 7) C.1 C.2.1 dX6_add_21 (by decide) ?_
    refine lv_imul C.1 C.2.1 dX6_add_23 ?_
    refine lv_iload_n C.1 C.2.1 dX6_add_24 rfl (lv_at hl 2 rfl) ?_
    refine lv_iadd C.1 C.2.1 dX6_add_25 ?_
    obtain ⟨i2, h⟩ := h
    refine gx_iast C g dX6_add_26 sh_17 i2 (fun H locs σ3 eσ3 g => ?_)
    have h := h σ3 eσ3
    refine lv_aload_n C.1 C.2.1 dX6_add_27 rfl (lv_at hl 0 rfl) ?_
    refine gx_getR C g fl_X6_19 dX6_add_28 sh_3 rfl (by decide) ?_
    refine lv_aload_n C.1 C.2.1 dX6_add_31 rfl (lv_at hl 0 rfl) ?_
    refine gx_getI C g fl_X6_9 dX6_add_32 sh_3 rfl ?_
    refine lv_iload_n C.1 C.2.1 dX6_add_35 rfl (lv_at hl 3 rfl) ?_
    obtain ⟨i4, h⟩ := h
    refine gx_iast C g dX6_add_36 sh_18 i4 (fun H locs σ5 eσ5 g => ?_)
    have h := h σ5 eσ5
    refine lv_aload_n C.1 C.2.1 dX6_add_37 rfl (lv_at hl 0 rfl) ?_
    refine lv_dup C.1 C.2.1 dX6_add_38 rfl ?_
    refine gx_getI C g fl_X6_9 dX6_add_39 sh_3 rfl ?_
    refine lv_iconst (v := 1) C.1 C.2.1 dX6_add_42 (by decide) ?_
    refine lv_iadd C.1 C.2.1 dX6_add_43 ?_
    refine gx_putI C g fi_X6_9 dX6_add_44 sh_3 rfl (fun H locs σ6 eσ6 g => ?_)
    have h := h σ6 eσ6
    refine lv_aload_n C.1 C.2.1 dX6_add_47 rfl (lv_at hl 0 rfl) ?_
    refine gx_getI C g fl_X6_9 dX6_add_48 sh_3 rfl ?_
    refine lv_iconst (v := 1) C.1 C.2.1 dX6_add_51 (by decide) ?_
    refine lv_isub C.1 C.2.1 dX6_add_52 ?_
    exact gx_iret C hr g dX6_add_53 h
  · have h := h.2 c1
    refine lv_iconst (v := -1) C.1 C.2.1 dX6_add_10 (by decide) ?_
    exact gx_iret C hr g dX6_add_11 h
theorem mX6_add {l : Launch} {E : EE} {base : Nat} (x1 : Int32) (x2 : Int32) (x3 : Int32) (σ : St) (Q : Int32 → St → Prop) (h : wX6_add x1 x2 x3 σ Q) : Met l yX6_add (wy yX6_add cX6_add 4 (some .int)) rmX6_add (va_Pc [.ref (ga E 3), .int x1, .int x2, .int x3] (fun U => SW E base σ U)) (QI E base Q) (rmX6_add).cells (rmX6_add).slots (fun q => base ≤ q) :=
  met_of (by decide) (Nat.le_of_ble_eq_true rfl) (fun p e s m args below meth c C hr g ls hl => tX6_add_e C hr x1 x2 x3 _ _ _ _ hl g h)
abbrev rmX6_know : Room := { frames := 1, cells := 0, slots := 0, locals := 23 }
def wX6_know_21 (Q : St → Prop) : Nat → Int32 → St → Prop
  | 0, _, _ => False
  | n + 1, x1, σ => ((x1 ≤ (gv σ 3 4) → Q σ) ∧ (¬ (x1 ≤ (gv σ 3 4)) → (((gv σ 3 0) ≤ (gv σ 3 4) → Q σ) ∧ (¬ ((gv σ 3 0) ≤ (gv σ 3 4)) → vp_in (gv σ 3 4) 400 ∧ vp_in (gv σ 3 4) 400 ∧ vp_in (gv σ 17 (gv σ 3 4).toNatClampNeg) 1680 ∧ ∀ σ6 : St, σ6 = pv σ 19 (gv σ 17 (gv σ 3 4).toNatClampNeg).toNatClampNeg (gv σ 18 (gv σ 3 4).toNatClampNeg) → ∀ σ7 : St, σ7 = pv σ6 3 4 ((gv σ6 3 4) + (1 : Int32)) → wX6_know_21 Q n x1 σ7))))
def wX6_know (x1 : Int32) (σ : St) (Q : St → Prop) : Prop := (((gv σ 3 4) ≤ x1 → ∃ j : Nat, wX6_know_21 Q j x1 σ) ∧ (¬ ((gv σ 3 4) ≤ x1) → ∀ σ2 : St, σ2 = pa σ 19 (fun _ => (0 : Int32)) → ∀ σ3 : St, σ3 = pv σ2 3 4 (0 : Int32) → ∃ j : Nat, wX6_know_21 Q j x1 σ3))
set_option maxHeartbeats 4000000 in
set_option maxRecDepth 100000 in
theorem tX6_know_21 {p : Program} {l : Launch} {e : Env} {s : State} {m : MethodId} {args : Array Value} {below : List Frame} {meth : Method} {c : Code} {E : EE} {base : Nat} (C : Cx p E base s m args meth c cX6_know 2 RX6) (hr : meth.sig.returnType = none) {Q : St → Prop} : ∀ (n : Nat) (x1 : Int32) (σ : St) (H : Heap) (locs : List Loc) (ls : Array Slot), lv_has ls 2 [(0, .ref (ga E 3)), (1, .int x1)] → GW E base s σ H locs → wX6_know_21 Q n x1 σ → W p l e rmX6_know s m args below meth c H locs 0 0 (MQ below (QV E base Q) args s 0 0 (fun q => base ≤ q)) (F0 m 21 ls []) := by
  intro n
  induction n with
  | zero => intro _; intros; exact False.elim (by assumption)
  | succ n ih =>
    intro x1 σ H locs ls hl g h
    refine lv_aload_n C.1 C.2.1 dX6_know_21 rfl (lv_at hl 0 rfl) ?_
    refine gx_getI C g fl_X6_25 dX6_know_22 sh_3 rfl ?_
    refine lv_iload_n C.1 C.2.1 dX6_know_25 rfl (lv_at hl 1 rfl) ?_
    refine lv_icmp_ge (tgt := 76) C.1 C.2.1 dX6_know_26 (by decide) (fun c1 => ?_) (fun c1 => ?_)
    · have h := h.1 c1
      exact gx_vret C hr g dX6_know_76 h
    · have h := h.2 c1
      refine lv_aload_n C.1 C.2.1 dX6_know_29 rfl (lv_at hl 0 rfl) ?_
      refine gx_getI C g fl_X6_25 dX6_know_30 sh_3 rfl ?_
      refine lv_aload_n C.1 C.2.1 dX6_know_33 rfl (lv_at hl 0 rfl) ?_
      refine gx_getI C g fl_X6_9 dX6_know_34 sh_3 rfl ?_
      refine lv_icmp_ge (tgt := 76) C.1 C.2.1 dX6_know_37 (by decide) (fun c2 => ?_) (fun c2 => ?_)
      · have h := h.1 c2
        exact gx_vret C hr g dX6_know_76 h
      · have h := h.2 c2
        refine lv_aload_n C.1 C.2.1 dX6_know_40 rfl (lv_at hl 0 rfl) ?_
        refine gx_getR C g fl_X6_22 dX6_know_41 sh_3 rfl (by decide) ?_
        refine lv_aload_n C.1 C.2.1 dX6_know_44 rfl (lv_at hl 0 rfl) ?_
        refine gx_getR C g fl_X6_15 dX6_know_45 sh_3 rfl (by decide) ?_
        refine lv_aload_n C.1 C.2.1 dX6_know_48 rfl (lv_at hl 0 rfl) ?_
        refine gx_getI C g fl_X6_25 dX6_know_49 sh_3 rfl ?_
        obtain ⟨i3, h⟩ := h
        refine gx_iald C g dX6_know_52 sh_17 i3 ?_
        refine lv_aload_n C.1 C.2.1 dX6_know_53 rfl (lv_at hl 0 rfl) ?_
        refine gx_getR C g fl_X6_19 dX6_know_54 sh_3 rfl (by decide) ?_
        refine lv_aload_n C.1 C.2.1 dX6_know_57 rfl (lv_at hl 0 rfl) ?_
        refine gx_getI C g fl_X6_25 dX6_know_58 sh_3 rfl ?_
        obtain ⟨i4, h⟩ := h
        refine gx_iald C g dX6_know_61 sh_18 i4 ?_
        obtain ⟨i5, h⟩ := h
        refine gx_iast C g dX6_know_62 sh_19 i5 (fun H locs σ6 eσ6 g => ?_)
        have h := h σ6 eσ6
        refine lv_aload_n C.1 C.2.1 dX6_know_63 rfl (lv_at hl 0 rfl) ?_
        refine lv_dup C.1 C.2.1 dX6_know_64 rfl ?_
        refine gx_getI C g fl_X6_25 dX6_know_65 sh_3 rfl ?_
        refine lv_iconst (v := 1) C.1 C.2.1 dX6_know_68 (by decide) ?_
        refine lv_iadd C.1 C.2.1 dX6_know_69 ?_
        refine gx_putI C g fi_X6_25 dX6_know_70 sh_3 rfl (fun H locs σ7 eσ7 g => ?_)
        have h := h σ7 eσ7
        refine lv_goto (tgt := 21) C.1 C.2.1 dX6_know_73 (by decide) ?_
        exact ih x1 _ _ _ _ (lv_sub hl [0, 1] rfl) g h
set_option maxHeartbeats 4000000 in
set_option maxRecDepth 100000 in
theorem tX6_know_e {p : Program} {l : Launch} {e : Env} {s : State} {m : MethodId} {args : Array Value} {below : List Frame} {meth : Method} {c : Code} {E : EE} {base : Nat} (C : Cx p E base s m args meth c cX6_know 2 RX6) (hr : meth.sig.returnType = none) {Q : St → Prop} : ∀ (x1 : Int32) (σ : St) (H : Heap) (locs : List Loc) (ls : Array Slot), lv_has ls 2 [(0, .ref (ga E 3)), (1, .int x1)] → GW E base s σ H locs → wX6_know x1 σ Q → W p l e rmX6_know s m args below meth c H locs 0 0 (MQ below (QV E base Q) args s 0 0 (fun q => base ≤ q)) (F0 m 0 ls []) := by
  intro x1 σ H locs ls hl g h
  refine lv_iload_n C.1 C.2.1 dX6_know_0 rfl (lv_at hl 1 rfl) ?_
  refine lv_aload_n C.1 C.2.1 dX6_know_1 rfl (lv_at hl 0 rfl) ?_
  refine gx_getI C g fl_X6_25 dX6_know_2 sh_3 rfl ?_
  refine lv_icmp_ge (tgt := 21) C.1 C.2.1 dX6_know_5 (by decide) (fun c1 => ?_) (fun c1 => ?_)
  · have h := h.1 c1
    obtain ⟨j, h⟩ := h
    exact tX6_know_21 C hr j x1 _ _ _ _ (lv_sub hl [0, 1] rfl) g h
  · have h := h.2 c1
    refine lv_aload_n C.1 C.2.1 dX6_know_8 rfl (lv_at hl 0 rfl) ?_
    refine gx_getR C g fl_X6_22 dX6_know_9 sh_3 rfl (by decide) ?_
    refine lv_iconst (v := 0) C.1 C.2.1 dX6_know_12 (by decide) ?_
    refine gx_callv0 g (gx_runS (rest := []) C g ms_J7_fill_53178 ml_X6_28 (mFill (k := 19) (n := 1680) sh_19 (by decide) (0 : Int32) (QQ := fun τ => τ = pa σ 19 (fun _ => (0 : Int32))) rfl) ⟨Nat.le_of_ble_eq_true rfl, Nat.le_of_ble_eq_true rfl⟩ ⟨Nat.le_refl _, Nat.le_refl _⟩ rfl hl.1 rfl (Nat.le_of_ble_eq_true rfl) dX6_know_13) rfl rfl (fun σ2 H locs eσ2 g => ?_)
    have h := h σ2 eσ2
    refine lv_aload_n C.1 C.2.1 dX6_know_16 rfl (lv_at hl 0 rfl) ?_
    refine lv_iconst (v := 0) C.1 C.2.1 dX6_know_17 (by decide) ?_
    refine gx_putI C g fi_X6_25 dX6_know_18 sh_3 rfl (fun H locs σ3 eσ3 g => ?_)
    have h := h σ3 eσ3
    obtain ⟨j, h⟩ := h
    exact tX6_know_21 C hr j x1 _ _ _ _ (lv_sub hl [0, 1] rfl) g h
theorem mX6_know {l : Launch} {E : EE} {base : Nat} (x1 : Int32) (σ : St) (Q : St → Prop) (h : wX6_know x1 σ Q) : Met l yX6_know (wy yX6_know cX6_know 2 none) rmX6_know (va_Pc [.ref (ga E 3), .int x1] (fun U => SW E base σ U)) (QV E base Q) (rmX6_know).cells (rmX6_know).slots (fun q => base ≤ q) :=
  met_of (by decide) (Nat.le_of_ble_eq_true rfl) (fun p e s m args below meth c C hr g ls hl => tX6_know_e C hr x1 _ _ _ _ hl g h)
abbrev rmX6_fallen : Room := { frames := 0, cells := 0, slots := 0, locals := 0 }
def wX6_fallen (x1 : Int32) (x2 : Int32) (σ : St) (Q : Int32 → St → Prop) : Prop := ∀ x3_1 : Int32, x3_1 = (x1 * (7 : Int32)) + x2 → ((x3_1 < 0 → Q (0 : Int32) σ) ∧ (¬ (x3_1 < 0) → (((nI 1680) ≤ x3_1 → Q (0 : Int32) σ) ∧ (¬ ((nI 1680) ≤ x3_1) → vp_in x3_1 1680 ∧ Q (gv σ 19 x3_1.toNatClampNeg) σ))))
set_option maxHeartbeats 4000000 in
set_option maxRecDepth 100000 in
theorem tX6_fallen_e {p : Program} {l : Launch} {e : Env} {s : State} {m : MethodId} {args : Array Value} {below : List Frame} {meth : Method} {c : Code} {E : EE} {base : Nat} (C : Cx p E base s m args meth c cX6_fallen 4 RX6) (hr : meth.sig.returnType = (some .int)) {Q : Int32 → St → Prop} : ∀ (x1 : Int32) (x2 : Int32) (σ : St) (H : Heap) (locs : List Loc) (ls : Array Slot), lv_has ls 4 [(0, .ref (ga E 3)), (1, .int x1), (2, .int x2)] → GW E base s σ H locs → wX6_fallen x1 x2 σ Q → W p l e rmX6_fallen s m args below meth c H locs 0 0 (MQ below (QI E base Q) args s 0 0 (fun q => base ≤ q)) (F0 m 0 ls []) := by
  intro x1 x2 σ H locs ls hl g h
  refine lv_iload_n C.1 C.2.1 dX6_fallen_0 rfl (lv_at hl 1 rfl) ?_
  refine lv_bipush (v := 7) C.1 C.2.1 dX6_fallen_1 (by decide) ?_
  refine lv_imul C.1 C.2.1 dX6_fallen_3 ?_
  refine lv_iload_n C.1 C.2.1 dX6_fallen_4 rfl (lv_at hl 2 rfl) ?_
  refine lv_iadd C.1 C.2.1 dX6_fallen_5 ?_
  refine lv_topi (fun x3_1 ex3_1 => ?_)
  have h := h x3_1 ex3_1
  refine lv_istore_n (lv' := [(3, .int x3_1), (0, .ref (ga E 3)), (1, .int x1), (2, .int x2)]) C.1 C.2.1 dX6_fallen_6 rfl hl (by decide) rfl (fun ls hl => ?_)
  refine lv_iload_n C.1 C.2.1 dX6_fallen_7 rfl (lv_at hl 0 rfl) ?_
  refine lv_if_lt (tgt := 29) C.1 C.2.1 dX6_fallen_8 (by decide) (fun c2 => ?_) (fun c2 => ?_)
  · have h := h.1 c2
    refine lv_iconst (v := 0) C.1 C.2.1 dX6_fallen_29 (by decide) ?_
    exact gx_iret C hr g dX6_fallen_30 h
  · have h := h.2 c2
    refine lv_iload_n C.1 C.2.1 dX6_fallen_11 rfl (lv_at hl 0 rfl) ?_
    refine lv_aload_n C.1 C.2.1 dX6_fallen_12 rfl (lv_at hl 1 rfl) ?_
    refine gx_getR C g fl_X6_22 dX6_fallen_13 sh_3 rfl (by decide) ?_
    refine gx_alen C g dX6_fallen_16 sh_19 (by decide) ?_
    refine lv_icmp_ge (tgt := 29) C.1 C.2.1 dX6_fallen_17 (by decide) (fun c3 => ?_) (fun c3 => ?_)
    · have h := h.1 c3
      refine lv_iconst (v := 0) C.1 C.2.1 dX6_fallen_29 (by decide) ?_
      exact gx_iret C hr g dX6_fallen_30 h
    · have h := h.2 c3
      refine lv_aload_n C.1 C.2.1 dX6_fallen_20 rfl (lv_at hl 1 rfl) ?_
      refine gx_getR C g fl_X6_22 dX6_fallen_21 sh_3 rfl (by decide) ?_
      refine lv_iload_n C.1 C.2.1 dX6_fallen_24 rfl (lv_at hl 0 rfl) ?_
      obtain ⟨i4, h⟩ := h
      refine gx_iald C g dX6_fallen_25 sh_19 i4 ?_
      refine lv_goto (tgt := 30) C.1 C.2.1 dX6_fallen_26 (by decide) ?_
      exact gx_iret C hr g dX6_fallen_30 h
theorem mX6_fallen {l : Launch} {E : EE} {base : Nat} (x1 : Int32) (x2 : Int32) (σ : St) (Q : Int32 → St → Prop) (h : wX6_fallen x1 x2 σ Q) : Met l yX6_fallen (wy yX6_fallen cX6_fallen 4 (some .int)) rmX6_fallen (va_Pc [.ref (ga E 3), .int x1, .int x2] (fun U => SW E base σ U)) (QI E base Q) (rmX6_fallen).cells (rmX6_fallen).slots (fun q => base ≤ q) :=
  met_of (by decide) (Nat.le_of_ble_eq_true rfl) (fun p e s m args below meth c C hr g ls hl => tX6_fallen_e C hr x1 x2 _ _ _ _ hl g h)
