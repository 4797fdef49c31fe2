abbrev rmX7_clear : Room := { frames := 1, cells := 0, slots := 0, locals := 23 }
def wX7_clear_2 (k0 : Nat) (Q : St → Prop) : Nat → Int32 → St → Prop
  | 0, _, _ => False
  | n + 1, x1, σ => (((10 : Int32) ≤ x1 → ∀ σ2 : St, σ2 = pa σ (k0 + 2) (fun _ => (0 : Int32)) → ∀ σ3 : St, σ3 = pv σ2 k0 2 (-1 : Int32) → ∀ σ4 : St, σ4 = pv σ3 k0 3 (0 : Int32) → ∀ σ5 : St, σ5 = pv σ4 k0 4 (-1 : Int32) → Q σ5) ∧ (¬ ((10 : Int32) ≤ x1) → vp_in x1 10 ∧ ∀ σ7 : St, σ7 = pa σ (k0 + (3 + x1.toNatClampNeg)) (fun _ => (0 : Int32)) → ∀ x1_8 : Int32, x1_8 = x1 + 1 → wX7_clear_2 k0 Q n x1_8 σ7))
def wX7_clear (k0 : Nat) (σ : St) (Q : St → Prop) : Prop := ∃ j : Nat, wX7_clear_2 k0 Q j (0 : Int32) σ
set_option maxHeartbeats 4000000 in
set_option maxRecDepth 100000 in
theorem tX7_clear_2 {p : Program} {l : Launch} {e : Env} {s : State} {m : MethodId} {args : Array Value} {below : List Frame} {meth : Method} {c : Code} {E : EE} {base : Nat} (C : Cx p E base s m args meth c cX7_clear 2 RX7) (hr : meth.sig.returnType = none) {Q : St → Prop} {k0 : Nat} (hk0 : Stg k0) : ∀ (n : Nat) (x1 : Int32) (σ : St) (H : Heap) (locs : List Loc) (ls : Array Slot), lv_has ls 2 [(0, .ref (ga E k0)), (1, .int x1)] → GW E base s σ H locs → wX7_clear_2 k0 Q n x1 σ → W p l e rmX7_clear s m args below meth c H locs 0 0 (MQ below (QV E base Q) args s 0 0 (fun q => base ≤ q)) (F0 m 2 ls []) := by
  intro n
  induction n with
  | zero => intro _; intros; exact False.elim (by assumption)
  | succ n ih =>
    intro x1 σ H locs ls hl g h
    refine lv_iload_n C.1 C.2.1 dX7_clear_2 rfl (lv_at hl 1 rfl) ?_
    refine lv_bipush (v := 10) C.1 C.2.1 dX7_clear_3 (by decide) ?_
    refine lv_icmp_ge (tgt := 24) C.1 C.2.1 dX7_clear_5 (by decide) (fun c1 => ?_) (fun c1 => ?_)
    · have h := h.1 c1
      refine lv_aload_n C.1 C.2.1 dX7_clear_24 rfl (lv_at hl 0 rfl) ?_
      refine gx_getR C g fl_X7_16 dX7_clear_25 (stg_obj hk0) rfl (stg_ne hk0 2) ?_
      refine lv_iconst (v := 0) C.1 C.2.1 dX7_clear_28 (by decide) ?_
      refine gx_callv0 g (gx_runS (rest := []) C g ms_J7_fill_53178 ml_X7_30 (mFill (k := (k0 + 2)) (n := 7) (stg_arr hk0 2 (by decide) (by decide)) (by decide) (0 : Int32) (QQ := fun τ => τ = pa σ (k0 + 2) (fun _ => (0 : Int32))) rfl) ⟨Nat.le_of_ble_eq_true rfl, Nat.le_of_ble_eq_true rfl⟩ ⟨Nat.le_refl _, Nat.le_refl _⟩ rfl hl.1 rfl (Nat.le_of_ble_eq_true rfl) dX7_clear_29) rfl rfl (fun σ2 H locs eσ2 g => ?_)
      have h := h σ2 eσ2
      refine lv_aload_n C.1 C.2.1 dX7_clear_32 rfl (lv_at hl 0 rfl) ?_
      refine lv_iconst (v := -1) C.1 C.2.1 dX7_clear_33 (by decide) ?_
      refine gx_putI C g fi_X7_20 dX7_clear_34 (stg_obj hk0) rfl (fun H locs σ3 eσ3 g => ?_)
      have h := h σ3 eσ3
      refine lv_aload_n C.1 C.2.1 dX7_clear_37 rfl (lv_at hl 0 rfl) ?_
      refine lv_iconst (v := 0) C.1 C.2.1 dX7_clear_38 (by decide) ?_
      refine gx_putI C g fi_X7_24 dX7_clear_39 (stg_obj hk0) rfl (fun H locs σ4 eσ4 g => ?_)
      have h := h σ4 eσ4
      refine lv_aload_n C.1 C.2.1 dX7_clear_42 rfl (lv_at hl 0 rfl) ?_
      refine lv_iconst (v := -1) C.1 C.2.1 dX7_clear_43 (by decide) ?_
      refine gx_putI C g fi_X7_27 dX7_clear_44 (stg_obj hk0) rfl (fun H locs σ5 eσ5 g => ?_)
      have h := h σ5 eσ5
      exact gx_vret C hr g dX7_clear_47 h
    · have h := h.2 c1
      refine lv_aload_n C.1 C.2.1 dX7_clear_8 rfl (lv_at hl 0 rfl) ?_
      refine gx_getR C g fl_X7_11 dX7_clear_9 (stg_obj hk0) rfl (stg_ne hk0 1) ?_
      refine lv_iload_n C.1 C.2.1 dX7_clear_12 rfl (lv_at hl 1 rfl) ?_
      obtain ⟨i6, h⟩ := h
      refine gx_aald (r := (k0 + (3 + x1.toNatClampNeg))) C g dX7_clear_13 (stg_row hk0) (Or.inr rfl) i6 (stg_rowx k0 i6) (stg_nex hk0) ?_
      refine lv_iconst (v := 0) C.1 C.2.1 dX7_clear_14 (by decide) ?_
      refine gx_callv0 g (gx_runS (rest := []) C g ms_J7_fill_53178 ml_X7_30 (mFill (k := (k0 + (3 + x1.toNatClampNeg))) (n := 7) (stg_arrx hk0 i6) (by decide) (0 : Int32) (QQ := fun τ => τ = pa σ (k0 + (3 + x1.toNatClampNeg)) (fun _ => (0 : Int32))) rfl) ⟨Nat.le_of_ble_eq_true rfl, Nat.le_of_ble_eq_true rfl⟩ ⟨Nat.le_refl _, Nat.le_refl _⟩ rfl hl.1 rfl (Nat.le_of_ble_eq_true rfl) dX7_clear_15) rfl rfl (fun σ7 H locs eσ7 g => ?_)
      have h := h σ7 eσ7
      obtain ⟨x1_8, ex1_8⟩ : ∃ y : Int32, y = x1 + 1 := ⟨_, rfl⟩
      have h := h x1_8 ex1_8
      refine lv_iinc (v := x1_8) (lv' := [(1, .int x1_8), (0, .ref (ga E k0))]) C.1 C.2.1 dX7_clear_18 hl (k := 1) rfl (by rw [ex1_8]; rfl) (by decide) rfl (fun ls hl => ?_)
      refine lv_goto (tgt := 2) C.1 C.2.1 dX7_clear_21 (by decide) ?_
      exact ih x1_8 _ _ _ _ (lv_sub hl [1, 0] rfl) g h
set_option maxHeartbeats 4000000 in
set_option maxRecDepth 100000 in
theorem tX7_clear_e {p : Program} {l : Launch} {e : Env} {s : State} {m : MethodId} {args : Array Value} {below : List Frame} {meth : Method} {c : Code} {E : EE} {base : Nat} (C : Cx p E base s m args meth c cX7_clear 2 RX7) (hr : meth.sig.returnType = none) {Q : St → Prop} {k0 : Nat} (hk0 : Stg k0) : ∀ (σ : St) (H : Heap) (locs : List Loc) (ls : Array Slot), lv_has ls 2 [(0, .ref (ga E k0))] → GW E base s σ H locs → wX7_clear k0 σ Q → W p l e rmX7_clear s m args below meth c H locs 0 0 (MQ below (QV E base Q) args s 0 0 (fun q => base ≤ q)) (F0 m 0 ls []) := by
  intro σ H locs ls hl g h
  refine lv_iconst (v := 0) C.1 C.2.1 dX7_clear_0 (by decide) ?_
  refine lv_istore_n (lv' := [(1, .int (0 : Int32)), (0, .ref (ga E k0))]) C.1 C.2.1 dX7_clear_1 rfl hl (by decide) rfl (fun ls hl => ?_)
  obtain ⟨j, h⟩ := h
  exact tX7_clear_2 C hr hk0 j (0 : Int32) _ _ _ _ (lv_sub hl [1, 0] rfl) g h
theorem mX7_clear {l : Launch} {E : EE} {base : Nat} (k0 : Nat) (hk0 : Stg k0) (σ : St) (Q : St → Prop) (h : wX7_clear k0 σ Q) : Met l yX7_clear (wy yX7_clear cX7_clear 2 none) rmX7_clear (va_Pc [.ref (ga E k0)] (fun U => SW E base σ U)) (QV E base Q) (rmX7_clear).cells (rmX7_clear).slots (fun q => base ≤ q) :=
  met_of (by decide) (Nat.le_of_ble_eq_true rfl) (fun p e s m args below meth c C hr g ls hl => tX7_clear_e C hr hk0  _ _ _ _ hl g h)
abbrev rmX7_copy : Room := { frames := 1, cells := 0, slots := 0, locals := 40 }
def wX7_copy_2 (k0 : Nat) (k1 : Nat) (Q : St → Prop) : Nat → Int32 → St → Prop
  | 0, _, _ => False
  | n + 1, x2, σ => (((10 : Int32) ≤ x2 → ∀ σ2 : St, σ2 = pa σ (k0 + 2) (gr σ (k1 + 2)) → ∀ σ3 : St, σ3 = pv σ2 k0 2 (gv σ2 k1 2) → ∀ σ4 : St, σ4 = pv σ3 k0 3 (gv σ3 k1 3) → ∀ σ5 : St, σ5 = pv σ4 k0 4 (gv σ4 k1 4) → Q σ5) ∧ (¬ ((10 : Int32) ≤ x2) → vp_in x2 10 ∧ vp_in x2 10 ∧ ∀ σ8 : St, σ8 = pa σ (k0 + (3 + x2.toNatClampNeg)) (gr σ (k1 + (3 + x2.toNatClampNeg))) → ∀ x2_9 : Int32, x2_9 = x2 + 1 → wX7_copy_2 k0 k1 Q n x2_9 σ8))
def wX7_copy (k0 : Nat) (k1 : Nat) (σ : St) (Q : St → Prop) : Prop := ∃ j : Nat, wX7_copy_2 k0 k1 Q j (0 : Int32) σ
set_option maxHeartbeats 4000000 in
set_option maxRecDepth 100000 in
theorem tX7_copy_2 {p : Program} {l : Launch} {e : Env} {s : State} {m : MethodId} {args : Array Value} {below : List Frame} {meth : Method} {c : Code} {E : EE} {base : Nat} (C : Cx p E base s m args meth c cX7_copy 3 RX7) (hr : meth.sig.returnType = none) {Q : St → Prop} {k0 : Nat} (hk0 : Stg k0) {k1 : Nat} (hk1 : Stg k1) : ∀ (n : Nat) (x2 : Int32) (σ : St) (H : Heap) (locs : List Loc) (ls : Array Slot), lv_has ls 3 [(0, .ref (ga E k0)), (1, .ref (ga E k1)), (2, .int x2)] → GW E base s σ H locs → wX7_copy_2 k0 k1 Q n x2 σ → W p l e rmX7_copy s m args below meth c H locs 0 0 (MQ below (QV E base Q) args s 0 0 (fun q => base ≤ q)) (F0 m 2 ls []) := by
  intro n
  induction n with
  | zero => intro _; intros; exact False.elim (by assumption)
  | succ n ih =>
    intro x2 σ H locs ls hl g h
    refine lv_iload_n C.1 C.2.1 dX7_copy_2 rfl (lv_at hl 2 rfl) ?_
    refine lv_bipush (v := 10) C.1 C.2.1 dX7_copy_3 (by decide) ?_
    refine lv_icmp_ge (tgt := 33) C.1 C.2.1 dX7_copy_5 (by decide) (fun c1 => ?_) (fun c1 => ?_)
    · have h := h.1 c1
      refine lv_aload_n C.1 C.2.1 dX7_copy_33 rfl (lv_at hl 1 rfl) ?_
      refine gx_getR C g fl_X7_16 dX7_copy_34 (stg_obj hk1) rfl (stg_ne hk1 2) ?_
      refine lv_iconst (v := 0) C.1 C.2.1 dX7_copy_37 (by decide) ?_
      refine lv_aload_n C.1 C.2.1 dX7_copy_38 rfl (lv_at hl 0 rfl) ?_
      refine gx_getR C g fl_X7_16 dX7_copy_39 (stg_obj hk0) rfl (stg_ne hk0 2) ?_
      refine lv_iconst (v := 0) C.1 C.2.1 dX7_copy_42 (by decide) ?_
      refine lv_bipush (v := 7) C.1 C.2.1 dX7_copy_43 (by decide) ?_
      refine gx_copy (k0 := (k1 + 2)) (k1 := (k0 + 2)) (n := 7) (rest := []) C g al_X7_36 hl.1 (Nat.le_of_ble_eq_true rfl) (Nat.le_of_ble_eq_true rfl) (stg_arr hk1 2 (by decide) (by decide)) (stg_arr hk0 2 (by decide) (by decide)) rfl (by decide) dX7_copy_45 (fun H locs σ2 eσ2 g => ?_)
      have h := h σ2 eσ2
      refine lv_aload_n C.1 C.2.1 dX7_copy_48 rfl (lv_at hl 0 rfl) ?_
      refine lv_aload_n C.1 C.2.1 dX7_copy_49 rfl (lv_at hl 1 rfl) ?_
      refine gx_getI C g fl_X7_20 dX7_copy_50 (stg_obj hk1) rfl ?_
      refine gx_putI C g fi_X7_20 dX7_copy_53 (stg_obj hk0) rfl (fun H locs σ3 eσ3 g => ?_)
      have h := h σ3 eσ3
      refine lv_aload_n C.1 C.2.1 dX7_copy_56 rfl (lv_at hl 0 rfl) ?_
      refine lv_aload_n C.1 C.2.1 dX7_copy_57 rfl (lv_at hl 1 rfl) ?_
      refine gx_getI C g fl_X7_24 dX7_copy_58 (stg_obj hk1) rfl ?_
      refine gx_putI C g fi_X7_24 dX7_copy_61 (stg_obj hk0) rfl (fun H locs σ4 eσ4 g => ?_)
      have h := h σ4 eσ4
      refine lv_aload_n C.1 C.2.1 dX7_copy_64 rfl (lv_at hl 0 rfl) ?_
      refine lv_aload_n C.1 C.2.1 dX7_copy_65 rfl (lv_at hl 1 rfl) ?_
      refine gx_getI C g fl_X7_27 dX7_copy_66 (stg_obj hk1) rfl ?_
      refine gx_putI C g fi_X7_27 dX7_copy_69 (stg_obj hk0) rfl (fun H locs σ5 eσ5 g => ?_)
      have h := h σ5 eσ5
      exact gx_vret C hr g dX7_copy_72 h
    · have h := h.2 c1
      refine lv_aload_n C.1 C.2.1 dX7_copy_8 rfl (lv_at hl 1 rfl) ?_
      refine gx_getR C g fl_X7_11 dX7_copy_9 (stg_obj hk1) rfl (stg_ne hk1 1) ?_
      refine lv_iload_n C.1 C.2.1 dX7_copy_12 rfl (lv_at hl 2 rfl) ?_
      obtain ⟨i6, h⟩ := h
      refine gx_aald (r := (k1 + (3 + x2.toNatClampNeg))) C g dX7_copy_13 (stg_row hk1) (Or.inr rfl) i6 (stg_rowx k1 i6) (stg_nex hk1) ?_
      refine lv_iconst (v := 0) C.1 C.2.1 dX7_copy_14 (by decide) ?_
      refine lv_aload_n C.1 C.2.1 dX7_copy_15 rfl (lv_at hl 0 rfl) ?_
      refine gx_getR C g fl_X7_11 dX7_copy_16 (stg_obj hk0) rfl (stg_ne hk0 1) ?_
      refine lv_iload_n C.1 C.2.1 dX7_copy_19 rfl (lv_at hl 2 rfl) ?_
      obtain ⟨i7, h⟩ := h
      refine gx_aald (r := (k0 + (3 + x2.toNatClampNeg))) C g dX7_copy_20 (stg_row hk0) (Or.inr rfl) i7 (stg_rowx k0 i7) (stg_nex hk0) ?_
      refine lv_iconst (v := 0) C.1 C.2.1 dX7_copy_21 (by decide) ?_
      refine lv_bipush (v := 7) C.1 C.2.1 dX7_copy_22 (by decide) ?_
      refine gx_copy (k0 := (k1 + (3 + x2.toNatClampNeg))) (k1 := (k0 + (3 + x2.toNatClampNeg))) (n := 7) (rest := []) C g al_X7_36 hl.1 (Nat.le_of_ble_eq_true rfl) (Nat.le_of_ble_eq_true rfl) (stg_arrx hk1 i6) (stg_arrx hk0 i7) rfl (by decide) dX7_copy_24 (fun H locs σ8 eσ8 g => ?_)
      have h := h σ8 eσ8
      obtain ⟨x2_9, ex2_9⟩ : ∃ y : Int32, y = x2 + 1 := ⟨_, rfl⟩
      have h := h x2_9 ex2_9
      refine lv_iinc (v := x2_9) (lv' := [(2, .int x2_9), (0, .ref (ga E k0)), (1, .ref (ga E k1))]) C.1 C.2.1 dX7_copy_27 hl (k := 2) rfl (by rw [ex2_9]; rfl) (by decide) rfl (fun ls hl => ?_)
      refine lv_goto (tgt := 2) C.1 C.2.1 dX7_copy_30 (by decide) ?_
      exact ih x2_9 _ _ _ _ (lv_sub hl [1, 2, 0] rfl) g h
set_option maxHeartbeats 4000000 in
set_option maxRecDepth 100000 in
theorem tX7_copy_e {p : Program} {l : Launch} {e : Env} {s : State} {m : MethodId} {args : Array Value} {below : List Frame} {meth : Method} {c : Code} {E : EE} {base : Nat} (C : Cx p E base s m args meth c cX7_copy 3 RX7) (hr : meth.sig.returnType = none) {Q : St → Prop} {k0 : Nat} (hk0 : Stg k0) {k1 : Nat} (hk1 : Stg k1) : ∀ (σ : St) (H : Heap) (locs : List Loc) (ls : Array Slot), lv_has ls 3 [(0, .ref (ga E k0)), (1, .ref (ga E k1))] → GW E base s σ H locs → wX7_copy k0 k1 σ Q → W p l e rmX7_copy s m args below meth c H locs 0 0 (MQ below (QV E base Q) args s 0 0 (fun q => base ≤ q)) (F0 m 0 ls []) := by
  intro σ H locs ls hl g h
  refine lv_iconst (v := 0) C.1 C.2.1 dX7_copy_0 (by decide) ?_
  refine lv_istore_n (lv' := [(2, .int (0 : Int32)), (0, .ref (ga E k0)), (1, .ref (ga E k1))]) C.1 C.2.1 dX7_copy_1 rfl hl (by decide) rfl (fun ls hl => ?_)
  obtain ⟨j, h⟩ := h
  exact tX7_copy_2 C hr hk0 hk1 j (0 : Int32) _ _ _ _ (lv_sub hl [1, 2, 0] rfl) g h
theorem mX7_copy {l : Launch} {E : EE} {base : Nat} (k0 : Nat) (k1 : Nat) (hk0 : Stg k0) (hk1 : Stg k1) (σ : St) (Q : St → Prop) (h : wX7_copy k0 k1 σ Q) : Met l yX7_copy (wy yX7_copy cX7_copy 3 none) rmX7_copy (va_Pc [.ref (ga E k0), .ref (ga E k1)] (fun U => SW E base σ U)) (QV E base Q) (rmX7_copy).cells (rmX7_copy).slots (fun q => base ≤ q) :=
  met_of (by decide) (Nat.le_of_ble_eq_true rfl) (fun p e s m args below meth c C hr g ls hl => tX7_copy_e C hr hk0 hk1  _ _ _ _ hl g h)
