abbrev rmX4_add : Room := { frames := 0, cells := 0, slots := 0, locals := 0 }
def wX4_add (x1 : Int32) (x2 : Int32) (x3 : Int32) (x4 : Int32) (σ : St) (Q : Int32 → St → Prop) : Prop := (((gv σ 4 4) < (200 : Int32) → vp_in (gv σ 4 4) 200 ∧ ∀ σ3 : St, σ3 = pv σ 20 (gv σ 4 4).toNatClampNeg x1 → vp_in (gv σ3 4 4) 200 ∧ ∀ σ5 : St, σ5 = pv σ3 21 (gv σ3 4 4).toNatClampNeg x2 → vp_in (gv σ5 4 4) 200 ∧ ∀ σ7 : St, σ7 = pv σ5 22 (gv σ5 4 4).toNatClampNeg (vp_nar .boolean x3) → vp_in (gv σ7 4 4) 200 ∧ ∀ σ9 : St, σ9 = pv σ7 23 (gv σ7 4 4).toNatClampNeg x4 → ∀ σ10 : St, σ10 = pv σ9 4 4 ((gv σ9 4 4) + (1 : Int32)) → Q ((gv σ10 4 4) - (1 : Int32)) σ10) ∧ (¬ ((gv σ 4 4) < (200 : Int32)) → Q (-1 : Int32) σ))
set_option maxHeartbeats 4000000 in
set_option maxRecDepth 100000 in
theorem tX4_add_e {p : Program} {l : Launch} {e : Env} {s : State} {m : MethodId} {args : Array Value} {below : List Frame} {meth : Method} {c : Code} {E : EE} {base : Nat} (C : Cx p E base s m args meth c cX4_add 5 RX4) (hr : meth.sig.returnType = (some .int)) {Q : Int32 → St → Prop} : ∀ (x1 : Int32) (x2 : Int32) (x3 : Int32) (x4 : Int32) (σ : St) (H : Heap) (locs : List Loc) (ls : Array Slot), lv_has ls 5 [(0, .ref (ga E 4)), (1, .int x1), (2, .int x2), (3, .int x3), (4, .int x4)] → GW E base s σ H locs → wX4_add x1 x2 x3 x4 σ Q → W p l e rmX4_add s m args below meth c H locs 0 0 (MQ below (QI E base Q) args s 0 0 (fun q => base ≤ q)) (F0 m 0 ls []) := by
  intro x1 x2 x3 x4 σ H locs ls hl g h
  refine lv_aload_n C.1 C.2.1 dX4_add_0 rfl (lv_at hl 0 rfl) ?_
  refine gx_getI C g fl_X4_25 dX4_add_1 sh_4 rfl ?_
  refine lv_sipush (v := 200) C.1 C.2.1 dX4_add_4 (by decide) ?_
  refine lv_icmp_lt (tgt := 12) C.1 C.2.1 dX4_add_7 (by decide) (fun c1 => ?_) (fun c1 => ?_)
  · have h := h.1 c1
    refine lv_aload_n C.1 C.2.1 dX4_add_12 rfl (lv_at hl 0 rfl) ?_
    refine gx_getR C g fl_X4_11 dX4_add_13 sh_4 rfl (by decide) ?_
    refine lv_aload_n C.1 C.2.1 dX4_add_16 rfl (lv_at hl 0 rfl) ?_
    refine gx_getI C g fl_X4_25 dX4_add_17 sh_4 rfl ?_
    refine lv_iload_n C.1 C.2.1 dX4_add_20 rfl (lv_at hl 1 rfl) ?_
    obtain ⟨i2, h⟩ := h
    refine gx_iast C g dX4_add_21 sh_20 i2 (fun H locs σ3 eσ3 g => ?_)
    have h := h σ3 eσ3
    refine lv_aload_n C.1 C.2.1 dX4_add_22 rfl (lv_at hl 0 rfl) ?_
    refine gx_getR C g fl_X4_15 dX4_add_23 sh_4 rfl (by decide) ?_
    refine lv_aload_n C.1 C.2.1 dX4_add_26 rfl (lv_at hl 0 rfl) ?_
    refine gx_getI C g fl_X4_25 dX4_add_27 sh_4 rfl ?_
    refine lv_iload_n C.1 C.2.1 dX4_add_30 rfl (lv_at hl 2 rfl) ?_
    obtain ⟨i4, h⟩ := h
    refine gx_iast C g dX4_add_31 sh_21 i4 (fun H locs σ5 eσ5 g => ?_)
    have h := h σ5 eσ5
    refine lv_aload_n C.1 C.2.1 dX4_add_32 rfl (lv_at hl 0 rfl) ?_
    refine gx_getR C g fl_X4_18 dX4_add_33 sh_4 rfl (by decide) ?_
    refine lv_aload_n C.1 C.2.1 dX4_add_36 rfl (lv_at hl 0 rfl) ?_
    refine gx_getI C g fl_X4_25 dX4_add_37 sh_4 rfl ?_
    refine lv_iload_n C.1 C.2.1 dX4_add_40 rfl (lv_at hl 3 rfl) ?_
    obtain ⟨i6, h⟩ := h
    refine gx_zast C g dX4_add_41 sh_22 i6 (fun H locs σ7 eσ7 g => ?_)
    have h := h σ7 eσ7
    refine lv_aload_n C.1 C.2.1 dX4_add_42 rfl (lv_at hl 0 rfl) ?_
    refine gx_getR C g fl_X4_22 dX4_add_43 sh_4 rfl (by decide) ?_
    refine lv_aload_n C.1 C.2.1 dX4_add_46 rfl (lv_at hl 0 rfl) ?_
    refine gx_getI C g fl_X4_25 dX4_add_47 sh_4 rfl ?_
    refine lv_iload C.1 C.2.1 dX4_add_50 (lv_at hl 4 rfl) ?_
    obtain ⟨i8, h⟩ := h
    refine gx_iast C g dX4_add_52 sh_23 i8 (fun H locs σ9 eσ9 g => ?_)
    have h := h σ9 eσ9
    refine lv_aload_n C.1 C.2.1 dX4_add_53 rfl (lv_at hl 0 rfl) ?_
    refine lv_dup C.1 C.2.1 dX4_add_54 rfl ?_
    refine gx_getI C g fl_X4_25 dX4_add_55 sh_4 rfl ?_
    refine lv_iconst (v := 1) C.1 C.2.1 dX4_add_58 (by decide) ?_
    refine lv_iadd C.1 C.2.1 dX4_add_59 ?_
    refine gx_putI C g fi_X4_25 dX4_add_60 sh_4 rfl (fun H locs σ10 eσ10 g => ?_)
    have h := h σ10 eσ10
    refine lv_aload_n C.1 C.2.1 dX4_add_63 rfl (lv_at hl 0 rfl) ?_
    refine gx_getI C g fl_X4_25 dX4_add_64 sh_4 rfl ?_
    refine lv_iconst (v := 1) C.1 C.2.1 dX4_add_67 (by decide) ?_
    refine lv_isub C.1 C.2.1 dX4_add_68 ?_
    exact gx_iret C hr g dX4_add_69 h
  · have h := h.2 c1
    refine lv_iconst (v := -1) C.1 C.2.1 dX4_add_10 (by decide) ?_
    exact gx_iret C hr g dX4_add_11 h
theorem mX4_add {l : Launch} {E : EE} {base : Nat} (x1 : Int32) (x2 : Int32) (x3 : Int32) (x4 : Int32) (σ : St) (Q : Int32 → St → Prop) (h : wX4_add x1 x2 x3 x4 σ Q) : Met l yX4_add (wy yX4_add cX4_add 5 (some .int)) rmX4_add (va_Pc [.ref (ga E 4), .int x1, .int x2, .int x3, .int x4] (fun U => SW E base σ U)) (QI E base Q) (rmX4_add).cells (rmX4_add).slots (fun q => base ≤ q) :=
  met_of (by decide) (Nat.le_of_ble_eq_true rfl) (fun p e s m args below meth c C hr g ls hl => tX4_add_e C hr x1 x2 x3 x4 _ _ _ _ hl g h)
abbrev rmX4_isOfSame : Room := { frames := 0, cells := 0, slots := 0, locals := 0 }
def wX4_isOfSame (x1 : Int32) (x2 : Int32) (σ : St) (Q : Int32 → St → Prop) : Prop := vp_in x1 200 ∧ vp_in x2 200 ∧ (((gv σ 21 x1.toNatClampNeg) = (gv σ 21 x2.toNatClampNeg) → vp_in x1 200 ∧ vp_in x2 200 ∧ (((gv σ 22 x1.toNatClampNeg) = (gv σ 22 x2.toNatClampNeg) → Q (1 : Int32) σ) ∧ (¬ ((gv σ 22 x1.toNatClampNeg) = (gv σ 22 x2.toNatClampNeg)) → Q (0 : Int32) σ))) ∧ (¬ ((gv σ 21 x1.toNatClampNeg) = (gv σ 21 x2.toNatClampNeg)) → Q (0 : Int32) σ))
set_option maxHeartbeats 4000000 in
set_option maxRecDepth 100000 in
theorem tX4_isOfSame_e {p : Program} {l : Launch} {e : Env} {s : State} {m : MethodId} {args : Array Value} {below : List Frame} {meth : Method} {c : Code} {E : EE} {base : Nat} (C : Cx p E base s m args meth c cX4_isOfSame 3 RX4) (hr : meth.sig.returnType = (some .boolean)) {Q : Int32 → St → Prop} : ∀ (x1 : Int32) (x2 : Int32) (σ : St) (H : Heap) (locs : List Loc) (ls : Array Slot), lv_has ls 3 [(0, .ref (ga E 4)), (1, .int x1), (2, .int x2)] → GW E base s σ H locs → wX4_isOfSame x1 x2 σ Q → W p l e rmX4_isOfSame s m args below meth c H locs 0 0 (MQ below (QI E base Q) args s 0 0 (fun q => base ≤ q)) (F0 m 0 ls []) := by
  intro x1 x2 σ H locs ls hl g h
  refine lv_aload_n C.1 C.2.1 dX4_isOfSame_0 rfl (lv_at hl 0 rfl) ?_
  refine gx_getR C g fl_X4_15 dX4_isOfSame_1 sh_4 rfl (by decide) ?_
  refine lv_iload_n C.1 C.2.1 dX4_isOfSame_4 rfl (lv_at hl 1 rfl) ?_
  obtain ⟨i1, h⟩ := h
  refine gx_iald C g dX4_isOfSame_5 sh_21 i1 ?_
  refine lv_aload_n C.1 C.2.1 dX4_isOfSame_6 rfl (lv_at hl 0 rfl) ?_
  refine gx_getR C g fl_X4_15 dX4_isOfSame_7 sh_4 rfl (by decide) ?_
  refine lv_iload_n C.1 C.2.1 dX4_isOfSame_10 rfl (lv_at hl 2 rfl) ?_
  obtain ⟨i2, h⟩ := h
  refine gx_iald C g dX4_isOfSame_11 sh_21 i2 ?_
  refine lv_icmp_ne (tgt := 34) C.1 C.2.1 dX4_isOfSame_12 (by decide) (fun c3 => ?_) (fun c3 => ?_)
  · have h := h.2 c3
    refine lv_iconst (v := 0) C.1 C.2.1 dX4_isOfSame_34 (by decide) ?_
    exact gx_zret C hr g dX4_isOfSame_35 (by decide) h
  · have h := h.1 c3
    refine lv_aload_n C.1 C.2.1 dX4_isOfSame_15 rfl (lv_at hl 0 rfl) ?_
    refine gx_getR C g fl_X4_18 dX4_isOfSame_16 sh_4 rfl (by decide) ?_
    refine lv_iload_n C.1 C.2.1 dX4_isOfSame_19 rfl (lv_at hl 1 rfl) ?_
    obtain ⟨i4, h⟩ := h
    refine gx_zald C g dX4_isOfSame_20 sh_22 i4 ?_
    refine lv_aload_n C.1 C.2.1 dX4_isOfSame_21 rfl (lv_at hl 0 rfl) ?_
    refine gx_getR C g fl_X4_18 dX4_isOfSame_22 sh_4 rfl (by decide) ?_
    refine lv_iload_n C.1 C.2.1 dX4_isOfSame_25 rfl (lv_at hl 2 rfl) ?_
    obtain ⟨i5, h⟩ := h
    refine gx_zald C g dX4_isOfSame_26 sh_22 i5 ?_
    refine lv_icmp_ne (tgt := 34) C.1 C.2.1 dX4_isOfSame_27 (by decide) (fun c6 => ?_) (fun c6 => ?_)
    · have h := h.2 c6
      refine lv_iconst (v := 0) C.1 C.2.1 dX4_isOfSame_34 (by decide) ?_
      exact gx_zret C hr g dX4_isOfSame_35 (by decide) h
    · have h := h.1 c6
      refine lv_iconst (v := 1) C.1 C.2.1 dX4_isOfSame_30 (by decide) ?_
      refine lv_goto (tgt := 35) C.1 C.2.1 dX4_isOfSame_31 (by decide) ?_
      exact gx_zret C hr g dX4_isOfSame_35 (by decide) h
theorem mX4_isOfSame {l : Launch} {E : EE} {base : Nat} (x1 : Int32) (x2 : Int32) (σ : St) (Q : Int32 → St → Prop) (h : wX4_isOfSame x1 x2 σ Q) : Met l yX4_isOfSame (wy yX4_isOfSame cX4_isOfSame 3 (some .boolean)) rmX4_isOfSame (va_Pc [.ref (ga E 4), .int x1, .int x2] (fun U => SW E base σ U)) (QI E base Q) (rmX4_isOfSame).cells (rmX4_isOfSame).slots (fun q => base ≤ q) :=
  met_of (by decide) (Nat.le_of_ble_eq_true rfl) (fun p e s m args below meth c C hr g ls hl => tX4_isOfSame_e C hr x1 x2 _ _ _ _ hl g h)
abbrev rmX4_matters : Room := { frames := 1, cells := 0, slots := 0, locals := 22 }
def wX4_matters_93 (Q : Int32 → St → Prop) (x1 : Int32) (x2 : Int32) (x3 : Int32) (σ : St) : Prop := ((x3 = 0 → Q (0 : Int32) σ) ∧ (¬ (x3 = 0) → vp_in x1 200 ∧ ((x2 = (gv σ 23 x1.toNatClampNeg) → Q (0 : Int32) σ) ∧ (¬ (x2 = (gv σ 23 x1.toNatClampNeg)) → Q (1 : Int32) σ))))
def wX4_matters_86 (Q : Int32 → St → Prop) (K42 : Int32 → Int32 → Int32 → Int32 → St → Prop) (x1 : Int32) (x2 : Int32) (x4 : Int32) (xt0 : Int32) (σ : St) : Prop := ∀ x4_1 : Int32, x4_1 = x4 + 1 → K42 x1 x2 xt0 x4_1 σ
def wX4_matters_85 (Q : Int32 → St → Prop) (K42 : Int32 → Int32 → Int32 → Int32 → St → Prop) (x1 : Int32) (x2 : Int32) (x4 : Int32) (σ : St) : Prop := wX4_matters_86 Q K42 x1 x2 x4 (0 : Int32) σ
def wX4_matters_42 (Q : Int32 → St → Prop) : Nat → Int32 → Int32 → Int32 → Int32 → St → Prop
  | 0, _, _, _, _, _ => False
  | n + 1, x1, x2, x3, x4, σ => (((gv σ 4 4) ≤ x4 → wX4_matters_93 Q x1 x2 x3 σ) ∧ (¬ ((gv σ 4 4) ≤ x4) → vp_in x4 200 ∧ vp_in x1 200 ∧ (((gv σ 20 x4.toNatClampNeg) = (gv σ 20 x1.toNatClampNeg) → ((x3 = 0 → wX4_matters_85 Q (fun x1' x2' x3' x4' σ' => wX4_matters_42 Q n x1' x2' x3' x4' σ') x1 x2 x4 σ) ∧ (¬ (x3 = 0) → wX4_isOfSame x4 x1 σ (fun (r6 : Int32) (σ7 : St) => ((r6 = 0 → wX4_matters_86 Q (fun x1' x2' x3' x4' σ' => wX4_matters_42 Q n x1' x2' x3' x4' σ') x1 x2 x4 (1 : Int32) σ7) ∧ (¬ (r6 = 0) → wX4_matters_85 Q (fun x1' x2' x3' x4' σ' => wX4_matters_42 Q n x1' x2' x3' x4' σ') x1 x2 x4 σ7)))))) ∧ (¬ ((gv σ 20 x4.toNatClampNeg) = (gv σ 20 x1.toNatClampNeg)) → wX4_matters_93 Q x1 x2 x3 σ))))
def wX4_matters_28 (Q : Int32 → St → Prop) (K4 : Int32 → Int32 → Int32 → St → Prop) (x1 : Int32) (x3 : Int32) (xt0 : Int32) (σ : St) : Prop := ∀ x3_1 : Int32, x3_1 = x3 + 1 → K4 x1 xt0 x3_1 σ
def wX4_matters_4 (Q : Int32 → St → Prop) : Nat → Int32 → Int32 → Int32 → St → Prop
  | 0, _, _, _, _ => False
  | n + 1, x1, x2, x3, σ => ((x1 ≤ x3 → ∀ x4_2 : Int32, x4_2 = x1 + (1 : Int32) → ∃ j : Nat, wX4_matters_42 Q j x1 x2 (1 : Int32) x4_2 σ) ∧ (¬ (x1 ≤ x3) → wX4_isOfSame x3 x1 σ (fun (r3 : Int32) (σ4 : St) => ((r3 = 0 → wX4_matters_28 Q (fun x1' x2' x3' σ' => wX4_matters_4 Q n x1' x2' x3' σ') x1 x3 x2 σ4) ∧ (¬ (r3 = 0) → vp_in x3 200 ∧ wX4_matters_28 Q (fun x1' x2' x3' σ' => wX4_matters_4 Q n x1' x2' x3' σ') x1 x3 (gv σ4 23 x3.toNatClampNeg) σ4)))))
def wX4_matters (x1 : Int32) (σ : St) (Q : Int32 → St → Prop) : Prop := ∃ j : Nat, wX4_matters_4 Q j x1 (0 : Int32) (0 : Int32) σ
set_option maxHeartbeats 4000000 in
set_option maxRecDepth 100000 in
theorem tX4_matters_93 {p : Program} {l : Launch} {e : Env} {s : State} {m : MethodId} {args : Array Value} {below : List Frame} {meth : Method} {c : Code} {E : EE} {base : Nat} (C : Cx p E base s m args meth c cX4_matters 5 RX4) (hr : meth.sig.returnType = (some .boolean)) {Q : Int32 → St → Prop} : ∀ (x1 : Int32) (x2 : Int32) (x3 : Int32) (σ : St) (H : Heap) (locs : List Loc) (ls : Array Slot), lv_has ls 5 [(0, .ref (ga E 4)), (1, .int x1), (2, .int x2), (3, .int x3)] → GW E base s σ H locs → wX4_matters_93 Q x1 x2 x3 σ → W p l e rmX4_matters s m args below meth c H locs 0 0 (MQ below (QI E base Q) args s 0 0 (fun q => base ≤ q)) (F0 m 93 ls []) := by
  intro x1 x2 x3 σ H locs ls hl g h
  refine lv_iload_n C.1 C.2.1 dX4_matters_93 rfl (lv_at hl 3 rfl) ?_
  refine lv_if_eq (tgt := 111) C.1 C.2.1 dX4_matters_94 (by decide) (fun c1 => ?_) (fun c1 => ?_)
  · have h := h.1 c1
    refine lv_iconst (v := 0) C.1 C.2.1 dX4_matters_111 (by decide) ?_
    exact gx_zret C hr g dX4_matters_112 (by decide) h
  · have h := h.2 c1
    refine lv_iload_n C.1 C.2.1 dX4_matters_97 rfl (lv_at hl 2 rfl) ?_
    refine lv_aload_n C.1 C.2.1 dX4_matters_98 rfl (lv_at hl 0 rfl) ?_
    refine gx_getR C g fl_X4_22 dX4_matters_99 sh_4 rfl (by decide) ?_
    refine lv_iload_n C.1 C.2.1 dX4_matters_102 rfl (lv_at hl 1 rfl) ?_
    obtain ⟨i2, h⟩ := h
    refine gx_iald C g dX4_matters_103 sh_23 i2 ?_
    refine lv_icmp_eq (tgt := 111) C.1 C.2.1 dX4_matters_104 (by decide) (fun c3 => ?_) (fun c3 => ?_)
    · have h := h.1 c3
      refine lv_iconst (v := 0) C.1 C.2.1 dX4_matters_111 (by decide) ?_
      exact gx_zret C hr g dX4_matters_112 (by decide) h
    · have h := h.2 c3
      refine lv_iconst (v := 1) C.1 C.2.1 dX4_matters_107 (by decide) ?_
      refine lv_goto (tgt := 112) C.1 C.2.1 dX4_matters_108 (by decide) ?_
      exact gx_zret C hr g dX4_matters_112 (by decide) h
set_option maxHeartbeats 4000000 in
set_option maxRecDepth 100000 in
theorem tX4_matters_86 {p : Program} {l : Launch} {e : Env} {s : State} {m : MethodId} {args : Array Value} {below : List Frame} {meth : Method} {c : Code} {E : EE} {base : Nat} (C : Cx p E base s m args meth c cX4_matters 5 RX4) (hr : meth.sig.returnType = (some .boolean)) {Q : Int32 → St → Prop} {K42 : Int32 → Int32 → Int32 → Int32 → St → Prop} (hK42 : ∀ (x1 : Int32) (x2 : Int32) (x3 : Int32) (x4 : Int32) (σ : St) (H : Heap) (locs : List Loc) (ls : Array Slot), lv_has ls 5 [(0, .ref (ga E 4)), (1, .int x1), (2, .int x2), (3, .int x3), (4, .int x4)] → GW E base s σ H locs → K42 x1 x2 x3 x4 σ → W p l e rmX4_matters s m args below meth c H locs 0 0 (MQ below (QI E base Q) args s 0 0 (fun q => base ≤ q)) (F0 m 42 ls [])) : ∀ (x1 : Int32) (x2 : Int32) (x4 : Int32) (xt0 : Int32) (σ : St) (H : Heap) (locs : List Loc) (ls : Array Slot), lv_has ls 5 [(0, .ref (ga E 4)), (1, .int x1), (2, .int x2), (4, .int x4)] → GW E base s σ H locs → wX4_matters_86 Q K42 x1 x2 x4 xt0 σ → W p l e rmX4_matters s m args below meth c H locs 0 0 (MQ below (QI E base Q) args s 0 0 (fun q => base ≤ q)) (F0 m 86 ls [.int xt0]) := by
  intro x1 x2 x4 xt0 σ H locs ls hl g h
  refine lv_istore_n (lv' := [(3, .int xt0), (0, .ref (ga E 4)), (1, .int x1), (2, .int x2), (4, .int x4)]) C.1 C.2.1 dX4_matters_86 rfl hl (by decide) rfl (fun ls hl => ?_)
  obtain ⟨x4_1, ex4_1⟩ : ∃ y : Int32, y = x4 + 1 := ⟨_, rfl⟩
  have h := h x4_1 ex4_1
  refine lv_iinc (v := x4_1) (lv' := [(4, .int x4_1), (3, .int xt0), (0, .ref (ga E 4)), (1, .int x1), (2, .int x2)]) C.1 C.2.1 dX4_matters_87 hl (k := 4) rfl (by rw [ex4_1]; rfl) (by decide) rfl (fun ls hl => ?_)
  refine lv_goto (tgt := 42) C.1 C.2.1 dX4_matters_90 (by decide) ?_
  exact hK42 x1 x2 xt0 x4_1 _ _ _ _ (lv_sub hl [2, 3, 4, 1, 0] rfl) g h
set_option maxHeartbeats 4000000 in
set_option maxRecDepth 100000 in
theorem tX4_matters_85 {p : Program} {l : Launch} {e : Env} {s : State} {m : MethodId} {args : Array Value} {below : List Frame} {meth : Method} {c : Code} {E : EE} {base : Nat} (C : Cx p E base s m args meth c cX4_matters 5 RX4) (hr : meth.sig.returnType = (some .boolean)) {Q : Int32 → St → Prop} {K42 : Int32 → Int32 → Int32 → Int32 → St → Prop} (hK42 : ∀ (x1 : Int32) (x2 : Int32) (x3 : Int32) (x4 : Int32) (σ : St) (H : Heap) (locs : List Loc) (ls : Array Slot), lv_has ls 5 [(0, .ref (ga E 4)), (1, .int x1), (2, .int x2), (3, .int x3), (4, .int x4)] → GW E base s σ H locs → K42 x1 x2 x3 x4 σ → W p l e rmX4_matters s m args below meth c H locs 0 0 (MQ below (QI E base Q) args s 0 0 (fun q => base ≤ q)) (F0 m 42 ls [])) : ∀ (x1 : Int32) (x2 : Int32) (x4 : Int32) (σ : St) (H : Heap) (locs : List Loc) (ls : Array Slot), lv_has ls 5 [(0, .ref (ga E 4)), (1, .int x1), (2, .int x2), (4, .int x4)] → GW E base s σ H locs → wX4_matters_85 Q K42 x1 x2 x4 σ → W p l e rmX4_matters s m args below meth c H locs 0 0 (MQ below (QI E base Q) args s 0 0 (fun q => base ≤ q)) (F0 m 85 ls []) := by
  intro x1 x2 x4 σ H locs ls hl g h
  refine lv_iconst (v := 0) C.1 C.2.1 dX4_matters_85 (by decide) ?_
  exact tX4_matters_86 C hr hK42 x1 x2 x4 (0 : Int32) _ _ _ _ (lv_sub hl [0, 1, 2, 3] rfl) g h
set_option maxHeartbeats 4000000 in
set_option maxRecDepth 100000 in
theorem tX4_matters_42 {p : Program} {l : Launch} {e : Env} {s : State} {m : MethodId} {args : Array Value} {below : List Frame} {meth : Method} {c : Code} {E : EE} {base : Nat} (C : Cx p E base s m args meth c cX4_matters 5 RX4) (hr : meth.sig.returnType = (some .boolean)) {Q : Int32 → St → Prop} : ∀ (n : Nat) (x1 : Int32) (x2 : Int32) (x3 : Int32) (x4 : Int32) (σ : St) (H : Heap) (locs : List Loc) (ls : Array Slot), lv_has ls 5 [(0, .ref (ga E 4)), (1, .int x1), (2, .int x2), (3, .int x3), (4, .int x4)] → GW E base s σ H locs → wX4_matters_42 Q n x1 x2 x3 x4 σ → W p l e rmX4_matters s m args below meth c H locs 0 0 (MQ below (QI E base Q) args s 0 0 (fun q => base ≤ q)) (F0 m 42 ls []) := by
  intro n
  induction n with
  | zero => intro _ _ _ _; intros; exact False.elim (by assumption)
  | succ n ih =>
    intro x1 x2 x3 x4 σ H locs ls hl g h
    refine lv_iload C.1 C.2.1 dX4_matters_42 (lv_at hl 4 rfl) ?_
    refine lv_aload_n C.1 C.2.1 dX4_matters_44 rfl (lv_at hl 0 rfl) ?_
    refine gx_getI C g fl_X4_25 dX4_matters_45 sh_4 rfl ?_
    refine lv_icmp_ge (tgt := 93) C.1 C.2.1 dX4_matters_48 (by decide) (fun c1 => ?_) (fun c1 => ?_)
    · have h := h.1 c1
      exact tX4_matters_93 C hr x1 x2 x3 _ _ _ _ (lv_sub hl [0, 1, 2, 3] rfl) g h
    · have h := h.2 c1
      refine lv_aload_n C.1 C.2.1 dX4_matters_51 rfl (lv_at hl 0 rfl) ?_
      refine gx_getR C g fl_X4_11 dX4_matters_52 sh_4 rfl (by decide) ?_
      refine lv_iload C.1 C.2.1 dX4_matters_55 (lv_at hl 4 rfl) ?_
      obtain ⟨i2, h⟩ := h
      refine gx_iald C g dX4_matters_57 sh_20 i2 ?_
      refine lv_aload_n C.1 C.2.1 dX4_matters_58 rfl (lv_at hl 0 rfl) ?_
      refine gx_getR C g fl_X4_11 dX4_matters_59 sh_4 rfl (by decide) ?_
      refine lv_iload_n C.1 C.2.1 dX4_matters_62 rfl (lv_at hl 1 rfl) ?_
      obtain ⟨i3, h⟩ := h
      refine gx_iald C g dX4_matters_63 sh_20 i3 ?_
      refine lv_icmp_ne (tgt := 93) C.1 C.2.1 dX4_matters_64 (by decide) (fun c4 => ?_) (fun c4 => ?_)
      · have h := h.2 c4
        exact tX4_matters_93 C hr x1 x2 x3 _ _ _ _ (lv_sub hl [0, 1, 2, 3] rfl) g h
      · have h := h.1 c4
        refine lv_iload_n C.1 C.2.1 dX4_matters_67 rfl (lv_at hl 3 rfl) ?_
        refine lv_if_eq (tgt := 85) C.1 C.2.1 dX4_matters_68 (by decide) (fun c5 => ?_) (fun c5 => ?_)
        · have h := h.1 c5
          exact tX4_matters_85 C hr ih x1 x2 x4 _ _ _ _ (lv_sub hl [0, 1, 2, 4] rfl) g h
        · have h := h.2 c5
          refine lv_aload_n C.1 C.2.1 dX4_matters_71 rfl (lv_at hl 0 rfl) ?_
          refine lv_iload C.1 C.2.1 dX4_matters_72 (lv_at hl 4 rfl) ?_
          refine lv_iload_n C.1 C.2.1 dX4_matters_74 rfl (lv_at hl 1 rfl) ?_
          refine gx_calli0 g (gx_runV (k := 4) (rest := []) C g mb_X4_isOfSame ml_X4_29 rfl sh_4 (mX4_isOfSame x4 x1 _ _ h) ⟨Nat.le_of_ble_eq_true rfl, Nat.le_of_ble_eq_true rfl⟩ ⟨Nat.le_refl _, Nat.le_refl _⟩ rfl hl.1 rfl (Nat.le_of_ble_eq_true rfl) dX4_matters_75) rfl rfl (fun r6 σ7 H locs h g => ?_)
          refine lv_if_ne (tgt := 85) C.1 C.2.1 dX4_matters_78 (by decide) (fun c8 => ?_) (fun c8 => ?_)
          · have h := h.2 c8
            exact tX4_matters_85 C hr ih x1 x2 x4 _ _ _ _ (lv_sub hl [0, 1, 2, 4] rfl) g h
          · have h := h.1 c8
            refine lv_iconst (v := 1) C.1 C.2.1 dX4_matters_81 (by decide) ?_
            refine lv_goto (tgt := 86) C.1 C.2.1 dX4_matters_82 (by decide) ?_
            exact tX4_matters_86 C hr ih x1 x2 x4 (1 : Int32) _ _ _ _ (lv_sub hl [0, 1, 2, 4] rfl) g h
set_option maxHeartbeats 4000000 in
set_option maxRecDepth 100000 in
theorem tX4_matters_28 {p : Program} {l : Launch} {e : Env} {s : State} {m : MethodId} {args : Array Value} {below : List Frame} {meth : Method} {c : Code} {E : EE} {base : Nat} (C : Cx p E base s m args meth c cX4_matters 5 RX4) (hr : meth.sig.returnType = (some .boolean)) {Q : Int32 → St → Prop} {K4 : Int32 → Int32 → Int32 → St → Prop} (hK4 : ∀ (x1 : Int32) (x2 : Int32) (x3 : Int32) (σ : St) (H : Heap) (locs : List Loc) (ls : Array Slot), lv_has ls 5 [(0, .ref (ga E 4)), (1, .int x1), (2, .int x2), (3, .int x3)] → GW E base s σ H locs → K4 x1 x2 x3 σ → W p l e rmX4_matters s m args below meth c H locs 0 0 (MQ below (QI E base Q) args s 0 0 (fun q => base ≤ q)) (F0 m 4 ls [])) : ∀ (x1 : Int32) (x3 : Int32) (xt0 : Int32) (σ : St) (H : Heap) (locs : List Loc) (ls : Array Slot), lv_has ls 5 [(0, .ref (ga E 4)), (1, .int x1), (3, .int x3)] → GW E base s σ H locs → wX4_matters_28 Q K4 x1 x3 xt0 σ → W p l e rmX4_matters s m args below meth c H locs 0 0 (MQ below (QI E base Q) args s 0 0 (fun q => base ≤ q)) (F0 m 28 ls [.int xt0]) := by
  intro x1 x3 xt0 σ H locs ls hl g h
  refine lv_istore_n (lv' := [(2, .int xt0), (0, .ref (ga E 4)), (1, .int x1), (3, .int x3)]) C.1 C.2.1 dX4_matters_28 rfl hl (by decide) rfl (fun ls hl => ?_)
  obtain ⟨x3_1, ex3_1⟩ : ∃ y : Int32, y = x3 + 1 := ⟨_, rfl⟩
  have h := h x3_1 ex3_1
  refine lv_iinc (v := x3_1) (lv' := [(3, .int x3_1), (2, .int xt0), (0, .ref (ga E 4)), (1, .int x1)]) C.1 C.2.1 dX4_matters_29 hl (k := 3) rfl (by rw [ex3_1]; rfl) (by decide) rfl (fun ls hl => ?_)
  refine lv_goto (tgt := 4) C.1 C.2.1 dX4_matters_32 (by decide) ?_
  exact hK4 x1 xt0 x3_1 _ _ _ _ (lv_sub hl [2, 3, 1, 0] rfl) g h
set_option maxHeartbeats 4000000 in
set_option maxRecDepth 100000 in
theorem tX4_matters_4 {p : Program} {l : Launch} {e : Env} {s : State} {m : MethodId} {args : Array Value} {below : List Frame} {meth : Method} {c : Code} {E : EE} {base : Nat} (C : Cx p E base s m args meth c cX4_matters 5 RX4) (hr : meth.sig.returnType = (some .boolean)) {Q : Int32 → St → Prop} : ∀ (n : Nat) (x1 : Int32) (x2 : Int32) (x3 : Int32) (σ : St) (H : Heap) (locs : List Loc) (ls : Array Slot), lv_has ls 5 [(0, .ref (ga E 4)), (1, .int x1), (2, .int x2), (3, .int x3)] → GW E base s σ H locs → wX4_matters_4 Q n x1 x2 x3 σ → W p l e rmX4_matters s m args below meth c H locs 0 0 (MQ below (QI E base Q) args s 0 0 (fun q => base ≤ q)) (F0 m 4 ls []) := by
  intro n
  induction n with
  | zero => intro _ _ _; intros; exact False.elim (by assumption)
  | succ n ih =>
    intro x1 x2 x3 σ H locs ls hl g h
    refine lv_iload_n C.1 C.2.1 dX4_matters_4 rfl (lv_at hl 3 rfl) ?_
    refine lv_iload_n C.1 C.2.1 dX4_matters_5 rfl (lv_at hl 1 rfl) ?_
    refine lv_icmp_ge (tgt := 35) C.1 C.2.1 dX4_matters_6 (by decide) (fun c1 => ?_) (fun c1 => ?_)
    · have h := h.1 c1
      refine lv_iconst (v := 1) C.1 C.2.1 dX4_matters_35 (by decide) ?_
      refine lv_istore_n (lv' := [(3, .int (1 : Int32)), (0, .ref (ga E 4)), (1, .int x1), (2, .int x2)]) C.1 C.2.1 dX4_matters_36 rfl hl (by decide) rfl (fun ls hl => ?_)
      refine lv_iload_n C.1 C.2.1 dX4_matters_37 rfl (lv_at hl 2 rfl) ?_
      refine lv_iconst (v := 1) C.1 C.2.1 dX4_matters_38 (by decide) ?_
      refine lv_iadd C.1 C.2.1 dX4_matters_39 ?_
      refine lv_topi (fun x4_2 ex4_2 => ?_)
      have h := h x4_2 ex4_2
      refine lv_istore (lv' := [(4, .int x4_2), (3, .int (1 : Int32)), (0, .ref (ga E 4)), (1, .int x1), (2, .int x2)]) C.1 C.2.1 dX4_matters_40 hl (by decide) rfl (fun ls hl => ?_)
      obtain ⟨j, h⟩ := h
      exact tX4_matters_42 C hr j x1 x2 (1 : Int32) x4_2 _ _ _ _ (lv_sub hl [2, 3, 4, 1, 0] rfl) g h
    · have h := h.2 c1
      refine lv_aload_n C.1 C.2.1 dX4_matters_9 rfl (lv_at hl 0 rfl) ?_
      refine lv_iload_n C.1 C.2.1 dX4_matters_10 rfl (lv_at hl 3 rfl) ?_
      refine lv_iload_n C.1 C.2.1 dX4_matters_11 rfl (lv_at hl 1 rfl) ?_
      refine gx_calli0 g (gx_runV (k := 4) (rest := []) C g mb_X4_isOfSame ml_X4_29 rfl sh_4 (mX4_isOfSame x3 x1 _ _ h) ⟨Nat.le_of_ble_eq_true rfl, Nat.le_of_ble_eq_true rfl⟩ ⟨Nat.le_refl _, Nat.le_refl _⟩ rfl hl.1 rfl (Nat.le_of_ble_eq_true rfl) dX4_matters_12) rfl rfl (fun r3 σ4 H locs h g => ?_)
      refine lv_if_eq (tgt := 27) C.1 C.2.1 dX4_matters_15 (by decide) (fun c5 => ?_) (fun c5 => ?_)
      · have h := h.1 c5
        refine lv_iload_n C.1 C.2.1 dX4_matters_27 rfl (lv_at hl 2 rfl) ?_
        exact tX4_matters_28 C hr ih x1 x3 x2 _ _ _ _ (lv_sub hl [0, 1, 3] rfl) g h
      · have h := h.2 c5
        refine lv_aload_n C.1 C.2.1 dX4_matters_18 rfl (lv_at hl 0 rfl) ?_
        refine gx_getR C g fl_X4_22 dX4_matters_19 sh_4 rfl (by decide) ?_
        refine lv_iload_n C.1 C.2.1 dX4_matters_22 rfl (lv_at hl 3 rfl) ?_
        obtain ⟨i6, h⟩ := h
        refine gx_iald C g dX4_matters_23 sh_23 i6 ?_
        refine lv_goto (tgt := 28) C.1 C.2.1 dX4_matters_24 (by decide) ?_
        exact tX4_matters_28 C hr ih x1 x3 (gv σ4 23 x3.toNatClampNeg) _ _ _ _ (lv_sub hl [0, 1, 3] rfl) g h
set_option maxHeartbeats 4000000 in
set_option maxRecDepth 100000 in
theorem tX4_matters_e {p : Program} {l : Launch} {e : Env} {s : State} {m : MethodId} {args : Array Value} {below : List Frame} {meth : Method} {c : Code} {E : EE} {base : Nat} (C : Cx p E base s m args meth c cX4_matters 5 RX4) (hr : meth.sig.returnType = (some .boolean)) {Q : Int32 → St → Prop} : ∀ (x1 : Int32) (σ : St) (H : Heap) (locs : List Loc) (ls : Array Slot), lv_has ls 5 [(0, .ref (ga E 4)), (1, .int x1)] → GW E base s σ H locs → wX4_matters x1 σ Q → W p l e rmX4_matters s m args below meth c H locs 0 0 (MQ below (QI E base Q) args s 0 0 (fun q => base ≤ q)) (F0 m 0 ls []) := by
  intro x1 σ H locs ls hl g h
  refine lv_iconst (v := 0) C.1 C.2.1 dX4_matters_0 (by decide) ?_
  refine lv_istore_n (lv' := [(2, .int (0 : Int32)), (0, .ref (ga E 4)), (1, .int x1)]) C.1 C.2.1 dX4_matters_1 rfl hl (by decide) rfl (fun ls hl => ?_)
  refine lv_iconst (v := 0) C.1 C.2.1 dX4_matters_2 (by decide) ?_
  refine lv_istore_n (lv' := [(3, .int (0 : Int32)), (2, .int (0 : Int32)), (0, .ref (ga E 4)), (1, .int x1)]) C.1 C.2.1 dX4_matters_3 rfl hl (by decide) rfl (fun ls hl => ?_)
  obtain ⟨j, h⟩ := h
  exact tX4_matters_4 C hr j x1 (0 : Int32) (0 : Int32) _ _ _ _ (lv_sub hl [2, 3, 1, 0] rfl) g h
theorem mX4_matters {l : Launch} {E : EE} {base : Nat} (x1 : Int32) (σ : St) (Q : Int32 → St → Prop) (h : wX4_matters x1 σ Q) : Met l yX4_matters (wy yX4_matters cX4_matters 5 (some .boolean)) rmX4_matters (va_Pc [.ref (ga E 4), .int x1] (fun U => SW E base σ U)) (QI E base Q) (rmX4_matters).cells (rmX4_matters).slots (fun q => base ≤ q) :=
  met_of (by decide) (Nat.le_of_ble_eq_true rfl) (fun p e s m args below meth c C hr g ls hl => tX4_matters_e C hr x1 _ _ _ _ hl g h)
