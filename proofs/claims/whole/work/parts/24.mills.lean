abbrev rmX3_add : Room := { frames := 0, cells := 0, slots := 0, locals := 0 }
def wX3_add_55 (Q : Int32 → St → Prop) (x1 : Int32) (x2 : Int32) (x3 : Int32) (x4 : Int32) (x5 : Int32) (xt0 : Int32) (σ : St) : Prop := ((x5 = 0 → Q (-1 : Int32) σ) ∧ (¬ (x5 = 0) → ((xt0 = 0 → Q (-1 : Int32) σ) ∧ (¬ (xt0 = 0) → (((gv σ 2 4) < (7 : Int32) → vp_in (gv σ 2 4) 7 ∧ ∀ σ5 : St, σ5 = pv σ 12 (gv σ 2 4).toNatClampNeg x1 → vp_in (gv σ5 2 4) 7 ∧ ∀ σ7 : St, σ7 = pv σ5 13 (gv σ5 2 4).toNatClampNeg x2 → vp_in (gv σ7 2 4) 7 ∧ ∀ σ9 : St, σ9 = pv σ7 14 (gv σ7 2 4).toNatClampNeg x3 → vp_in (gv σ9 2 4) 7 ∧ ∀ σ11 : St, σ11 = pv σ9 15 (gv σ9 2 4).toNatClampNeg x4 → ∀ σ12 : St, σ12 = pv σ11 2 4 ((gv σ11 2 4) + (1 : Int32)) → Q ((gv σ12 2 4) - (1 : Int32)) σ12) ∧ (¬ ((gv σ 2 4) < (7 : Int32)) → Q (-1 : Int32) σ))))))
def wX3_add_54 (Q : Int32 → St → Prop) (x1 : Int32) (x2 : Int32) (x3 : Int32) (x4 : Int32) (x5 : Int32) (σ : St) : Prop := wX3_add_55 Q x1 x2 x3 x4 x5 (0 : Int32) σ
def wX3_add_26 (Q : Int32 → St → Prop) (x1 : Int32) (x2 : Int32) (x3 : Int32) (x4 : Int32) (xt0 : Int32) (σ : St) : Prop := ((x3 < (1 : Int32) → wX3_add_54 Q x1 x2 x3 x4 xt0 σ) ∧ (¬ (x3 < (1 : Int32)) → (((4 : Int32) < x3 → wX3_add_54 Q x1 x2 x3 x4 xt0 σ) ∧ (¬ ((4 : Int32) < x3) → ((x4 < 0 → wX3_add_54 Q x1 x2 x3 x4 xt0 σ) ∧ (¬ (x4 < 0) → (((9 : Int32) < x4 → wX3_add_54 Q x1 x2 x3 x4 xt0 σ) ∧ (¬ ((9 : Int32) < x4) → wX3_add_55 Q x1 x2 x3 x4 xt0 (1 : Int32) σ))))))))
def wX3_add_25 (Q : Int32 → St → Prop) (x1 : Int32) (x2 : Int32) (x3 : Int32) (x4 : Int32) (σ : St) : Prop := wX3_add_26 Q x1 x2 x3 x4 (0 : Int32) σ
def wX3_add (x1 : Int32) (x2 : Int32) (x3 : Int32) (x4 : Int32) (σ : St) (Q : Int32 → St → Prop) : Prop := ((x1 < (1 : Int32) → wX3_add_25 Q x1 x2 x3 x4 σ) ∧ (¬ (x1 < (1 : Int32)) → (((1000 : Int32) < x1 → wX3_add_25 Q x1 x2 x3 x4 σ) ∧ (¬ ((1000 : Int32) < x1) → ((x2 < 0 → wX3_add_25 Q x1 x2 x3 x4 σ) ∧ (¬ (x2 < 0) → ((x1 < x2 → wX3_add_25 Q x1 x2 x3 x4 σ) ∧ (¬ (x1 < x2) → wX3_add_26 Q x1 x2 x3 x4 (1 : Int32) σ))))))))
set_option maxHeartbeats 4000000 in
set_option maxRecDepth 100000 in
theorem tX3_add_55 {p : Program} {l : Launch} {e : Env} {s : State} {m : MethodId} {args : Array Value} {below : List Frame} {meth : Method} {c : Code} {E : EE} {base : Nat} (C : Cx p E base s m args meth c cX3_add 7 RX3) (hr : meth.sig.returnType = (some .int)) {Q : Int32 → St → Prop} : ∀ (x1 : Int32) (x2 : Int32) (x3 : Int32) (x4 : Int32) (x5 : Int32) (xt0 : Int32) (σ : St) (H : Heap) (locs : List Loc) (ls : Array Slot), lv_has ls 7 [(0, .ref (ga E 2)), (1, .int x1), (2, .int x2), (3, .int x3), (4, .int x4), (5, .int x5)] → GW E base s σ H locs → wX3_add_55 Q x1 x2 x3 x4 x5 xt0 σ → W p l e rmX3_add s m args below meth c H locs 0 0 (MQ below (QI E base Q) args s 0 0 (fun q => base ≤ q)) (F0 m 55 ls [.int xt0]) := by
  intro x1 x2 x3 x4 x5 xt0 σ H locs ls hl g h
  refine lv_istore (lv' := [(6, .int xt0), (0, .ref (ga E 2)), (1, .int x1), (2, .int x2), (3, .int x3), (4, .int x4), (5, .int x5)]) C.1 C.2.1 dX3_add_55 hl (by decide) rfl (fun ls hl => ?_)
  refine lv_iload C.1 C.2.1 dX3_add_57 (lv_at hl 6 rfl) ?_
  refine lv_if_eq (tgt := 76) C.1 C.2.1 dX3_add_59 (by decide) (fun c1 => ?_) (fun c1 => ?_)
  · have h := h.1 c1
    refine lv_iconst (v := -1) C.1 C.2.1 dX3_add_76 (by decide) ?_
    exact gx_iret C hr g dX3_add_77 h
  · have h := h.2 c1
    refine lv_iload C.1 C.2.1 dX3_add_62 (lv_at hl 0 rfl) ?_
    refine lv_if_eq (tgt := 76) C.1 C.2.1 dX3_add_64 (by decide) (fun c2 => ?_) (fun c2 => ?_)
    · have h := h.1 c2
      refine lv_iconst (v := -1) C.1 C.2.1 dX3_add_76 (by decide) ?_
      exact gx_iret C hr g dX3_add_77 h
    · have h := h.2 c2
      refine lv_aload_n C.1 C.2.1 dX3_add_67 rfl (lv_at hl 1 rfl) ?_
      refine gx_getI C g fl_X3_24 dX3_add_68 sh_2 rfl ?_
      refine lv_bipush (v := 7) C.1 C.2.1 dX3_add_71 (by decide) ?_
      refine lv_icmp_lt (tgt := 78) C.1 C.2.1 dX3_add_73 (by decide) (fun c3 => ?_) (fun c3 => ?_)
      · have h := h.1 c3
        refine lv_aload_n C.1 C.2.1 dX3_add_78 rfl (lv_at hl 1 rfl) ?_
        refine gx_getR C g fl_X3_9 dX3_add_79 sh_2 rfl (by decide) ?_
        refine lv_aload_n C.1 C.2.1 dX3_add_82 rfl (lv_at hl 1 rfl) ?_
        refine gx_getI C g fl_X3_24 dX3_add_83 sh_2 rfl ?_
        refine lv_iload_n C.1 C.2.1 dX3_add_86 rfl (lv_at hl 2 rfl) ?_
        obtain ⟨i4, h⟩ := h
        refine gx_iast C g dX3_add_87 sh_12 i4 (fun H locs σ5 eσ5 g => ?_)
        have h := h σ5 eσ5
        refine lv_aload_n C.1 C.2.1 dX3_add_88 rfl (lv_at hl 1 rfl) ?_
        refine gx_getR C g fl_X3_15 dX3_add_89 sh_2 rfl (by decide) ?_
        refine lv_aload_n C.1 C.2.1 dX3_add_92 rfl (lv_at hl 1 rfl) ?_
        refine gx_getI C g fl_X3_24 dX3_add_93 sh_2 rfl ?_
        refine lv_iload_n C.1 C.2.1 dX3_add_96 rfl (lv_at hl 3 rfl) ?_
        obtain ⟨i6, h⟩ := h
        refine gx_iast C g dX3_add_97 sh_13 i6 (fun H locs σ7 eσ7 g => ?_)
        have h := h σ7 eσ7
        refine lv_aload_n C.1 C.2.1 dX3_add_98 rfl (lv_at hl 1 rfl) ?_
        refine gx_getR C g fl_X3_18 dX3_add_99 sh_2 rfl (by decide) ?_
        refine lv_aload_n C.1 C.2.1 dX3_add_102 rfl (lv_at hl 1 rfl) ?_
        refine gx_getI C g fl_X3_24 dX3_add_103 sh_2 rfl ?_
        refine lv_iload_n C.1 C.2.1 dX3_add_106 rfl (lv_at hl 4 rfl) ?_
        obtain ⟨i8, h⟩ := h
        refine gx_iast C g dX3_add_107 sh_14 i8 (fun H locs σ9 eσ9 g => ?_)
        have h := h σ9 eσ9
        refine lv_aload_n C.1 C.2.1 dX3_add_108 rfl (lv_at hl 1 rfl) ?_
        refine gx_getR C g fl_X3_21 dX3_add_109 sh_2 rfl (by decide) ?_
        refine lv_aload_n C.1 C.2.1 dX3_add_112 rfl (lv_at hl 1 rfl) ?_
        refine gx_getI C g fl_X3_24 dX3_add_113 sh_2 rfl ?_
        refine lv_iload C.1 C.2.1 dX3_add_116 (lv_at hl 5 rfl) ?_
        obtain ⟨i10, h⟩ := h
        refine gx_iast C g dX3_add_118 sh_15 i10 (fun H locs σ11 eσ11 g => ?_)
        have h := h σ11 eσ11
        refine lv_aload_n C.1 C.2.1 dX3_add_119 rfl (lv_at hl 1 rfl) ?_
        refine lv_dup C.1 C.2.1 dX3_add_120 rfl ?_
        refine gx_getI C g fl_X3_24 dX3_add_121 sh_2 rfl ?_
        refine lv_iconst (v := 1) C.1 C.2.1 dX3_add_124 (by decide) ?_
        refine lv_iadd C.1 C.2.1 dX3_add_125 ?_
        refine gx_putI C g fi_X3_24 dX3_add_126 sh_2 rfl (fun H locs σ12 eσ12 g => ?_)
        have h := h σ12 eσ12
        refine lv_aload_n C.1 C.2.1 dX3_add_129 rfl (lv_at hl 1 rfl) ?_
        refine gx_getI C g fl_X3_24 dX3_add_130 sh_2 rfl ?_
        refine lv_iconst (v := 1) C.1 C.2.1 dX3_add_133 (by decide) ?_
        refine lv_isub C.1 C.2.1 dX3_add_134 ?_
        exact gx_iret C hr g dX3_add_135 h
      · have h := h.2 c3
        refine lv_iconst (v := -1) C.1 C.2.1 dX3_add_76 (by decide) ?_
        exact gx_iret C hr g dX3_add_77 h
set_option maxHeartbeats 4000000 in
set_option maxRecDepth 100000 in
theorem tX3_add_54 {p : Program} {l : Launch} {e : Env} {s : State} {m : MethodId} {args : Array Value} {below : List Frame} {meth : Method} {c : Code} {E : EE} {base : Nat} (C : Cx p E base s m args meth c cX3_add 7 RX3) (hr : meth.sig.returnType = (some .int)) {Q : Int32 → St → Prop} : ∀ (x1 : Int32) (x2 : Int32) (x3 : Int32) (x4 : Int32) (x5 : Int32) (σ : St) (H : Heap) (locs : List Loc) (ls : Array Slot), lv_has ls 7 [(0, .ref (ga E 2)), (1, .int x1), (2, .int x2), (3, .int x3), (4, .int x4), (5, .int x5)] → GW E base s σ H locs → wX3_add_54 Q x1 x2 x3 x4 x5 σ → W p l e rmX3_add s m args below meth c H locs 0 0 (MQ below (QI E base Q) args s 0 0 (fun q => base ≤ q)) (F0 m 54 ls []) := by
  intro x1 x2 x3 x4 x5 σ H locs ls hl g h
  refine lv_iconst (v := 0) C.1 C.2.1 dX3_add_54 (by decide) ?_
  exact tX3_add_55 C hr x1 x2 x3 x4 x5 (0 : Int32) _ _ _ _ (lv_sub hl [0, 1, 2, 3, 4, 5] rfl) g h
set_option maxHeartbeats 4000000 in
set_option maxRecDepth 100000 in
theorem tX3_add_26 {p : Program} {l : Launch} {e : Env} {s : State} {m : MethodId} {args : Array Value} {below : List Frame} {meth : Method} {c : Code} {E : EE} {base : Nat} (C : Cx p E base s m args meth c cX3_add 7 RX3) (hr : meth.sig.returnType = (some .int)) {Q : Int32 → St → Prop} : ∀ (x1 : Int32) (x2 : Int32) (x3 : Int32) (x4 : Int32) (xt0 : Int32) (σ : St) (H : Heap) (locs : List Loc) (ls : Array Slot), lv_has ls 7 [(0, .ref (ga E 2)), (1, .int x1), (2, .int x2), (3, .int x3), (4, .int x4)] → GW E base s σ H locs → wX3_add_26 Q x1 x2 x3 x4 xt0 σ → W p l e rmX3_add s m args below meth c H locs 0 0 (MQ below (QI E base Q) args s 0 0 (fun q => base ≤ q)) (F0 m 26 ls [.int xt0]) := by
  intro x1 x2 x3 x4 xt0 σ H locs ls hl g h
  refine lv_istore (lv' := [(5, .int xt0), (0, .ref (ga E 2)), (1, .int x1), (2, .int x2), (3, .int x3), (4, .int x4)]) C.1 C.2.1 dX3_add_26 hl (by decide) rfl (fun ls hl => ?_)
  refine lv_iload_n C.1 C.2.1 dX3_add_28 rfl (lv_at hl 4 rfl) ?_
  refine lv_iconst (v := 1) C.1 C.2.1 dX3_add_29 (by decide) ?_
  refine lv_icmp_lt (tgt := 54) C.1 C.2.1 dX3_add_30 (by decide) (fun c1 => ?_) (fun c1 => ?_)
  · have h := h.1 c1
    exact tX3_add_54 C hr x1 x2 x3 x4 xt0 _ _ _ _ (lv_sub hl [1, 2, 3, 4, 5, 0] rfl) g h
  · have h := h.2 c1
    refine lv_iload_n C.1 C.2.1 dX3_add_33 rfl (lv_at hl 4 rfl) ?_
    refine lv_iconst (v := 4) C.1 C.2.1 dX3_add_34 (by decide) ?_
    refine lv_icmp_gt (tgt := 54) C.1 C.2.1 dX3_add_35 (by decide) (fun c2 => ?_) (fun c2 => ?_)
    · have h := h.1 c2
      exact tX3_add_54 C hr x1 x2 x3 x4 xt0 _ _ _ _ (lv_sub hl [1, 2, 3, 4, 5, 0] rfl) g h
    · have h := h.2 c2
      refine lv_iload C.1 C.2.1 dX3_add_38 (lv_at hl 5 rfl) ?_
      refine lv_if_lt (tgt := 54) C.1 C.2.1 dX3_add_40 (by decide) (fun c3 => ?_) (fun c3 => ?_)
      · have h := h.1 c3
        exact tX3_add_54 C hr x1 x2 x3 x4 xt0 _ _ _ _ (lv_sub hl [1, 2, 3, 4, 5, 0] rfl) g h
      · have h := h.2 c3
        refine lv_iload C.1 C.2.1 dX3_add_43 (lv_at hl 5 rfl) ?_
        refine lv_bipush (v := 9) C.1 C.2.1 dX3_add_45 (by decide) ?_
        refine lv_icmp_gt (tgt := 54) C.1 C.2.1 dX3_add_47 (by decide) (fun c4 => ?_) (fun c4 => ?_)
        · have h := h.1 c4
          exact tX3_add_54 C hr x1 x2 x3 x4 xt0 _ _ _ _ (lv_sub hl [1, 2, 3, 4, 5, 0] rfl) g h
        · have h := h.2 c4
          refine lv_iconst (v := 1) C.1 C.2.1 dX3_add_50 (by decide) ?_
          refine lv_goto (tgt := 55) C.1 C.2.1 dX3_add_51 (by decide) ?_
          exact tX3_add_55 C hr x1 x2 x3 x4 xt0 (1 : Int32) _ _ _ _ (lv_sub hl [1, 2, 3, 4, 5, 0] rfl) g h
set_option maxHeartbeats 4000000 in
set_option maxRecDepth 100000 in
theorem tX3_add_25 {p : Program} {l : Launch} {e : Env} {s : State} {m : MethodId} {args : Array Value} {below : List Frame} {meth : Method} {c : Code} {E : EE} {base : Nat} (C : Cx p E base s m args meth c cX3_add 7 RX3) (hr : meth.sig.returnType = (some .int)) {Q : Int32 → St → Prop} : ∀ (x1 : Int32) (x2 : Int32) (x3 : Int32) (x4 : Int32) (σ : St) (H : Heap) (locs : List Loc) (ls : Array Slot), lv_has ls 7 [(0, .ref (ga E 2)), (1, .int x1), (2, .int x2), (3, .int x3), (4, .int x4)] → GW E base s σ H locs → wX3_add_25 Q x1 x2 x3 x4 σ → W p l e rmX3_add s m args below meth c H locs 0 0 (MQ below (QI E base Q) args s 0 0 (fun q => base ≤ q)) (F0 m 25 ls []) := by
  intro x1 x2 x3 x4 σ H locs ls hl g h
  refine lv_iconst (v := 0) C.1 C.2.1 dX3_add_25 (by decide) ?_
  exact tX3_add_26 C hr x1 x2 x3 x4 (0 : Int32) _ _ _ _ (lv_sub hl [0, 1, 2, 3, 4] rfl) g h
set_option maxHeartbeats 4000000 in
set_option maxRecDepth 100000 in
theorem tX3_add_e {p : Program} {l : Launch} {e : Env} {s : State} {m : MethodId} {args : Array Value} {below : List Frame} {meth : Method} {c : Code} {E : EE} {base : Nat} (C : Cx p E base s m args meth c cX3_add 7 RX3) (hr : meth.sig.returnType = (some .int)) {Q : Int32 → St → Prop} : ∀ (x1 : Int32) (x2 : Int32) (x3 : Int32) (x4 : Int32) (σ : St) (H : Heap) (locs : List Loc) (ls : Array Slot), lv_has ls 7 [(0, .ref (ga E 2)), (1, .int x1), (2, .int x2), (3, .int x3), (4, .int x4)] → GW E base s σ H locs → wX3_add x1 x2 x3 x4 σ Q → W p l e rmX3_add s m args below meth c H locs 0 0 (MQ below (QI E base Q) args s 0 0 (fun q => base ≤ q)) (F0 m 0 ls []) := by
  intro x1 x2 x3 x4 σ H locs ls hl g h
  refine lv_iload_n C.1 C.2.1 dX3_add_0 rfl (lv_at hl 1 rfl) ?_
  refine lv_iconst (v := 1) C.1 C.2.1 dX3_add_1 (by decide) ?_
  refine lv_icmp_lt (tgt := 25) C.1 C.2.1 dX3_add_2 (by decide) (fun c1 => ?_) (fun c1 => ?_)
  · have h := h.1 c1
    exact tX3_add_25 C hr x1 x2 x3 x4 _ _ _ _ (lv_sub hl [0, 1, 2, 3, 4] rfl) g h
  · have h := h.2 c1
    refine lv_iload_n C.1 C.2.1 dX3_add_5 rfl (lv_at hl 1 rfl) ?_
    refine lv_sipush (v := 1000) C.1 C.2.1 dX3_add_6 (by decide) ?_
    refine lv_icmp_gt (tgt := 25) C.1 C.2.1 dX3_add_9 (by decide) (fun c2 => ?_) (fun c2 => ?_)
    · have h := h.1 c2
      exact tX3_add_25 C hr x1 x2 x3 x4 _ _ _ _ (lv_sub hl [0, 1, 2, 3, 4] rfl) g h
    · have h := h.2 c2
      refine lv_iload_n C.1 C.2.1 dX3_add_12 rfl (lv_at hl 2 rfl) ?_
      refine lv_if_lt (tgt := 25) C.1 C.2.1 dX3_add_13 (by decide) (fun c3 => ?_) (fun c3 => ?_)
      · have h := h.1 c3
        exact tX3_add_25 C hr x1 x2 x3 x4 _ _ _ _ (lv_sub hl [0, 1, 2, 3, 4] rfl) g h
      · have h := h.2 c3
        refine lv_iload_n C.1 C.2.1 dX3_add_16 rfl (lv_at hl 2 rfl) ?_
        refine lv_iload_n C.1 C.2.1 dX3_add_17 rfl (lv_at hl 1 rfl) ?_
        refine lv_icmp_gt (tgt := 25) C.1 C.2.1 dX3_add_18 (by decide) (fun c4 => ?_) (fun c4 => ?_)
        · have h := h.1 c4
          exact tX3_add_25 C hr x1 x2 x3 x4 _ _ _ _ (lv_sub hl [0, 1, 2, 3, 4] rfl) g h
        · have h := h.2 c4
          refine lv_iconst (v := 1) C.1 C.2.1 dX3_add_21 (by decide) ?_
          refine lv_goto (tgt := 26) C.1 C.2.1 dX3_add_22 (by decide) ?_
          exact tX3_add_26 C hr x1 x2 x3 x4 (1 : Int32) _ _ _ _ (lv_sub hl [0, 1, 2, 3, 4] rfl) g h
theorem mX3_add {l : Launch} {E : EE} {base : Nat} (x1 : Int32) (x2 : Int32) (x3 : Int32) (x4 : Int32) (σ : St) (Q : Int32 → St → Prop) (h : wX3_add x1 x2 x3 x4 σ Q) : Met l yX3_add (wy yX3_add cX3_add 7 (some .int)) rmX3_add (va_Pc [.ref (ga E 2), .int x1, .int x2, .int x3, .int x4] (fun U => SW E base σ U)) (QI E base Q) (rmX3_add).cells (rmX3_add).slots (fun q => base ≤ q) :=
  met_of (by decide) (Nat.le_of_ble_eq_true rfl) (fun p e s m args below meth c C hr g ls hl => tX3_add_e C hr x1 x2 x3 x4 _ _ _ _ hl g h)
abbrev rmX3_makeFactors : Room := { frames := 1, cells := 0, slots := 0, locals := 23 }
def wX3_makeFactors_18 (Q : Int32 → St → Prop) (x1 : Int32) (σ : St) : Prop := ∀ σ1 : St, σ1 = pv σ 2 6 x1 → ∀ σ2 : St, σ2 = pa σ1 16 (fun _ => (1 : Int32)) → Q (1 : Int32) σ2
def wX3_makeFactors (x1 : Int32) (σ : St) (Q : Int32 → St → Prop) : Prop := ((x1 = (-1 : Int32) → wX3_makeFactors_18 Q x1 σ) ∧ (¬ (x1 = (-1 : Int32)) → ((x1 < (1 : Int32) → Q (0 : Int32) σ) ∧ (¬ (x1 < (1 : Int32)) → ((x1 ≤ (20 : Int32) → wX3_makeFactors_18 Q x1 σ) ∧ (¬ (x1 ≤ (20 : Int32)) → Q (0 : Int32) σ))))))
set_option maxHeartbeats 4000000 in
set_option maxRecDepth 100000 in
theorem tX3_makeFactors_18 {p : Program} {l : Launch} {e : Env} {s : State} {m : MethodId} {args : Array Value} {below : List Frame} {meth : Method} {c : Code} {E : EE} {base : Nat} (C : Cx p E base s m args meth c cX3_makeFactors 2 RX3) (hr : meth.sig.returnType = (some .boolean)) {Q : Int32 → St → Prop} : ∀ (x1 : Int32) (σ : St) (H : Heap) (locs : List Loc) (ls : Array Slot), lv_has ls 2 [(0, .ref (ga E 2)), (1, .int x1)] → GW E base s σ H locs → wX3_makeFactors_18 Q x1 σ → W p l e rmX3_makeFactors s m args below meth c H locs 0 0 (MQ below (QI E base Q) args s 0 0 (fun q => base ≤ q)) (F0 m 18 ls []) := by
  intro x1 σ H locs ls hl g h
  refine lv_aload_n C.1 C.2.1 dX3_makeFactors_18 rfl (lv_at hl 0 rfl) ?_
  refine lv_iload_n C.1 C.2.1 dX3_makeFactors_19 rfl (lv_at hl 1 rfl) ?_
  refine gx_putI C g fi_X3_31 dX3_makeFactors_20 sh_2 rfl (fun H locs σ1 eσ1 g => ?_)
  have h := h σ1 eσ1
  refine lv_aload_n C.1 C.2.1 dX3_makeFactors_23 rfl (lv_at hl 0 rfl) ?_
  refine gx_getR C g fl_X3_34 dX3_makeFactors_24 sh_2 rfl (by decide) ?_
  refine lv_iconst (v := 1) C.1 C.2.1 dX3_makeFactors_27 (by decide) ?_
  refine gx_callv0 g (gx_runS (rest := []) C g ms_J7_fill_53178 ml_X3_37 (mFill (k := 16) (n := 20) sh_16 (by decide) (1 : Int32) (QQ := fun τ => τ = pa σ1 16 (fun _ => (1 : Int32))) rfl) ⟨Nat.le_of_ble_eq_true rfl, Nat.le_of_ble_eq_true rfl⟩ ⟨Nat.le_refl _, Nat.le_refl _⟩ rfl hl.1 rfl (Nat.le_of_ble_eq_true rfl) dX3_makeFactors_28) rfl rfl (fun σ2 H locs eσ2 g => ?_)
  have h := h σ2 eσ2
  refine lv_iconst (v := 1) C.1 C.2.1 dX3_makeFactors_31 (by decide) ?_
  exact gx_zret C hr g dX3_makeFactors_32 (by decide) h
set_option maxHeartbeats 4000000 in
set_option maxRecDepth 100000 in
theorem tX3_makeFactors_e {p : Program} {l : Launch} {e : Env} {s : State} {m : MethodId} {args : Array Value} {below : List Frame} {meth : Method} {c : Code} {E : EE} {base : Nat} (C : Cx p E base s m args meth c cX3_makeFactors 2 RX3) (hr : meth.sig.returnType = (some .boolean)) {Q : Int32 → St → Prop} : ∀ (x1 : Int32) (σ : St) (H : Heap) (locs : List Loc) (ls : Array Slot), lv_has ls 2 [(0, .ref (ga E 2)), (1, .int x1)] → GW E base s σ H locs → wX3_makeFactors x1 σ Q → W p l e rmX3_makeFactors s m args below meth c H locs 0 0 (MQ below (QI E base Q) args s 0 0 (fun q => base ≤ q)) (F0 m 0 ls []) := by
  intro x1 σ H locs ls hl g h
  refine lv_iload_n C.1 C.2.1 dX3_makeFactors_0 rfl (lv_at hl 1 rfl) ?_
  refine lv_iconst (v := -1) C.1 C.2.1 dX3_makeFactors_1 (by decide) ?_
  refine lv_icmp_eq (tgt := 18) C.1 C.2.1 dX3_makeFactors_2 (by decide) (fun c1 => ?_) (fun c1 => ?_)
  · have h := h.1 c1
    exact tX3_makeFactors_18 C hr x1 _ _ _ _ (lv_sub hl [0, 1] rfl) g h
  · have h := h.2 c1
    refine lv_iload_n C.1 C.2.1 dX3_makeFactors_5 rfl (lv_at hl 1 rfl) ?_
    refine lv_iconst (v := 1) C.1 C.2.1 dX3_makeFactors_6 (by decide) ?_
    refine lv_icmp_lt (tgt := 16) C.1 C.2.1 dX3_makeFactors_7 (by decide) (fun c2 => ?_) (fun c2 => ?_)
    · have h := h.1 c2
      refine lv_iconst (v := 0) C.1 C.2.1 dX3_makeFactors_16 (by decide) ?_
      exact gx_zret C hr g dX3_makeFactors_17 (by decide) h
    · have h := h.2 c2
      refine lv_iload_n C.1 C.2.1 dX3_makeFactors_10 rfl (lv_at hl 1 rfl) ?_
      refine lv_bipush (v := 20) C.1 C.2.1 dX3_makeFactors_11 (by decide) ?_
      refine lv_icmp_le (tgt := 18) C.1 C.2.1 dX3_makeFactors_13 (by decide) (fun c3 => ?_) (fun c3 => ?_)
      · have h := h.1 c3
        exact tX3_makeFactors_18 C hr x1 _ _ _ _ (lv_sub hl [0, 1] rfl) g h
      · have h := h.2 c3
        refine lv_iconst (v := 0) C.1 C.2.1 dX3_makeFactors_16 (by decide) ?_
        exact gx_zret C hr g dX3_makeFactors_17 (by decide) h
theorem mX3_makeFactors {l : Launch} {E : EE} {base : Nat} (x1 : Int32) (σ : St) (Q : Int32 → St → Prop) (h : wX3_makeFactors x1 σ Q) : Met l yX3_makeFactors (wy yX3_makeFactors cX3_makeFactors 2 (some .boolean)) rmX3_makeFactors (va_Pc [.ref (ga E 2), .int x1] (fun U => SW E base σ U)) (QI E base Q) (rmX3_makeFactors).cells (rmX3_makeFactors).slots (fun q => base ≤ q) :=
  met_of (by decide) (Nat.le_of_ble_eq_true rfl) (fun p e s m args below meth c C hr g ls hl => tX3_makeFactors_e C hr x1 _ _ _ _ hl g h)
abbrev rmX3_setFactor : Room := { frames := 0, cells := 0, slots := 0, locals := 0 }
def wX3_setFactor (x1 : Int32) (x2 : Int32) (σ : St) (Q : Int32 → St → Prop) : Prop := ((x1 < 0 → Q (0 : Int32) σ) ∧ (¬ (x1 < 0) → (((gv σ 2 6) ≤ x1 → Q (0 : Int32) σ) ∧ (¬ ((gv σ 2 6) ≤ x1) → ((x2 < (-100 : Int32) → Q (0 : Int32) σ) ∧ (¬ (x2 < (-100 : Int32)) → ((x2 ≤ (100 : Int32) → vp_in x1 20 ∧ ∀ σ6 : St, σ6 = pv σ 16 x1.toNatClampNeg x2 → Q (1 : Int32) σ6) ∧ (¬ (x2 ≤ (100 : Int32)) → Q (0 : Int32) σ))))))))
set_option maxHeartbeats 4000000 in
set_option maxRecDepth 100000 in
theorem tX3_setFactor_e {p : Program} {l : Launch} {e : Env} {s : State} {m : MethodId} {args : Array Value} {below : List Frame} {meth : Method} {c : Code} {E : EE} {base : Nat} (C : Cx p E base s m args meth c cX3_setFactor 3 RX3) (hr : meth.sig.returnType = (some .boolean)) {Q : Int32 → St → Prop} : ∀ (x1 : Int32) (x2 : Int32) (σ : St) (H : Heap) (locs : List Loc) (ls : Array Slot), lv_has ls 3 [(0, .ref (ga E 2)), (1, .int x1), (2, .int x2)] → GW E base s σ H locs → wX3_setFactor x1 x2 σ Q → W p l e rmX3_setFactor s m args below meth c H locs 0 0 (MQ below (QI E base Q) args s 0 0 (fun q => base ≤ q)) (F0 m 0 ls []) := by
  intro x1 x2 σ H locs ls hl g h
  refine lv_iload_n C.1 C.2.1 dX3_setFactor_0 rfl (lv_at hl 1 rfl) ?_
  refine lv_if_lt (tgt := 24) C.1 C.2.1 dX3_setFactor_1 (by decide) (fun c1 => ?_) (fun c1 => ?_)
  · have h := h.1 c1
    refine lv_iconst (v := 0) C.1 C.2.1 dX3_setFactor_24 (by decide) ?_
    exact gx_zret C hr g dX3_setFactor_25 (by decide) h
  · have h := h.2 c1
    refine lv_iload_n C.1 C.2.1 dX3_setFactor_4 rfl (lv_at hl 1 rfl) ?_
    refine lv_aload_n C.1 C.2.1 dX3_setFactor_5 rfl (lv_at hl 0 rfl) ?_
    refine gx_getI C g fl_X3_31 dX3_setFactor_6 sh_2 rfl ?_
    refine lv_icmp_ge (tgt := 24) C.1 C.2.1 dX3_setFactor_9 (by decide) (fun c2 => ?_) (fun c2 => ?_)
    · have h := h.1 c2
      refine lv_iconst (v := 0) C.1 C.2.1 dX3_setFactor_24 (by decide) ?_
      exact gx_zret C hr g dX3_setFactor_25 (by decide) h
    · have h := h.2 c2
      refine lv_iload_n C.1 C.2.1 dX3_setFactor_12 rfl (lv_at hl 2 rfl) ?_
      refine lv_bipush (v := -100) C.1 C.2.1 dX3_setFactor_13 (by decide) ?_
      refine lv_icmp_lt (tgt := 24) C.1 C.2.1 dX3_setFactor_15 (by decide) (fun c3 => ?_) (fun c3 => ?_)
      · have h := h.1 c3
        refine lv_iconst (v := 0) C.1 C.2.1 dX3_setFactor_24 (by decide) ?_
        exact gx_zret C hr g dX3_setFactor_25 (by decide) h
      · have h := h.2 c3
        refine lv_iload_n C.1 C.2.1 dX3_setFactor_18 rfl (lv_at hl 2 rfl) ?_
        refine lv_bipush (v := 100) C.1 C.2.1 dX3_setFactor_19 (by decide) ?_
        refine lv_icmp_le (tgt := 26) C.1 C.2.1 dX3_setFactor_21 (by decide) (fun c4 => ?_) (fun c4 => ?_)
        · have h := h.1 c4
          refine lv_aload_n C.1 C.2.1 dX3_setFactor_26 rfl (lv_at hl 0 rfl) ?_
          refine gx_getR C g fl_X3_34 dX3_setFactor_27 sh_2 rfl (by decide) ?_
          refine lv_iload_n C.1 C.2.1 dX3_setFactor_30 rfl (lv_at hl 1 rfl) ?_
          refine lv_iload_n C.1 C.2.1 dX3_setFactor_31 rfl (lv_at hl 2 rfl) ?_
          obtain ⟨i5, h⟩ := h
          refine gx_iast C g dX3_setFactor_32 sh_16 i5 (fun H locs σ6 eσ6 g => ?_)
          have h := h σ6 eσ6
          refine lv_iconst (v := 1) C.1 C.2.1 dX3_setFactor_33 (by decide) ?_
          exact gx_zret C hr g dX3_setFactor_34 (by decide) h
        · have h := h.2 c4
          refine lv_iconst (v := 0) C.1 C.2.1 dX3_setFactor_24 (by decide) ?_
          exact gx_zret C hr g dX3_setFactor_25 (by decide) h
theorem mX3_setFactor {l : Launch} {E : EE} {base : Nat} (x1 : Int32) (x2 : Int32) (σ : St) (Q : Int32 → St → Prop) (h : wX3_setFactor x1 x2 σ Q) : Met l yX3_setFactor (wy yX3_setFactor cX3_setFactor 3 (some .boolean)) rmX3_setFactor (va_Pc [.ref (ga E 2), .int x1, .int x2] (fun U => SW E base σ U)) (QI E base Q) (rmX3_setFactor).cells (rmX3_setFactor).slots (fun q => base ≤ q) :=
  met_of (by decide) (Nat.le_of_ble_eq_true rfl) (fun p e s m args below meth c C hr g ls hl => tX3_setFactor_e C hr x1 x2 _ _ _ _ hl g h)
abbrev rmX3_mostSetting : Room := { frames := 0, cells := 0, slots := 0, locals := 0 }
def wX3_mostSetting (x1 : Int32) (x2 : Int32) (σ : St) (Q : Int32 → St → Prop) : Prop := ((x2 = 0 → vp_in x1 7 ∧ Q (gv σ 14 x1.toNatClampNeg) σ) ∧ (¬ (x2 = 0) → vp_in x1 7 ∧ Q (gv σ 15 x1.toNatClampNeg) σ))
set_option maxHeartbeats 4000000 in
set_option maxRecDepth 100000 in
theorem tX3_mostSetting_e {p : Program} {l : Launch} {e : Env} {s : State} {m : MethodId} {args : Array Value} {below : List Frame} {meth : Method} {c : Code} {E : EE} {base : Nat} (C : Cx p E base s m args meth c cX3_mostSetting 3 RX3) (hr : meth.sig.returnType = (some .int)) {Q : Int32 → St → Prop} : ∀ (x1 : Int32) (x2 : Int32) (σ : St) (H : Heap) (locs : List Loc) (ls : Array Slot), lv_has ls 3 [(0, .ref (ga E 2)), (1, .int x1), (2, .int x2)] → GW E base s σ H locs → wX3_mostSetting x1 x2 σ Q → W p l e rmX3_mostSetting s m args below meth c H locs 0 0 (MQ below (QI E base Q) args s 0 0 (fun q => base ≤ q)) (F0 m 0 ls []) := by
  intro x1 x2 σ H locs ls hl g h
  refine lv_iload_n C.1 C.2.1 dX3_mostSetting_0 rfl (lv_at hl 2 rfl) ?_
  refine lv_if_eq (tgt := 13) C.1 C.2.1 dX3_mostSetting_1 (by decide) (fun c1 => ?_) (fun c1 => ?_)
  · have h := h.1 c1
    refine lv_aload_n C.1 C.2.1 dX3_mostSetting_13 rfl (lv_at hl 0 rfl) ?_
    refine gx_getR C g fl_X3_18 dX3_mostSetting_14 sh_2 rfl (by decide) ?_
    refine lv_iload_n C.1 C.2.1 dX3_mostSetting_17 rfl (lv_at hl 1 rfl) ?_
    obtain ⟨i2, h⟩ := h
    refine gx_iald C g dX3_mostSetting_18 sh_14 i2 ?_
    exact gx_iret C hr g dX3_mostSetting_19 h
  · have h := h.2 c1
    refine lv_aload_n C.1 C.2.1 dX3_mostSetting_4 rfl (lv_at hl 0 rfl) ?_
    refine gx_getR C g fl_X3_21 dX3_mostSetting_5 sh_2 rfl (by decide) ?_
    refine lv_iload_n C.1 C.2.1 dX3_mostSetting_8 rfl (lv_at hl 1 rfl) ?_
    obtain ⟨i3, h⟩ := h
    refine gx_iald C g dX3_mostSetting_9 sh_15 i3 ?_
    refine lv_goto (tgt := 19) C.1 C.2.1 dX3_mostSetting_10 (by decide) ?_
    exact gx_iret C hr g dX3_mostSetting_19 h
theorem mX3_mostSetting {l : Launch} {E : EE} {base : Nat} (x1 : Int32) (x2 : Int32) (σ : St) (Q : Int32 → St → Prop) (h : wX3_mostSetting x1 x2 σ Q) : Met l yX3_mostSetting (wy yX3_mostSetting cX3_mostSetting 3 (some .int)) rmX3_mostSetting (va_Pc [.ref (ga E 2), .int x1, .int x2] (fun U => SW E base σ U)) (QI E base Q) (rmX3_mostSetting).cells (rmX3_mostSetting).slots (fun q => base ≤ q) :=
  met_of (by decide) (Nat.le_of_ble_eq_true rfl) (fun p e s m args below meth c C hr g ls hl => tX3_mostSetting_e C hr x1 x2 _ _ _ _ hl g h)
abbrev rmX3_factorOf : Room := { frames := 1, cells := 0, slots := 0, locals := 14 }
def wX3_factorOf (x1 : Int32) (σ : St) (Q : Int32 → St → Prop) : Prop := ((0 < x1 → (((gv σ 2 6) = (-1 : Int32) → Q (1 : Int32) σ) ∧ (¬ ((gv σ 2 6) = (-1 : Int32)) → vp_in (jmin (x1 / (10 : Int32)) ((gv σ 2 6) - (1 : Int32))) 20 ∧ Q (gv σ 16 (jmin (x1 / (10 : Int32)) ((gv σ 2 6) - (1 : Int32))).toNatClampNeg) σ))) ∧ (¬ (0 < x1) → Q (0 : Int32) σ))
set_option maxHeartbeats 4000000 in
set_option maxRecDepth 100000 in
theorem tX3_factorOf_e {p : Program} {l : Launch} {e : Env} {s : State} {m : MethodId} {args : Array Value} {below : List Frame} {meth : Method} {c : Code} {E : EE} {base : Nat} (C : Cx p E base s m args meth c cX3_factorOf 2 RX3) (hr : meth.sig.returnType = (some .int)) {Q : Int32 → St → Prop} : ∀ (x1 : Int32) (σ : St) (H : Heap) (locs : List Loc) (ls : Array Slot), lv_has ls 2 [(0, .ref (ga E 2)), (1, .int x1)] → GW E base s σ H locs → wX3_factorOf x1 σ Q → W p l e rmX3_factorOf s m args below meth c H locs 0 0 (MQ below (QI E base Q) args s 0 0 (fun q => base ≤ q)) (F0 m 0 ls []) := by
  intro x1 σ H locs ls hl g h
  refine lv_iload_n C.1 C.2.1 dX3_factorOf_0 rfl (lv_at hl 1 rfl) ?_
  refine lv_if_gt (tgt := 6) C.1 C.2.1 dX3_factorOf_1 (by decide) (fun c1 => ?_) (fun c1 => ?_)
  · have h := h.1 c1
    refine lv_aload_n C.1 C.2.1 dX3_factorOf_6 rfl (lv_at hl 0 rfl) ?_
    refine gx_getI C g fl_X3_31 dX3_factorOf_7 sh_2 rfl ?_
    refine lv_iconst (v := -1) C.1 C.2.1 dX3_factorOf_10 (by decide) ?_
    refine lv_icmp_ne (tgt := 18) C.1 C.2.1 dX3_factorOf_11 (by decide) (fun c2 => ?_) (fun c2 => ?_)
    · have h := h.2 c2
      refine lv_aload_n C.1 C.2.1 dX3_factorOf_18 rfl (lv_at hl 0 rfl) ?_
      refine gx_getR C g fl_X3_34 dX3_factorOf_19 sh_2 rfl (by decide) ?_
      refine lv_iload_n C.1 C.2.1 dX3_factorOf_22 rfl (lv_at hl 1 rfl) ?_
      refine lv_bipush (v := 10) C.1 C.2.1 dX3_factorOf_23 (by decide) ?_
      refine lv_idiv C.1 C.2.1 dX3_factorOf_25 (by decide) ?_
      refine lv_aload_n C.1 C.2.1 dX3_factorOf_26 rfl (lv_at hl 0 rfl) ?_
      refine gx_getI C g fl_X3_31 dX3_factorOf_27 sh_2 rfl ?_
      refine lv_iconst (v := 1) C.1 C.2.1 dX3_factorOf_30 (by decide) ?_
      refine lv_isub C.1 C.2.1 dX3_factorOf_31 ?_
      refine gx_min (rest := [.ref (ga E 16)]) C ml_X3_43 hl.1 (Nat.le_of_ble_eq_true rfl) (Nat.le_of_ble_eq_true rfl) (Nat.le_refl _) (Nat.le_refl _) dX3_factorOf_32 ?_
      obtain ⟨i3, h⟩ := h
      refine gx_iald C g dX3_factorOf_35 sh_16 i3 ?_
      exact gx_iret C hr g dX3_factorOf_36 h
    · have h := h.1 c2
      refine lv_iconst (v := 1) C.1 C.2.1 dX3_factorOf_14 (by decide) ?_
      refine lv_goto (tgt := 36) C.1 C.2.1 dX3_factorOf_15 (by decide) ?_
      exact gx_iret C hr g dX3_factorOf_36 h
  · have h := h.2 c1
    refine lv_iconst (v := 0) C.1 C.2.1 dX3_factorOf_4 (by decide) ?_
    exact gx_iret C hr g dX3_factorOf_5 h
theorem mX3_factorOf {l : Launch} {E : EE} {base : Nat} (x1 : Int32) (σ : St) (Q : Int32 → St → Prop) (h : wX3_factorOf x1 σ Q) : Met l yX3_factorOf (wy yX3_factorOf cX3_factorOf 2 (some .int)) rmX3_factorOf (va_Pc [.ref (ga E 2), .int x1] (fun U => SW E base σ U)) (QI E base Q) (rmX3_factorOf).cells (rmX3_factorOf).slots (fun q => base ≤ q) :=
  met_of (by decide) (Nat.le_of_ble_eq_true rfl) (fun p e s m args below meth c C hr g ls hl => tX3_factorOf_e C hr x1 _ _ _ _ hl g h)
abbrev rmX3_mostWork : Room := { frames := 1, cells := 0, slots := 0, locals := 13 }
def wX3_mostWork_16 (Q : Int32 → St → Prop) : Nat → Int32 → Int32 → Int32 → St → Prop
  | 0, _, _, _, _ => False
  | n + 1, x1, x2, x3, σ => (((gv σ 2 6) ≤ x3 → vp_in x1 7 ∧ Q (((2 : Int32) * (gv σ 14 x1.toNatClampNeg)) * x2) σ) ∧ (¬ ((gv σ 2 6) ≤ x3) → vp_in x3 20 ∧ ∀ x2_4 : Int32, x2_4 = jmax x2 (gv σ 16 x3.toNatClampNeg) → ∀ x3_5 : Int32, x3_5 = x3 + 1 → wX3_mostWork_16 Q n x1 x2_4 x3_5 σ))
def wX3_mostWork_13 (Q : Int32 → St → Prop) (x1 : Int32) (xt0 : Int32) (σ : St) : Prop := ∃ j : Nat, wX3_mostWork_16 Q j x1 xt0 (0 : Int32) σ
def wX3_mostWork (x1 : Int32) (σ : St) (Q : Int32 → St → Prop) : Prop := (((gv σ 2 6) = (-1 : Int32) → wX3_mostWork_13 Q x1 (1 : Int32) σ) ∧ (¬ ((gv σ 2 6) = (-1 : Int32)) → wX3_mostWork_13 Q x1 (0 : Int32) σ))
set_option maxHeartbeats 4000000 in
set_option maxRecDepth 100000 in
theorem tX3_mostWork_16 {p : Program} {l : Launch} {e : Env} {s : State} {m : MethodId} {args : Array Value} {below : List Frame} {meth : Method} {c : Code} {E : EE} {base : Nat} (C : Cx p E base s m args meth c cX3_mostWork 4 RX3) (hr : meth.sig.returnType = (some .int)) {Q : Int32 → St → Prop} : ∀ (n : Nat) (x1 : Int32) (x2 : Int32) (x3 : Int32) (σ : St) (H : Heap) (locs : List Loc) (ls : Array Slot), lv_has ls 4 [(0, .ref (ga E 2)), (1, .int x1), (2, .int x2), (3, .int x3)] → GW E base s σ H locs → wX3_mostWork_16 Q n x1 x2 x3 σ → W p l e rmX3_mostWork s m args below meth c H locs 0 0 (MQ below (QI E base Q) args s 0 0 (fun q => base ≤ q)) (F0 m 16 ls []) := by
  intro n
  induction n with
  | zero => intro _ _ _; intros; exact False.elim (by assumption)
  | succ n ih =>
    intro x1 x2 x3 σ H locs ls hl g h
    refine lv_iload_n C.1 C.2.1 dX3_mostWork_16 rfl (lv_at hl 3 rfl) ?_
    refine lv_aload_n C.1 C.2.1 dX3_mostWork_17 rfl (lv_at hl 0 rfl) ?_
    refine gx_getI C g fl_X3_31 dX3_mostWork_18 sh_2 rfl ?_
    refine lv_icmp_ge (tgt := 41) C.1 C.2.1 dX3_mostWork_21 (by decide) (fun c1 => ?_) (fun c1 => ?_)
    · have h := h.1 c1
      refine lv_iconst (v := 2) C.1 C.2.1 dX3_mostWork_41 (by decide) ?_
      refine lv_aload_n C.1 C.2.1 dX3_mostWork_42 rfl (lv_at hl 0 rfl) ?_
      refine gx_getR C g fl_X3_18 dX3_mostWork_43 sh_2 rfl (by decide) ?_
      refine lv_iload_n C.1 C.2.1 dX3_mostWork_46 rfl (lv_at hl 1 rfl) ?_
      obtain ⟨i2, h⟩ := h
      refine gx_iald C g dX3_mostWork_47 sh_14 i2 ?_
      refine lv_imul C.1 C.2.1 dX3_mostWork_48 ?_
      refine lv_iload_n C.1 C.2.1 dX3_mostWork_49 rfl (lv_at hl 2 rfl) ?_
      refine lv_imul C.1 C.2.1 dX3_mostWork_50 ?_
      exact gx_iret C hr g dX3_mostWork_51 h
    · have h := h.2 c1
      refine lv_iload_n C.1 C.2.1 dX3_mostWork_24 rfl (lv_at hl 2 rfl) ?_
      refine lv_aload_n C.1 C.2.1 dX3_mostWork_25 rfl (lv_at hl 0 rfl) ?_
      refine gx_getR C g fl_X3_34 dX3_mostWork_26 sh_2 rfl (by decide) ?_
      refine lv_iload_n C.1 C.2.1 dX3_mostWork_29 rfl (lv_at hl 3 rfl) ?_
      obtain ⟨i3, h⟩ := h
      refine gx_iald C g dX3_mostWork_30 sh_16 i3 ?_
      refine gx_max (rest := []) C ml_X3_49 hl.1 (Nat.le_of_ble_eq_true rfl) (Nat.le_of_ble_eq_true rfl) (Nat.le_refl _) (Nat.le_refl _) dX3_mostWork_31 ?_
      refine lv_topi (fun x2_4 ex2_4 => ?_)
      have h := h x2_4 ex2_4
      refine lv_istore_n (lv' := [(2, .int x2_4), (0, .ref (ga E 2)), (1, .int x1), (3, .int x3)]) C.1 C.2.1 dX3_mostWork_34 rfl hl (by decide) rfl (fun ls hl => ?_)
      obtain ⟨x3_5, ex3_5⟩ : ∃ y : Int32, y = x3 + 1 := ⟨_, rfl⟩
      have h := h x3_5 ex3_5
      refine lv_iinc (v := x3_5) (lv' := [(3, .int x3_5), (2, .int x2_4), (0, .ref (ga E 2)), (1, .int x1)]) C.1 C.2.1 dX3_mostWork_35 hl (k := 3) rfl (by rw [ex3_5]; rfl) (by decide) rfl (fun ls hl => ?_)
      refine lv_goto (tgt := 16) C.1 C.2.1 dX3_mostWork_38 (by decide) ?_
      exact ih x1 x2_4 x3_5 _ _ _ _ (lv_sub hl [2, 3, 1, 0] rfl) g h
set_option maxHeartbeats 4000000 in
set_option maxRecDepth 100000 in
theorem tX3_mostWork_13 {p : Program} {l : Launch} {e : Env} {s : State} {m : MethodId} {args : Array Value} {below : List Frame} {meth : Method} {c : Code} {E : EE} {base : Nat} (C : Cx p E base s m args meth c cX3_mostWork 4 RX3) (hr : meth.sig.returnType = (some .int)) {Q : Int32 → St → Prop} : ∀ (x1 : Int32) (xt0 : Int32) (σ : St) (H : Heap) (locs : List Loc) (ls : Array Slot), lv_has ls 4 [(0, .ref (ga E 2)), (1, .int x1)] → GW E base s σ H locs → wX3_mostWork_13 Q x1 xt0 σ → W p l e rmX3_mostWork s m args below meth c H locs 0 0 (MQ below (QI E base Q) args s 0 0 (fun q => base ≤ q)) (F0 m 13 ls [.int xt0]) := by
  intro x1 xt0 σ H locs ls hl g h
  refine lv_istore_n (lv' := [(2, .int xt0), (0, .ref (ga E 2)), (1, .int x1)]) C.1 C.2.1 dX3_mostWork_13 rfl hl (by decide) rfl (fun ls hl => ?_)
  refine lv_iconst (v := 0) C.1 C.2.1 dX3_mostWork_14 (by decide) ?_
  refine lv_istore_n (lv' := [(3, .int (0 : Int32)), (2, .int xt0), (0, .ref (ga E 2)), (1, .int x1)]) C.1 C.2.1 dX3_mostWork_15 rfl hl (by decide) rfl (fun ls hl => ?_)
  obtain ⟨j, h⟩ := h
  exact tX3_mostWork_16 C hr j x1 xt0 (0 : Int32) _ _ _ _ (lv_sub hl [2, 3, 1, 0] rfl) g h
set_option maxHeartbeats 4000000 in
set_option maxRecDepth 100000 in
theorem tX3_mostWork_e {p : Program} {l : Launch} {e : Env} {s : State} {m : MethodId} {args : Array Value} {below : List Frame} {meth : Method} {c : Code} {E : EE} {base : Nat} (C : Cx p E base s m args meth c cX3_mostWork 4 RX3) (hr : meth.sig.returnType = (some .int)) {Q : Int32 → St → Prop} : ∀ (x1 : Int32) (σ : St) (H : Heap) (locs : List Loc) (ls : Array Slot), lv_has ls 4 [(0, .ref (ga E 2)), (1, .int x1)] → GW E base s σ H locs → wX3_mostWork x1 σ Q → W p l e rmX3_mostWork s m args below meth c H locs 0 0 (MQ below (QI E base Q) args s 0 0 (fun q => base ≤ q)) (F0 m 0 ls []) := by
  intro x1 σ H locs ls hl g h
  refine lv_aload_n C.1 C.2.1 dX3_mostWork_0 rfl (lv_at hl 0 rfl) ?_
  refine gx_getI C g fl_X3_31 dX3_mostWork_1 sh_2 rfl ?_
  refine lv_iconst (v := -1) C.1 C.2.1 dX3_mostWork_4 (by decide) ?_
  refine lv_icmp_ne (tgt := 12) C.1 C.2.1 dX3_mostWork_5 (by decide) (fun c1 => ?_) (fun c1 => ?_)
  · have h := h.2 c1
    refine lv_iconst (v := 0) C.1 C.2.1 dX3_mostWork_12 (by decide) ?_
    exact tX3_mostWork_13 C hr x1 (0 : Int32) _ _ _ _ (lv_sub hl [0, 1] rfl) g h
  · have h := h.1 c1
    refine lv_iconst (v := 1) C.1 C.2.1 dX3_mostWork_8 (by decide) ?_
    refine lv_goto (tgt := 13) C.1 C.2.1 dX3_mostWork_9 (by decide) ?_
    exact tX3_mostWork_13 C hr x1 (1 : Int32) _ _ _ _ (lv_sub hl [0, 1] rfl) g h
theorem mX3_mostWork {l : Launch} {E : EE} {base : Nat} (x1 : Int32) (σ : St) (Q : Int32 → St → Prop) (h : wX3_mostWork x1 σ Q) : Met l yX3_mostWork (wy yX3_mostWork cX3_mostWork 4 (some .int)) rmX3_mostWork (va_Pc [.ref (ga E 2), .int x1] (fun U => SW E base σ U)) (QI E base Q) (rmX3_mostWork).cells (rmX3_mostWork).slots (fun q => base ≤ q) :=
  met_of (by decide) (Nat.le_of_ble_eq_true rfl) (fun p e s m args below meth c C hr g ls hl => tX3_mostWork_e C hr x1 _ _ _ _ hl g h)
