abbrev rmX9_sortOf : Room := { frames := 0, cells := 0, slots := 0, locals := 0 }
def wX9_sortOf_52 (Q : Int32 → St → Prop) (σ : St) : Prop := Q (3 : Int32) σ
def wX9_sortOf_28 (Q : Int32 → St → Prop) (x0 : Int32) (σ : St) : Prop := ((x0 = (9 : Int32) → wX9_sortOf_52 Q σ) ∧ (¬ (x0 = (9 : Int32)) → ((x0 = (10 : Int32) → wX9_sortOf_52 Q σ) ∧ (¬ (x0 = (10 : Int32)) → ((x0 = (13 : Int32) → wX9_sortOf_52 Q σ) ∧ (¬ (x0 = (13 : Int32)) → ((x0 = (32 : Int32) → wX9_sortOf_52 Q σ) ∧ (¬ (x0 = (32 : Int32)) → Q (0 : Int32) σ))))))))
def wX9_sortOf_14 (Q : Int32 → St → Prop) (x0 : Int32) (σ : St) : Prop := ((x0 < (48 : Int32) → wX9_sortOf_28 Q x0 σ) ∧ (¬ (x0 < (48 : Int32)) → (((57 : Int32) < x0 → wX9_sortOf_28 Q x0 σ) ∧ (¬ ((57 : Int32) < x0) → Q (2 : Int32) σ))))
def wX9_sortOf (x0 : Int32) (σ : St) (Q : Int32 → St → Prop) : Prop := ((x0 < (97 : Int32) → wX9_sortOf_14 Q x0 σ) ∧ (¬ (x0 < (97 : Int32)) → (((122 : Int32) < x0 → wX9_sortOf_14 Q x0 σ) ∧ (¬ ((122 : Int32) < x0) → Q (1 : Int32) σ))))
set_option maxHeartbeats 4000000 in
set_option maxRecDepth 100000 in
theorem tX9_sortOf_52 {p : Program} {l : Launch} {e : Env} {s : State} {m : MethodId} {args : Array Value} {below : List Frame} {meth : Method} {c : Code} {E : EE} {base : Nat} (C : Cx p E base s m args meth c cX9_sortOf 1 RX9) (hr : meth.sig.returnType = (some .int)) {Q : Int32 → St → Prop} : ∀ (σ : St) (H : Heap) (locs : List Loc) (ls : Array Slot), lv_has ls 1 [] → GW E base s σ H locs → wX9_sortOf_52 Q σ → W p l e rmX9_sortOf s m args below meth c H locs 0 0 (MQ below (QI E base Q) args s 0 0 (fun q => base ≤ q)) (F0 m 52 ls []) := by
  intro σ H locs ls hl g h
  refine lv_iconst (v := 3) C.1 C.2.1 dX9_sortOf_52 (by decide) ?_
  refine lv_goto (tgt := 57) C.1 C.2.1 dX9_sortOf_53 (by decide) ?_
  exact gx_iret C hr g dX9_sortOf_57 h
set_option maxHeartbeats 4000000 in
set_option maxRecDepth 100000 in
theorem tX9_sortOf_28 {p : Program} {l : Launch} {e : Env} {s : State} {m : MethodId} {args : Array Value} {below : List Frame} {meth : Method} {c : Code} {E : EE} {base : Nat} (C : Cx p E base s m args meth c cX9_sortOf 1 RX9) (hr : meth.sig.returnType = (some .int)) {Q : Int32 → St → Prop} : ∀ (x0 : Int32) (σ : St) (H : Heap) (locs : List Loc) (ls : Array Slot), lv_has ls 1 [(0, .int x0)] → GW E base s σ H locs → wX9_sortOf_28 Q x0 σ → W p l e rmX9_sortOf s m args below meth c H locs 0 0 (MQ below (QI E base Q) args s 0 0 (fun q => base ≤ q)) (F0 m 28 ls []) := by
  intro x0 σ H locs ls hl g h
  refine lv_iload_n C.1 C.2.1 dX9_sortOf_28 rfl (lv_at hl 0 rfl) ?_
  refine lv_bipush (v := 9) C.1 C.2.1 dX9_sortOf_29 (by decide) ?_
  refine lv_icmp_eq (tgt := 52) C.1 C.2.1 dX9_sortOf_31 (by decide) (fun c1 => ?_) (fun c1 => ?_)
  · have h := h.1 c1
    exact tX9_sortOf_52 C hr _ _ _ _ (lv_sub hl [] rfl) g h
  · have h := h.2 c1
    refine lv_iload_n C.1 C.2.1 dX9_sortOf_34 rfl (lv_at hl 0 rfl) ?_
    refine lv_bipush (v := 10) C.1 C.2.1 dX9_sortOf_35 (by decide) ?_
    refine lv_icmp_eq (tgt := 52) C.1 C.2.1 dX9_sortOf_37 (by decide) (fun c2 => ?_) (fun c2 => ?_)
    · have h := h.1 c2
      exact tX9_sortOf_52 C hr _ _ _ _ (lv_sub hl [] rfl) g h
    · have h := h.2 c2
      refine lv_iload_n C.1 C.2.1 dX9_sortOf_40 rfl (lv_at hl 0 rfl) ?_
      refine lv_bipush (v := 13) C.1 C.2.1 dX9_sortOf_41 (by decide) ?_
      refine lv_icmp_eq (tgt := 52) C.1 C.2.1 dX9_sortOf_43 (by decide) (fun c3 => ?_) (fun c3 => ?_)
      · have h := h.1 c3
        exact tX9_sortOf_52 C hr _ _ _ _ (lv_sub hl [] rfl) g h
      · have h := h.2 c3
        refine lv_iload_n C.1 C.2.1 dX9_sortOf_46 rfl (lv_at hl 0 rfl) ?_
        refine lv_bipush (v := 32) C.1 C.2.1 dX9_sortOf_47 (by decide) ?_
        refine lv_icmp_ne (tgt := 56) C.1 C.2.1 dX9_sortOf_49 (by decide) (fun c4 => ?_) (fun c4 => ?_)
        · have h := h.2 c4
          refine lv_iconst (v := 0) C.1 C.2.1 dX9_sortOf_56 (by decide) ?_
          exact gx_iret C hr g dX9_sortOf_57 h
        · have h := h.1 c4
          exact tX9_sortOf_52 C hr _ _ _ _ (lv_sub hl [] rfl) g h
set_option maxHeartbeats 4000000 in
set_option maxRecDepth 100000 in
theorem tX9_sortOf_14 {p : Program} {l : Launch} {e : Env} {s : State} {m : MethodId} {args : Array Value} {below : List Frame} {meth : Method} {c : Code} {E : EE} {base : Nat} (C : Cx p E base s m args meth c cX9_sortOf 1 RX9) (hr : meth.sig.returnType = (some .int)) {Q : Int32 → St → Prop} : ∀ (x0 : Int32) (σ : St) (H : Heap) (locs : List Loc) (ls : Array Slot), lv_has ls 1 [(0, .int x0)] → GW E base s σ H locs → wX9_sortOf_14 Q x0 σ → W p l e rmX9_sortOf s m args below meth c H locs 0 0 (MQ below (QI E base Q) args s 0 0 (fun q => base ≤ q)) (F0 m 14 ls []) := by
  intro x0 σ H locs ls hl g h
  refine lv_iload_n C.1 C.2.1 dX9_sortOf_14 rfl (lv_at hl 0 rfl) ?_
  refine lv_bipush (v := 48) C.1 C.2.1 dX9_sortOf_15 (by decide) ?_
  refine lv_icmp_lt (tgt := 28) C.1 C.2.1 dX9_sortOf_17 (by decide) (fun c1 => ?_) (fun c1 => ?_)
  · have h := h.1 c1
    exact tX9_sortOf_28 C hr x0 _ _ _ _ (lv_sub hl [0] rfl) g h
  · have h := h.2 c1
    refine lv_iload_n C.1 C.2.1 dX9_sortOf_20 rfl (lv_at hl 0 rfl) ?_
    refine lv_bipush (v := 57) C.1 C.2.1 dX9_sortOf_21 (by decide) ?_
    refine lv_icmp_gt (tgt := 28) C.1 C.2.1 dX9_sortOf_23 (by decide) (fun c2 => ?_) (fun c2 => ?_)
    · have h := h.1 c2
      exact tX9_sortOf_28 C hr x0 _ _ _ _ (lv_sub hl [0] rfl) g h
    · have h := h.2 c2
      refine lv_iconst (v := 2) C.1 C.2.1 dX9_sortOf_26 (by decide) ?_
      exact gx_iret C hr g dX9_sortOf_27 h
set_option maxHeartbeats 4000000 in
set_option maxRecDepth 100000 in
theorem tX9_sortOf_e {p : Program} {l : Launch} {e : Env} {s : State} {m : MethodId} {args : Array Value} {below : List Frame} {meth : Method} {c : Code} {E : EE} {base : Nat} (C : Cx p E base s m args meth c cX9_sortOf 1 RX9) (hr : meth.sig.returnType = (some .int)) {Q : Int32 → St → Prop} : ∀ (x0 : Int32) (σ : St) (H : Heap) (locs : List Loc) (ls : Array Slot), lv_has ls 1 [(0, .int x0)] → GW E base s σ H locs → wX9_sortOf x0 σ Q → W p l e rmX9_sortOf s m args below meth c H locs 0 0 (MQ below (QI E base Q) args s 0 0 (fun q => base ≤ q)) (F0 m 0 ls []) := by
  intro x0 σ H locs ls hl g h
  refine lv_iload_n C.1 C.2.1 dX9_sortOf_0 rfl (lv_at hl 0 rfl) ?_
  refine lv_bipush (v := 97) C.1 C.2.1 dX9_sortOf_1 (by decide) ?_
  refine lv_icmp_lt (tgt := 14) C.1 C.2.1 dX9_sortOf_3 (by decide) (fun c1 => ?_) (fun c1 => ?_)
  · have h := h.1 c1
    exact tX9_sortOf_14 C hr x0 _ _ _ _ (lv_sub hl [0] rfl) g h
  · have h := h.2 c1
    refine lv_iload_n C.1 C.2.1 dX9_sortOf_6 rfl (lv_at hl 0 rfl) ?_
    refine lv_bipush (v := 122) C.1 C.2.1 dX9_sortOf_7 (by decide) ?_
    refine lv_icmp_gt (tgt := 14) C.1 C.2.1 dX9_sortOf_9 (by decide) (fun c2 => ?_) (fun c2 => ?_)
    · have h := h.1 c2
      exact tX9_sortOf_14 C hr x0 _ _ _ _ (lv_sub hl [0] rfl) g h
    · have h := h.2 c2
      refine lv_iconst (v := 1) C.1 C.2.1 dX9_sortOf_12 (by decide) ?_
      exact gx_iret C hr g dX9_sortOf_13 h
theorem mX9_sortOf {l : Launch} {E : EE} {base : Nat} (x0 : Int32) (σ : St) (Q : Int32 → St → Prop) (h : wX9_sortOf x0 σ Q) : Met l yX9_sortOf (wy yX9_sortOf cX9_sortOf 1 (some .int)) rmX9_sortOf (va_Pc [.int x0] (fun U => SW E base σ U)) (QI E base Q) (rmX9_sortOf).cells (rmX9_sortOf).slots (fun q => base ≤ q) :=
  met_of (by decide) (Nat.le_of_ble_eq_true rfl) (fun p e s m args below meth c C hr g ls hl => tX9_sortOf_e C hr x0 _ _ _ _ hl g h)
abbrev rmX9_endOf : Room := { frames := 1, cells := 0, slots := 0, locals := 21 }
def wX9_endOf_71 (Q : Int32 → St → Prop) : Nat → Int32 → Int32 → St → Prop
  | 0, _, _, _ => False
  | n + 1, x3, x4, σ => (((gv σ 6 0) ≤ x4 → Q x4 σ) ∧ (¬ ((gv σ 6 0) ≤ x4) → wX8_peek x4 σ (fun (r2 : Int32) (σ3 : St) => wX9_sortOf r2 σ3 (fun (r4 : Int32) (σ5 : St) => ((r4 = x3 → ∀ x4_7 : Int32, x4_7 = x4 + 1 → wX9_endOf_71 Q n x3 x4_7 σ5) ∧ (¬ (r4 = x3) → Q x4 σ5))))))
def wX9_endOf_54 (Q : Int32 → St → Prop) (x4 : Int32) (xt0 : Int32) (σ : St) : Prop := ((xt0 = 0 → Q x4 σ) ∧ (¬ (xt0 = 0) → Q (x4 + (1 : Int32)) σ))
def wX9_endOf_53 (Q : Int32 → St → Prop) (x4 : Int32) (σ : St) : Prop := wX9_endOf_54 Q x4 (0 : Int32) σ
def wX9_endOf_38 (Q : Int32 → St → Prop) (x4 : Int32) (σ : St) : Prop := wX8_peek x4 σ (fun (r1 : Int32) (σ2 : St) => ((r1 = (61 : Int32) → wX9_endOf_54 Q x4 (1 : Int32) σ2) ∧ (¬ (r1 = (61 : Int32)) → wX9_endOf_53 Q x4 σ2)))
def wX9_endOf (x1 : Int32) (σ : St) (Q : Int32 → St → Prop) : Prop := wX8_peek x1 σ (fun (r1 : Int32) (σ2 : St) => wX9_sortOf r1 σ2 (fun (r3 : Int32) (σ4 : St) => ∀ x4_5 : Int32, x4_5 = x1 + (1 : Int32) → ((r3 = 0 → ((r1 = (61 : Int32) → wX9_endOf_38 Q x4_5 σ4) ∧ (¬ (r1 = (61 : Int32)) → ((r1 = (33 : Int32) → wX9_endOf_38 Q x4_5 σ4) ∧ (¬ (r1 = (33 : Int32)) → ((r1 = (60 : Int32) → wX9_endOf_38 Q x4_5 σ4) ∧ (¬ (r1 = (60 : Int32)) → wX9_endOf_53 Q x4_5 σ4))))))) ∧ (¬ (r3 = 0) → ∃ j : Nat, wX9_endOf_71 Q j r3 x4_5 σ4))))
set_option maxHeartbeats 4000000 in
set_option maxRecDepth 100000 in
theorem tX9_endOf_71 {p : Program} {l : Launch} {e : Env} {s : State} {m : MethodId} {args : Array Value} {below : List Frame} {meth : Method} {c : Code} {E : EE} {base : Nat} (C : Cx p E base s m args meth c cX9_endOf 6 RX9) (hr : meth.sig.returnType = (some .int)) {Q : Int32 → St → Prop} : ∀ (n : Nat) (x3 : Int32) (x4 : Int32) (σ : St) (H : Heap) (locs : List Loc) (ls : Array Slot), lv_has ls 6 [(0, .ref (ga E 6)), (3, .int x3), (4, .int x4)] → GW E base s σ H locs → wX9_endOf_71 Q n x3 x4 σ → W p l e rmX9_endOf s m args below meth c H locs 0 0 (MQ below (QI E base Q) args s 0 0 (fun q => base ≤ q)) (F0 m 71 ls []) := by
  intro n
  induction n with
  | zero => intro _ _; intros; exact False.elim (by assumption)
  | succ n ih =>
    intro x3 x4 σ H locs ls hl g h
    refine lv_iload C.1 C.2.1 dX9_endOf_71 (lv_at hl 2 rfl) ?_
    refine lv_aload_n C.1 C.2.1 dX9_endOf_73 rfl (lv_at hl 0 rfl) ?_
    refine gx_getI C g fl_X9_19 dX9_endOf_74 sh_6 rfl ?_
    refine lv_icmp_ge (tgt := 99) C.1 C.2.1 dX9_endOf_77 (by decide) (fun c1 => ?_) (fun c1 => ?_)
    · have h := h.1 c1
      refine lv_iload C.1 C.2.1 dX9_endOf_99 (lv_at hl 2 rfl) ?_
      exact gx_iret C hr g dX9_endOf_101 h
    · have h := h.2 c1
      refine lv_aload_n C.1 C.2.1 dX9_endOf_80 rfl (lv_at hl 0 rfl) ?_
      refine lv_iload C.1 C.2.1 dX9_endOf_81 (lv_at hl 2 rfl) ?_
      refine gx_calli0 g (gx_runV (k := 6) (rest := []) C g mb_X8_peek ml_X9_25 rfl sh_6 (mX8_peek x4 _ _ h) ⟨Nat.le_of_ble_eq_true rfl, Nat.le_of_ble_eq_true rfl⟩ ⟨Nat.le_refl _, Nat.le_refl _⟩ rfl hl.1 rfl (Nat.le_of_ble_eq_true rfl) dX9_endOf_83) rfl rfl (fun r2 σ3 H locs h g => ?_)
      refine gx_calli0 g (gx_runS (rest := []) C g ms_X9_sortOf ml_X9_29 (mX9_sortOf r2 _ _ h) ⟨Nat.le_of_ble_eq_true rfl, Nat.le_of_ble_eq_true rfl⟩ ⟨Nat.le_refl _, Nat.le_refl _⟩ rfl hl.1 rfl (Nat.le_of_ble_eq_true rfl) dX9_endOf_86) rfl rfl (fun r4 σ5 H locs h g => ?_)
      refine lv_iload_n C.1 C.2.1 dX9_endOf_89 rfl (lv_at hl 1 rfl) ?_
      refine lv_icmp_ne (tgt := 99) C.1 C.2.1 dX9_endOf_90 (by decide) (fun c6 => ?_) (fun c6 => ?_)
      · have h := h.2 c6
        refine lv_iload C.1 C.2.1 dX9_endOf_99 (lv_at hl 2 rfl) ?_
        exact gx_iret C hr g dX9_endOf_101 h
      · have h := h.1 c6
        obtain ⟨x4_7, ex4_7⟩ : ∃ y : Int32, y = x4 + 1 := ⟨_, rfl⟩
        have h := h x4_7 ex4_7
        refine lv_iinc (v := x4_7) (lv' := [(4, .int x4_7), (0, .ref (ga E 6)), (3, .int x3)]) C.1 C.2.1 dX9_endOf_93 hl (k := 2) rfl (by rw [ex4_7]; rfl) (by decide) rfl (fun ls hl => ?_)
        refine lv_goto (tgt := 71) C.1 C.2.1 dX9_endOf_96 (by decide) ?_
        exact ih x3 x4_7 _ _ _ _ (lv_sub hl [1, 2, 0] rfl) g h
set_option maxHeartbeats 4000000 in
set_option maxRecDepth 100000 in
theorem tX9_endOf_54 {p : Program} {l : Launch} {e : Env} {s : State} {m : MethodId} {args : Array Value} {below : List Frame} {meth : Method} {c : Code} {E : EE} {base : Nat} (C : Cx p E base s m args meth c cX9_endOf 6 RX9) (hr : meth.sig.returnType = (some .int)) {Q : Int32 → St → Prop} : ∀ (x4 : Int32) (xt0 : Int32) (σ : St) (H : Heap) (locs : List Loc) (ls : Array Slot), lv_has ls 6 [(4, .int x4)] → GW E base s σ H locs → wX9_endOf_54 Q x4 xt0 σ → W p l e rmX9_endOf s m args below meth c H locs 0 0 (MQ below (QI E base Q) args s 0 0 (fun q => base ≤ q)) (F0 m 54 ls [.int xt0]) := by
  intro x4 xt0 σ H locs ls hl g h
  refine lv_istore (lv' := [(5, .int xt0), (4, .int x4)]) C.1 C.2.1 dX9_endOf_54 hl (by decide) rfl (fun ls hl => ?_)
  refine lv_iload C.1 C.2.1 dX9_endOf_56 (lv_at hl 0 rfl) ?_
  refine lv_if_eq (tgt := 68) C.1 C.2.1 dX9_endOf_58 (by decide) (fun c1 => ?_) (fun c1 => ?_)
  · have h := h.1 c1
    refine lv_iload C.1 C.2.1 dX9_endOf_68 (lv_at hl 1 rfl) ?_
    exact gx_iret C hr g dX9_endOf_70 h
  · have h := h.2 c1
    refine lv_iload C.1 C.2.1 dX9_endOf_61 (lv_at hl 1 rfl) ?_
    refine lv_iconst (v := 1) C.1 C.2.1 dX9_endOf_63 (by decide) ?_
    refine lv_iadd C.1 C.2.1 dX9_endOf_64 ?_
    refine lv_goto (tgt := 70) C.1 C.2.1 dX9_endOf_65 (by decide) ?_
    exact gx_iret C hr g dX9_endOf_70 h
set_option maxHeartbeats 4000000 in
set_option maxRecDepth 100000 in
theorem tX9_endOf_53 {p : Program} {l : Launch} {e : Env} {s : State} {m : MethodId} {args : Array Value} {below : List Frame} {meth : Method} {c : Code} {E : EE} {base : Nat} (C : Cx p E base s m args meth c cX9_endOf 6 RX9) (hr : meth.sig.returnType = (some .int)) {Q : Int32 → St → Prop} : ∀ (x4 : Int32) (σ : St) (H : Heap) (locs : List Loc) (ls : Array Slot), lv_has ls 6 [(4, .int x4)] → GW E base s σ H locs → wX9_endOf_53 Q x4 σ → W p l e rmX9_endOf s m args below meth c H locs 0 0 (MQ below (QI E base Q) args s 0 0 (fun q => base ≤ q)) (F0 m 53 ls []) := by
  intro x4 σ H locs ls hl g h
  refine lv_iconst (v := 0) C.1 C.2.1 dX9_endOf_53 (by decide) ?_
  exact tX9_endOf_54 C hr x4 (0 : Int32) _ _ _ _ (lv_sub hl [0] rfl) g h
set_option maxHeartbeats 4000000 in
set_option maxRecDepth 100000 in
theorem tX9_endOf_38 {p : Program} {l : Launch} {e : Env} {s : State} {m : MethodId} {args : Array Value} {below : List Frame} {meth : Method} {c : Code} {E : EE} {base : Nat} (C : Cx p E base s m args meth c cX9_endOf 6 RX9) (hr : meth.sig.returnType = (some .int)) {Q : Int32 → St → Prop} : ∀ (x4 : Int32) (σ : St) (H : Heap) (locs : List Loc) (ls : Array Slot), lv_has ls 6 [(0, .ref (ga E 6)), (4, .int x4)] → GW E base s σ H locs → wX9_endOf_38 Q x4 σ → W p l e rmX9_endOf s m args below meth c H locs 0 0 (MQ below (QI E base Q) args s 0 0 (fun q => base ≤ q)) (F0 m 38 ls []) := by
  intro x4 σ H locs ls hl g h
  refine lv_aload_n C.1 C.2.1 dX9_endOf_38 rfl (lv_at hl 0 rfl) ?_
  refine lv_iload C.1 C.2.1 dX9_endOf_39 (lv_at hl 1 rfl) ?_
  refine gx_calli0 g (gx_runV (k := 6) (rest := []) C g mb_X8_peek ml_X9_25 rfl sh_6 (mX8_peek x4 _ _ h) ⟨Nat.le_of_ble_eq_true rfl, Nat.le_of_ble_eq_true rfl⟩ ⟨Nat.le_refl _, Nat.le_refl _⟩ rfl hl.1 rfl (Nat.le_of_ble_eq_true rfl) dX9_endOf_41) rfl rfl (fun r1 σ2 H locs h g => ?_)
  refine lv_bipush (v := 61) C.1 C.2.1 dX9_endOf_44 (by decide) ?_
  refine lv_icmp_ne (tgt := 53) C.1 C.2.1 dX9_endOf_46 (by decide) (fun c3 => ?_) (fun c3 => ?_)
  · have h := h.2 c3
    exact tX9_endOf_53 C hr x4 _ _ _ _ (lv_sub hl [1] rfl) g h
  · have h := h.1 c3
    refine lv_iconst (v := 1) C.1 C.2.1 dX9_endOf_49 (by decide) ?_
    refine lv_goto (tgt := 54) C.1 C.2.1 dX9_endOf_50 (by decide) ?_
    exact tX9_endOf_54 C hr x4 (1 : Int32) _ _ _ _ (lv_sub hl [1] rfl) g h
set_option maxHeartbeats 4000000 in
set_option maxRecDepth 100000 in
theorem tX9_endOf_e {p : Program} {l : Launch} {e : Env} {s : State} {m : MethodId} {args : Array Value} {below : List Frame} {meth : Method} {c : Code} {E : EE} {base : Nat} (C : Cx p E base s m args meth c cX9_endOf 6 RX9) (hr : meth.sig.returnType = (some .int)) {Q : Int32 → St → Prop} : ∀ (x1 : Int32) (σ : St) (H : Heap) (locs : List Loc) (ls : Array Slot), lv_has ls 6 [(0, .ref (ga E 6)), (1, .int x1)] → GW E base s σ H locs → wX9_endOf x1 σ Q → W p l e rmX9_endOf s m args below meth c H locs 0 0 (MQ below (QI E base Q) args s 0 0 (fun q => base ≤ q)) (F0 m 0 ls []) := by
  intro x1 σ H locs ls hl g h
  refine lv_aload_n C.1 C.2.1 dX9_endOf_0 rfl (lv_at hl 0 rfl) ?_
  refine lv_iload_n C.1 C.2.1 dX9_endOf_1 rfl (lv_at hl 1 rfl) ?_
  refine gx_calli0 g (gx_runV (k := 6) (rest := []) C g mb_X8_peek ml_X9_25 rfl sh_6 (mX8_peek x1 _ _ h) ⟨Nat.le_of_ble_eq_true rfl, Nat.le_of_ble_eq_true rfl⟩ ⟨Nat.le_refl _, Nat.le_refl _⟩ rfl hl.1 rfl (Nat.le_of_ble_eq_true rfl) dX9_endOf_2) rfl rfl (fun r1 σ2 H locs h g => ?_)
  refine lv_istore_n (lv' := [(2, .int r1), (0, .ref (ga E 6)), (1, .int x1)]) C.1 C.2.1 dX9_endOf_5 rfl hl (by decide) rfl (fun ls hl => ?_)
  refine lv_iload_n C.1 C.2.1 dX9_endOf_6 rfl (lv_at hl 0 rfl) ?_
  refine gx_calli0 g (gx_runS (rest := []) C g ms_X9_sortOf ml_X9_29 (mX9_sortOf r1 _ _ h) ⟨Nat.le_of_ble_eq_true rfl, Nat.le_of_ble_eq_true rfl⟩ ⟨Nat.le_refl _, Nat.le_refl _⟩ rfl hl.1 rfl (Nat.le_of_ble_eq_true rfl) dX9_endOf_7) rfl rfl (fun r3 σ4 H locs h g => ?_)
  refine lv_istore_n (lv' := [(3, .int r3), (2, .int r1), (0, .ref (ga E 6)), (1, .int x1)]) C.1 C.2.1 dX9_endOf_10 rfl hl (by decide) rfl (fun ls hl => ?_)
  refine lv_iload_n C.1 C.2.1 dX9_endOf_11 rfl (lv_at hl 3 rfl) ?_
  refine lv_iconst (v := 1) C.1 C.2.1 dX9_endOf_12 (by decide) ?_
  refine lv_iadd C.1 C.2.1 dX9_endOf_13 ?_
  refine lv_topi (fun x4_5 ex4_5 => ?_)
  have h := h x4_5 ex4_5
  refine lv_istore (lv' := [(4, .int x4_5), (3, .int r3), (2, .int r1), (0, .ref (ga E 6)), (1, .int x1)]) C.1 C.2.1 dX9_endOf_14 hl (by decide) rfl (fun ls hl => ?_)
  refine lv_iload_n C.1 C.2.1 dX9_endOf_16 rfl (lv_at hl 1 rfl) ?_
  refine lv_if_ne (tgt := 71) C.1 C.2.1 dX9_endOf_17 (by decide) (fun c6 => ?_) (fun c6 => ?_)
  · have h := h.2 c6
    obtain ⟨j, h⟩ := h
    exact tX9_endOf_71 C hr j r3 x4_5 _ _ _ _ (lv_sub hl [3, 1, 0] rfl) g h
  · have h := h.1 c6
    refine lv_iload_n C.1 C.2.1 dX9_endOf_20 rfl (lv_at hl 2 rfl) ?_
    refine lv_bipush (v := 61) C.1 C.2.1 dX9_endOf_21 (by decide) ?_
    refine lv_icmp_eq (tgt := 38) C.1 C.2.1 dX9_endOf_23 (by decide) (fun c7 => ?_) (fun c7 => ?_)
    · have h := h.1 c7
      exact tX9_endOf_38 C hr x4_5 _ _ _ _ (lv_sub hl [3, 0] rfl) g h
    · have h := h.2 c7
      refine lv_iload_n C.1 C.2.1 dX9_endOf_26 rfl (lv_at hl 2 rfl) ?_
      refine lv_bipush (v := 33) C.1 C.2.1 dX9_endOf_27 (by decide) ?_
      refine lv_icmp_eq (tgt := 38) C.1 C.2.1 dX9_endOf_29 (by decide) (fun c8 => ?_) (fun c8 => ?_)
      · have h := h.1 c8
        exact tX9_endOf_38 C hr x4_5 _ _ _ _ (lv_sub hl [3, 0] rfl) g h
      · have h := h.2 c8
        refine lv_iload_n C.1 C.2.1 dX9_endOf_32 rfl (lv_at hl 2 rfl) ?_
        refine lv_bipush (v := 60) C.1 C.2.1 dX9_endOf_33 (by decide) ?_
        refine lv_icmp_ne (tgt := 53) C.1 C.2.1 dX9_endOf_35 (by decide) (fun c9 => ?_) (fun c9 => ?_)
        · have h := h.2 c9
          exact tX9_endOf_53 C hr x4_5 _ _ _ _ (lv_sub hl [0] rfl) g h
        · have h := h.1 c9
          exact tX9_endOf_38 C hr x4_5 _ _ _ _ (lv_sub hl [3, 0] rfl) g h
theorem mX9_endOf {l : Launch} {E : EE} {base : Nat} (x1 : Int32) (σ : St) (Q : Int32 → St → Prop) (h : wX9_endOf x1 σ Q) : Met l yX9_endOf (wy yX9_endOf cX9_endOf 6 (some .int)) rmX9_endOf (va_Pc [.ref (ga E 6), .int x1] (fun U => SW E base σ U)) (QI E base Q) (rmX9_endOf).cells (rmX9_endOf).slots (fun q => base ≤ q) :=
  met_of (by decide) (Nat.le_of_ble_eq_true rfl) (fun p e s m args below meth c C hr g ls hl => tX9_endOf_e C hr x1 _ _ _ _ hl g h)
abbrev rmX9_wordKind : Room := { frames := 4, cells := 0, slots := 0, locals := 85 }
def wX9_wordKind_82 (Q : Int32 → St → Prop) (K2 : Int32 → Int32 → Int32 → St → Prop) (x1 : Int32) (x2 : Int32) (x3 : Int32) (x4 : Int32) (σ : St) : Prop := ((x4 = 0 → ∀ x3_2 : Int32, x3_2 = x3 + 8 → K2 x1 x2 x3_2 σ) ∧ (¬ (x4 = 0) → Q ((16 : Int32) + (x3 / (8 : Int32))) σ))
def wX9_wordKind_74 (Q : Int32 → St → Prop) (K2 : Int32 → Int32 → Int32 → St → Prop) (K20 : Int32 → Int32 → Int32 → Int32 → Int32 → St → Prop) (x1 : Int32) (x2 : Int32) (x3 : Int32) (x5 : Int32) (xt0 : Int32) (σ : St) : Prop := ∀ x5_1 : Int32, x5_1 = x5 + 1 → K20 x1 x2 x3 xt0 x5_1 σ
def wX9_wordKind_53 (Q : Int32 → St → Prop) (K2 : Int32 → Int32 → Int32 → St → Prop) (K20 : Int32 → Int32 → Int32 → Int32 → Int32 → St → Prop) (x1 : Int32) (x2 : Int32) (x3 : Int32) (x5 : Int32) (xt0 : Int32) (σ : St) : Prop := vp_in (x3 + x5) 184 ∧ (((wch (x3 + x5).toNatClampNeg) = xt0 → wX9_wordKind_74 Q K2 K20 x1 x2 x3 x5 (1 : Int32) σ) ∧ (¬ ((wch (x3 + x5).toNatClampNeg) = xt0) → wX9_wordKind_74 Q K2 K20 x1 x2 x3 x5 (0 : Int32) σ))
def wX9_wordKind_20 (Q : Int32 → St → Prop) (K2 : Int32 → Int32 → Int32 → St → Prop) : Nat → Int32 → Int32 → Int32 → Int32 → Int32 → St → Prop
  | 0, _, _, _, _, _, _ => False
  | n + 1, x1, x2, x3, x4, x5, σ => (((8 : Int32) ≤ x5 → wX9_wordKind_82 Q K2 x1 x2 x3 x4 σ) ∧ (¬ ((8 : Int32) ≤ x5) → ((x4 = 0 → wX9_wordKind_82 Q K2 x1 x2 x3 x4 σ) ∧ (¬ (x4 = 0) → ((x2 ≤ (x1 + x5) → wX9_wordKind_53 Q K2 (fun x1' x2' x3' x4' x5' σ' => wX9_wordKind_20 Q K2 n x1' x2' x3' x4' x5' σ') x1 x2 x3 x5 (32 : Int32) σ) ∧ (¬ (x2 ≤ (x1 + x5)) → wX8_peek (x1 + x5) σ (fun (r4 : Int32) (σ5 : St) => wX9_wordKind_53 Q K2 (fun x1' x2' x3' x4' x5' σ' => wX9_wordKind_20 Q K2 n x1' x2' x3' x4' x5' σ') x1 x2 x3 x5 r4 σ5)))))))
def wX9_wordKind_2 (Q : Int32 → St → Prop) : Nat → Int32 → Int32 → Int32 → St → Prop
  | 0, _, _, _, _ => False
  | n + 1, x1, x2, x3, σ => (((184 : Int32) < (x3 + (8 : Int32)) → Q (3 : Int32) σ) ∧ (¬ ((184 : Int32) < (x3 + (8 : Int32))) → ∃ j : Nat, wX9_wordKind_20 Q (fun x1' x2' x3' σ' => wX9_wordKind_2 Q n x1' x2' x3' σ') j x1 x2 x3 (1 : Int32) (0 : Int32) σ))
def wX9_wordKind (x1 : Int32) (x2 : Int32) (σ : St) (Q : Int32 → St → Prop) : Prop := ∃ j : Nat, wX9_wordKind_2 Q j x1 x2 (0 : Int32) σ
set_option maxHeartbeats 4000000 in
set_option maxRecDepth 100000 in
theorem tX9_wordKind_82 {p : Program} {l : Launch} {e : Env} {s : State} {m : MethodId} {args : Array Value} {below : List Frame} {meth : Method} {c : Code} {E : EE} {base : Nat} (C : Cx p E base s m args meth c cX9_wordKind 7 RX9) (hr : meth.sig.returnType = (some .int)) {Q : Int32 → St → Prop} {K2 : Int32 → Int32 → Int32 → St → Prop} (hK2 : ∀ (x1 : Int32) (x2 : Int32) (x3 : Int32) (σ : St) (H : Heap) (locs : List Loc) (ls : Array Slot), lv_has ls 7 [(0, .ref (ga E 6)), (1, .int x1), (2, .int x2), (3, .int x3)] → GW E base s σ H locs → K2 x1 x2 x3 σ → W p l e rmX9_wordKind s m args below meth c H locs 0 0 (MQ below (QI E base Q) args s 0 0 (fun q => base ≤ q)) (F0 m 2 ls [])) : ∀ (x1 : Int32) (x2 : Int32) (x3 : Int32) (x4 : Int32) (σ : St) (H : Heap) (locs : List Loc) (ls : Array Slot), lv_has ls 7 [(0, .ref (ga E 6)), (1, .int x1), (2, .int x2), (3, .int x3), (4, .int x4)] → GW E base s σ H locs → wX9_wordKind_82 Q K2 x1 x2 x3 x4 σ → W p l e rmX9_wordKind s m args below meth c H locs 0 0 (MQ below (QI E base Q) args s 0 0 (fun q => base ≤ q)) (F0 m 82 ls []) := by
  intro x1 x2 x3 x4 σ H locs ls hl g h
  refine lv_iload C.1 C.2.1 dX9_wordKind_82 (lv_at hl 4 rfl) ?_
  refine lv_if_eq (tgt := 95) C.1 C.2.1 dX9_wordKind_84 (by decide) (fun c1 => ?_) (fun c1 => ?_)
  · have h := h.1 c1
    obtain ⟨x3_2, ex3_2⟩ : ∃ y : Int32, y = x3 + 8 := ⟨_, rfl⟩
    have h := h x3_2 ex3_2
    refine lv_iinc (v := x3_2) (lv' := [(3, .int x3_2), (0, .ref (ga E 6)), (1, .int x1), (2, .int x2), (4, .int x4)]) C.1 C.2.1 dX9_wordKind_95 hl (k := 3) rfl (by rw [ex3_2]; rfl) (by decide) rfl (fun ls hl => ?_)
    refine lv_goto (tgt := 2) C.1 C.2.1 dX9_wordKind_98 (by decide) ?_
    exact hK2 x1 x2 x3_2 _ _ _ _ (lv_sub hl [1, 2, 3, 0] rfl) g h
  · have h := h.2 c1
    refine lv_bipush (v := 16) C.1 C.2.1 dX9_wordKind_87 (by decide) ?_
    refine lv_iload_n C.1 C.2.1 dX9_wordKind_89 rfl (lv_at hl 3 rfl) ?_
    refine lv_bipush (v := 8) C.1 C.2.1 dX9_wordKind_90 (by decide) ?_
    refine lv_idiv C.1 C.2.1 dX9_wordKind_92 (by decide) ?_
    refine lv_iadd C.1 C.2.1 dX9_wordKind_93 ?_
    exact gx_iret C hr g dX9_wordKind_94 h
set_option maxHeartbeats 4000000 in
set_option maxRecDepth 100000 in
theorem tX9_wordKind_74 {p : Program} {l : Launch} {e : Env} {s : State} {m : MethodId} {args : Array Value} {below : List Frame} {meth : Method} {c : Code} {E : EE} {base : Nat} (C : Cx p E base s m args meth c cX9_wordKind 7 RX9) (hr : meth.sig.returnType = (some .int)) {Q : Int32 → St → Prop} {K2 : Int32 → Int32 → Int32 → St → Prop} (hK2 : ∀ (x1 : Int32) (x2 : Int32) (x3 : Int32) (σ : St) (H : Heap) (locs : List Loc) (ls : Array Slot), lv_has ls 7 [(0, .ref (ga E 6)), (1, .int x1), (2, .int x2), (3, .int x3)] → GW E base s σ H locs → K2 x1 x2 x3 σ → W p l e rmX9_wordKind s m args below meth c H locs 0 0 (MQ below (QI E base Q) args s 0 0 (fun q => base ≤ q)) (F0 m 2 ls [])) {K20 : Int32 → Int32 → Int32 → Int32 → Int32 → St → Prop} (hK20 : ∀ (x1 : Int32) (x2 : Int32) (x3 : Int32) (x4 : Int32) (x5 : Int32) (σ : St) (H : Heap) (locs : List Loc) (ls : Array Slot), lv_has ls 7 [(0, .ref (ga E 6)), (1, .int x1), (2, .int x2), (3, .int x3), (4, .int x4), (5, .int x5)] → GW E base s σ H locs → K20 x1 x2 x3 x4 x5 σ → W p l e rmX9_wordKind s m args below meth c H locs 0 0 (MQ below (QI E base Q) args s 0 0 (fun q => base ≤ q)) (F0 m 20 ls [])) : ∀ (x1 : Int32) (x2 : Int32) (x3 : Int32) (x5 : Int32) (xt0 : Int32) (σ : St) (H : Heap) (locs : List Loc) (ls : Array Slot), lv_has ls 7 [(0, .ref (ga E 6)), (1, .int x1), (2, .int x2), (3, .int x3), (5, .int x5)] → GW E base s σ H locs → wX9_wordKind_74 Q K2 K20 x1 x2 x3 x5 xt0 σ → W p l e rmX9_wordKind s m args below meth c H locs 0 0 (MQ below (QI E base Q) args s 0 0 (fun q => base ≤ q)) (F0 m 74 ls [.int xt0]) := by
  intro x1 x2 x3 x5 xt0 σ H locs ls hl g h
  refine lv_istore (lv' := [(4, .int xt0), (0, .ref (ga E 6)), (1, .int x1), (2, .int x2), (3, .int x3), (5, .int x5)]) C.1 C.2.1 dX9_wordKind_74 hl (by decide) rfl (fun ls hl => ?_)
  obtain ⟨x5_1, ex5_1⟩ : ∃ y : Int32, y = x5 + 1 := ⟨_, rfl⟩
  have h := h x5_1 ex5_1
  refine lv_iinc (v := x5_1) (lv' := [(5, .int x5_1), (4, .int xt0), (0, .ref (ga E 6)), (1, .int x1), (2, .int x2), (3, .int x3)]) C.1 C.2.1 dX9_wordKind_76 hl (k := 5) rfl (by rw [ex5_1]; rfl) (by decide) rfl (fun ls hl => ?_)
  refine lv_goto (tgt := 20) C.1 C.2.1 dX9_wordKind_79 (by decide) ?_
  exact hK20 x1 x2 x3 xt0 x5_1 _ _ _ _ (lv_sub hl [2, 3, 4, 5, 1, 0] rfl) g h
set_option maxHeartbeats 4000000 in
set_option maxRecDepth 100000 in
theorem tX9_wordKind_53 {p : Program} {l : Launch} {e : Env} {s : State} {m : MethodId} {args : Array Value} {below : List Frame} {meth : Method} {c : Code} {E : EE} {base : Nat} (C : Cx p E base s m args meth c cX9_wordKind 7 RX9) (hr : meth.sig.returnType = (some .int)) {Q : Int32 → St → Prop} {K2 : Int32 → Int32 → Int32 → St → Prop} (hK2 : ∀ (x1 : Int32) (x2 : Int32) (x3 : Int32) (σ : St) (H : Heap) (locs : List Loc) (ls : Array Slot), lv_has ls 7 [(0, .ref (ga E 6)), (1, .int x1), (2, .int x2), (3, .int x3)] → GW E base s σ H locs → K2 x1 x2 x3 σ → W p l e rmX9_wordKind s m args below meth c H locs 0 0 (MQ below (QI E base Q) args s 0 0 (fun q => base ≤ q)) (F0 m 2 ls [])) {K20 : Int32 → Int32 → Int32 → Int32 → Int32 → St → Prop} (hK20 : ∀ (x1 : Int32) (x2 : Int32) (x3 : Int32) (x4 : Int32) (x5 : Int32) (σ : St) (H : Heap) (locs : List Loc) (ls : Array Slot), lv_has ls 7 [(0, .ref (ga E 6)), (1, .int x1), (2, .int x2), (3, .int x3), (4, .int x4), (5, .int x5)] → GW E base s σ H locs → K20 x1 x2 x3 x4 x5 σ → W p l e rmX9_wordKind s m args below meth c H locs 0 0 (MQ below (QI E base Q) args s 0 0 (fun q => base ≤ q)) (F0 m 20 ls [])) : ∀ (x1 : Int32) (x2 : Int32) (x3 : Int32) (x5 : Int32) (xt0 : Int32) (σ : St) (H : Heap) (locs : List Loc) (ls : Array Slot), lv_has ls 7 [(0, .ref (ga E 6)), (1, .int x1), (2, .int x2), (3, .int x3), (5, .int x5)] → GW E base s σ H locs → wX9_wordKind_53 Q K2 K20 x1 x2 x3 x5 xt0 σ → W p l e rmX9_wordKind s m args below meth c H locs 0 0 (MQ below (QI E base Q) args s 0 0 (fun q => base ≤ q)) (F0 m 53 ls [.int xt0]) := by
  intro x1 x2 x3 x5 xt0 σ H locs ls hl g h
  refine lv_istore (lv' := [(6, .int xt0), (0, .ref (ga E 6)), (1, .int x1), (2, .int x2), (3, .int x3), (5, .int x5)]) C.1 C.2.1 dX9_wordKind_53 hl (by decide) rfl (fun ls hl => ?_)
  refine gx_ldcS C dX9_wordKind_55 ?_
  refine lv_iload_n C.1 C.2.1 dX9_wordKind_57 rfl (lv_at hl 4 rfl) ?_
  refine lv_iload C.1 C.2.1 dX9_wordKind_58 (lv_at hl 5 rfl) ?_
  refine lv_iadd C.1 C.2.1 dX9_wordKind_60 ?_
  obtain ⟨i2, h⟩ := h
  refine gx_calli0 g (gx_runT (rest := []) C g mb_J0_charAt_5068e ml_X9_62 (mCharAt i2 (QQ := fun r τ => r = wch (x3 + x5).toNatClampNeg ∧ τ = σ) ⟨rfl, rfl⟩) ⟨Nat.le_of_ble_eq_true rfl, Nat.le_of_ble_eq_true rfl⟩ ⟨Nat.le_refl _, Nat.le_refl _⟩ rfl hl.1 rfl (Nat.le_of_ble_eq_true rfl) dX9_wordKind_61) rfl rfl (fun r τ H locs hq g => ?_)
  rw [hq.2] at g
  rw [hq.1]
  refine lv_iload C.1 C.2.1 dX9_wordKind_64 (lv_at hl 0 rfl) ?_
  refine lv_icmp_ne (tgt := 73) C.1 C.2.1 dX9_wordKind_66 (by decide) (fun c3 => ?_) (fun c3 => ?_)
  · have h := h.2 c3
    refine lv_iconst (v := 0) C.1 C.2.1 dX9_wordKind_73 (by decide) ?_
    exact tX9_wordKind_74 C hr hK2 hK20 x1 x2 x3 x5 (0 : Int32) _ _ _ _ (lv_sub hl [1, 2, 3, 4, 5] rfl) g h
  · have h := h.1 c3
    refine lv_iconst (v := 1) C.1 C.2.1 dX9_wordKind_69 (by decide) ?_
    refine lv_goto (tgt := 74) C.1 C.2.1 dX9_wordKind_70 (by decide) ?_
    exact tX9_wordKind_74 C hr hK2 hK20 x1 x2 x3 x5 (1 : Int32) _ _ _ _ (lv_sub hl [1, 2, 3, 4, 5] rfl) g h
set_option maxHeartbeats 4000000 in
set_option maxRecDepth 100000 in
theorem tX9_wordKind_20 {p : Program} {l : Launch} {e : Env} {s : State} {m : MethodId} {args : Array Value} {below : List Frame} {meth : Method} {c : Code} {E : EE} {base : Nat} (C : Cx p E base s m args meth c cX9_wordKind 7 RX9) (hr : meth.sig.returnType = (some .int)) {Q : Int32 → St → Prop} {K2 : Int32 → Int32 → Int32 → St → Prop} (hK2 : ∀ (x1 : Int32) (x2 : Int32) (x3 : Int32) (σ : St) (H : Heap) (locs : List Loc) (ls : Array Slot), lv_has ls 7 [(0, .ref (ga E 6)), (1, .int x1), (2, .int x2), (3, .int x3)] → GW E base s σ H locs → K2 x1 x2 x3 σ → W p l e rmX9_wordKind s m args below meth c H locs 0 0 (MQ below (QI E base Q) args s 0 0 (fun q => base ≤ q)) (F0 m 2 ls [])) : ∀ (n : Nat) (x1 : Int32) (x2 : Int32) (x3 : Int32) (x4 : Int32) (x5 : Int32) (σ : St) (H : Heap) (locs : List Loc) (ls : Array Slot), lv_has ls 7 [(0, .ref (ga E 6)), (1, .int x1), (2, .int x2), (3, .int x3), (4, .int x4), (5, .int x5)] → GW E base s σ H locs → wX9_wordKind_20 Q K2 n x1 x2 x3 x4 x5 σ → W p l e rmX9_wordKind s m args below meth c H locs 0 0 (MQ below (QI E base Q) args s 0 0 (fun q => base ≤ q)) (F0 m 20 ls []) := by
  intro n
  induction n with
  | zero => intro _ _ _ _ _; intros; exact False.elim (by assumption)
  | succ n ih =>
    intro x1 x2 x3 x4 x5 σ H locs ls hl g h
    refine lv_iload C.1 C.2.1 dX9_wordKind_20 (lv_at hl 5 rfl) ?_
    refine lv_bipush (v := 8) C.1 C.2.1 dX9_wordKind_22 (by decide) ?_
    refine lv_icmp_ge (tgt := 82) C.1 C.2.1 dX9_wordKind_24 (by decide) (fun c1 => ?_) (fun c1 => ?_)
    · have h := h.1 c1
      exact tX9_wordKind_82 C hr hK2 x1 x2 x3 x4 _ _ _ _ (lv_sub hl [0, 1, 2, 3, 4] rfl) g h
    · have h := h.2 c1
      refine lv_iload C.1 C.2.1 dX9_wordKind_27 (lv_at hl 4 rfl) ?_
      refine lv_if_eq (tgt := 82) C.1 C.2.1 dX9_wordKind_29 (by decide) (fun c2 => ?_) (fun c2 => ?_)
      · have h := h.1 c2
        exact tX9_wordKind_82 C hr hK2 x1 x2 x3 x4 _ _ _ _ (lv_sub hl [0, 1, 2, 3, 4] rfl) g h
      · have h := h.2 c2
        refine lv_iload_n C.1 C.2.1 dX9_wordKind_32 rfl (lv_at hl 1 rfl) ?_
        refine lv_iload C.1 C.2.1 dX9_wordKind_33 (lv_at hl 5 rfl) ?_
        refine lv_iadd C.1 C.2.1 dX9_wordKind_35 ?_
        refine lv_iload_n C.1 C.2.1 dX9_wordKind_36 rfl (lv_at hl 2 rfl) ?_
        refine lv_icmp_ge (tgt := 51) C.1 C.2.1 dX9_wordKind_37 (by decide) (fun c3 => ?_) (fun c3 => ?_)
        · have h := h.1 c3
          refine lv_bipush (v := 32) C.1 C.2.1 dX9_wordKind_51 (by decide) ?_
          exact tX9_wordKind_53 C hr hK2 ih x1 x2 x3 x5 (32 : Int32) _ _ _ _ (lv_sub hl [0, 1, 2, 3, 5] rfl) g h
        · have h := h.2 c3
          refine lv_aload_n C.1 C.2.1 dX9_wordKind_40 rfl (lv_at hl 0 rfl) ?_
          refine lv_iload_n C.1 C.2.1 dX9_wordKind_41 rfl (lv_at hl 1 rfl) ?_
          refine lv_iload C.1 C.2.1 dX9_wordKind_42 (lv_at hl 5 rfl) ?_
          refine lv_iadd C.1 C.2.1 dX9_wordKind_44 ?_
          refine gx_calli0 g (gx_runV (k := 6) (rest := []) C g mb_X8_peek ml_X9_25 rfl sh_6 (mX8_peek (x1 + x5) _ _ h) ⟨Nat.le_of_ble_eq_true rfl, Nat.le_of_ble_eq_true rfl⟩ ⟨Nat.le_refl _, Nat.le_refl _⟩ rfl hl.1 rfl (Nat.le_of_ble_eq_true rfl) dX9_wordKind_45) rfl rfl (fun r4 σ5 H locs h g => ?_)
          refine lv_goto (tgt := 53) C.1 C.2.1 dX9_wordKind_48 (by decide) ?_
          exact tX9_wordKind_53 C hr hK2 ih x1 x2 x3 x5 r4 _ _ _ _ (lv_sub hl [0, 1, 2, 3, 5] rfl) g h
set_option maxHeartbeats 4000000 in
set_option maxRecDepth 100000 in
theorem tX9_wordKind_2 {p : Program} {l : Launch} {e : Env} {s : State} {m : MethodId} {args : Array Value} {below : List Frame} {meth : Method} {c : Code} {E : EE} {base : Nat} (C : Cx p E base s m args meth c cX9_wordKind 7 RX9) (hr : meth.sig.returnType = (some .int)) {Q : Int32 → St → Prop} : ∀ (n : Nat) (x1 : Int32) (x2 : Int32) (x3 : Int32) (σ : St) (H : Heap) (locs : List Loc) (ls : Array Slot), lv_has ls 7 [(0, .ref (ga E 6)), (1, .int x1), (2, .int x2), (3, .int x3)] → GW E base s σ H locs → wX9_wordKind_2 Q n x1 x2 x3 σ → W p l e rmX9_wordKind s m args below meth c H locs 0 0 (MQ below (QI E base Q) args s 0 0 (fun q => base ≤ q)) (F0 m 2 ls []) := by
  intro n
  induction n with
  | zero => intro _ _ _; intros; exact False.elim (by assumption)
  | succ n ih =>
    intro x1 x2 x3 σ H locs ls hl g h
    refine lv_iload_n C.1 C.2.1 dX9_wordKind_2 rfl (lv_at hl 3 rfl) ?_
    refine lv_bipush (v := 8) C.1 C.2.1 dX9_wordKind_3 (by decide) ?_
    refine lv_iadd C.1 C.2.1 dX9_wordKind_5 ?_
    refine gx_ldcS C dX9_wordKind_6 ?_
    refine gx_calli0 g (gx_runT (rest := [.int (x3 + (8 : Int32))]) C g mb_J0_length_8abf5 ml_X9_56 (mLength (QQ := fun r τ => r = 184 ∧ τ = σ) ⟨rfl, rfl⟩) ⟨Nat.le_of_ble_eq_true rfl, Nat.le_of_ble_eq_true rfl⟩ ⟨Nat.le_refl _, Nat.le_refl _⟩ rfl hl.1 rfl (Nat.le_of_ble_eq_true rfl) dX9_wordKind_8) rfl rfl (fun r τ H locs hq g => ?_)
    rw [hq.2] at g
    rw [hq.1]
    refine lv_icmp_gt (tgt := 101) C.1 C.2.1 dX9_wordKind_11 (by decide) (fun c2 => ?_) (fun c2 => ?_)
    · have h := h.1 c2
      refine lv_iconst (v := 3) C.1 C.2.1 dX9_wordKind_101 (by decide) ?_
      exact gx_iret C hr g dX9_wordKind_102 h
    · have h := h.2 c2
      refine lv_iconst (v := 1) C.1 C.2.1 dX9_wordKind_14 (by decide) ?_
      refine lv_istore (lv' := [(4, .int (1 : Int32)), (0, .ref (ga E 6)), (1, .int x1), (2, .int x2), (3, .int x3)]) C.1 C.2.1 dX9_wordKind_15 hl (by decide) rfl (fun ls hl => ?_)
      refine lv_iconst (v := 0) C.1 C.2.1 dX9_wordKind_17 (by decide) ?_
      refine lv_istore (lv' := [(5, .int (0 : Int32)), (4, .int (1 : Int32)), (0, .ref (ga E 6)), (1, .int x1), (2, .int x2), (3, .int x3)]) C.1 C.2.1 dX9_wordKind_18 hl (by decide) rfl (fun ls hl => ?_)
      obtain ⟨j, h⟩ := h
      exact tX9_wordKind_20 C hr ih j x1 x2 x3 (1 : Int32) (0 : Int32) _ _ _ _ (lv_sub hl [2, 3, 4, 5, 1, 0] rfl) g h
set_option maxHeartbeats 4000000 in
set_option maxRecDepth 100000 in
theorem tX9_wordKind_e {p : Program} {l : Launch} {e : Env} {s : State} {m : MethodId} {args : Array Value} {below : List Frame} {meth : Method} {c : Code} {E : EE} {base : Nat} (C : Cx p E base s m args meth c cX9_wordKind 7 RX9) (hr : meth.sig.returnType = (some .int)) {Q : Int32 → St → Prop} : ∀ (x1 : Int32) (x2 : Int32) (σ : St) (H : Heap) (locs : List Loc) (ls : Array Slot), lv_has ls 7 [(0, .ref (ga E 6)), (1, .int x1), (2, .int x2)] → GW E base s σ H locs → wX9_wordKind x1 x2 σ Q → W p l e rmX9_wordKind s m args below meth c H locs 0 0 (MQ below (QI E base Q) args s 0 0 (fun q => base ≤ q)) (F0 m 0 ls []) := by
  intro x1 x2 σ H locs ls hl g h
  refine lv_iconst (v := 0) C.1 C.2.1 dX9_wordKind_0 (by decide) ?_
  refine lv_istore_n (lv' := [(3, .int (0 : Int32)), (0, .ref (ga E 6)), (1, .int x1), (2, .int x2)]) C.1 C.2.1 dX9_wordKind_1 rfl hl (by decide) rfl (fun ls hl => ?_)
  obtain ⟨j, h⟩ := h
  exact tX9_wordKind_2 C hr j x1 x2 (0 : Int32) _ _ _ _ (lv_sub hl [1, 2, 3, 0] rfl) g h
theorem mX9_wordKind {l : Launch} {E : EE} {base : Nat} (x1 : Int32) (x2 : Int32) (σ : St) (Q : Int32 → St → Prop) (h : wX9_wordKind x1 x2 σ Q) : Met l yX9_wordKind (wy yX9_wordKind cX9_wordKind 7 (some .int)) rmX9_wordKind (va_Pc [.ref (ga E 6), .int x1, .int x2] (fun U => SW E base σ U)) (QI E base Q) (rmX9_wordKind).cells (rmX9_wordKind).slots (fun q => base ≤ q) :=
  met_of (by decide) (Nat.le_of_ble_eq_true rfl) (fun p e s m args below meth c C hr g ls hl => tX9_wordKind_e C hr x1 x2 _ _ _ _ hl g h)
abbrev rmX9_signKind : Room := { frames := 0, cells := 0, slots := 0, locals := 0 }
def wX9_signKind (x0 : Int32) (x1 : Int32) (σ : St) (Q : Int32 → St → Prop) : Prop := ((x0 = 33 → ((x1 = 0 → Q (1 : Int32) σ) ∧ (¬ (x1 = 0) → Q (12 : Int32) σ))) ∧ (¬ (x0 = 33) → ((x0 = 40 → Q (6 : Int32) σ) ∧ (¬ (x0 = 40) → ((x0 = 41 → Q (7 : Int32) σ) ∧ (¬ (x0 = 41) → ((x0 = 42 → Q (10 : Int32) σ) ∧ (¬ (x0 = 42) → ((x0 = 43 → Q (8 : Int32) σ) ∧ (¬ (x0 = 43) → ((x0 = 45 → Q (9 : Int32) σ) ∧ (¬ (x0 = 45) → ((x0 = 58 → Q (5 : Int32) σ) ∧ (¬ (x0 = 58) → ((x0 = 59 → Q (4 : Int32) σ) ∧ (¬ (x0 = 59) → ((x0 = 60 → ((x1 = 0 → Q (13 : Int32) σ) ∧ (¬ (x1 = 0) → Q (14 : Int32) σ))) ∧ (¬ (x0 = 60) → ((x0 = 61 → ((x1 = 0 → Q (1 : Int32) σ) ∧ (¬ (x1 = 0) → Q (11 : Int32) σ))) ∧ (¬ (x0 = 61) → Q (1 : Int32) σ))))))))))))))))))))
set_option maxHeartbeats 4000000 in
set_option maxRecDepth 100000 in
theorem tX9_signKind_e {p : Program} {l : Launch} {e : Env} {s : State} {m : MethodId} {args : Array Value} {below : List Frame} {meth : Method} {c : Code} {E : EE} {base : Nat} (C : Cx p E base s m args meth c cX9_signKind 2 RX9) (hr : meth.sig.returnType = (some .int)) {Q : Int32 → St → Prop} : ∀ (x0 : Int32) (x1 : Int32) (σ : St) (H : Heap) (locs : List Loc) (ls : Array Slot), lv_has ls 2 [(0, .int x0), (1, .int x1)] → GW E base s σ H locs → wX9_signKind x0 x1 σ Q → W p l e rmX9_signKind s m args below meth c H locs 0 0 (MQ below (QI E base Q) args s 0 0 (fun q => base ≤ q)) (F0 m 0 ls []) := by
  intro x0 x1 σ H locs ls hl g h
  refine lv_iload_n C.1 C.2.1 dX9_signKind_0 rfl (lv_at hl 0 rfl) ?_
  by_cases c1 : x0 = 33
  · have h := h.1 c1
    refine gx_tabI (tgt := 162) C.1 C.2.1 dX9_signKind_1 (off := 161) (k := 33) c1 (by decide +kernel) (by decide) ?_
    refine lv_iload_n C.1 C.2.1 dX9_signKind_162 rfl (lv_at hl 1 rfl) ?_
    refine lv_if_eq (tgt := 171) C.1 C.2.1 dX9_signKind_163 (by decide) (fun c2 => ?_) (fun c2 => ?_)
    · have h := h.1 c2
      refine lv_iconst (v := 1) C.1 C.2.1 dX9_signKind_171 (by decide) ?_
      exact gx_iret C hr g dX9_signKind_172 h
    · have h := h.2 c2
      refine lv_bipush (v := 12) C.1 C.2.1 dX9_signKind_166 (by decide) ?_
      refine lv_goto (tgt := 172) C.1 C.2.1 dX9_signKind_168 (by decide) ?_
      exact gx_iret C hr g dX9_signKind_172 h
  · have h := h.2 c1
    by_cases c3 : x0 = 40
    · have h := h.1 c3
      refine gx_tabI (tgt := 136) C.1 C.2.1 dX9_signKind_1 (off := 135) (k := 40) c3 (by decide +kernel) (by decide) ?_
      refine lv_bipush (v := 6) C.1 C.2.1 dX9_signKind_136 (by decide) ?_
      exact gx_iret C hr g dX9_signKind_138 h
    · have h := h.2 c3
      by_cases c4 : x0 = 41
      · have h := h.1 c4
        refine gx_tabI (tgt := 139) C.1 C.2.1 dX9_signKind_1 (off := 138) (k := 41) c4 (by decide +kernel) (by decide) ?_
        refine lv_bipush (v := 7) C.1 C.2.1 dX9_signKind_139 (by decide) ?_
        exact gx_iret C hr g dX9_signKind_141 h
      · have h := h.2 c4
        by_cases c5 : x0 = 42
        · have h := h.1 c5
          refine gx_tabI (tgt := 148) C.1 C.2.1 dX9_signKind_1 (off := 147) (k := 42) c5 (by decide +kernel) (by decide) ?_
          refine lv_bipush (v := 10) C.1 C.2.1 dX9_signKind_148 (by decide) ?_
          exact gx_iret C hr g dX9_signKind_150 h
        · have h := h.2 c5
          by_cases c6 : x0 = 43
          · have h := h.1 c6
            refine gx_tabI (tgt := 142) C.1 C.2.1 dX9_signKind_1 (off := 141) (k := 43) c6 (by decide +kernel) (by decide) ?_
            refine lv_bipush (v := 8) C.1 C.2.1 dX9_signKind_142 (by decide) ?_
            exact gx_iret C hr g dX9_signKind_144 h
          · have h := h.2 c6
            by_cases c7 : x0 = 45
            · have h := h.1 c7
              refine gx_tabI (tgt := 145) C.1 C.2.1 dX9_signKind_1 (off := 144) (k := 45) c7 (by decide +kernel) (by decide) ?_
              refine lv_bipush (v := 9) C.1 C.2.1 dX9_signKind_145 (by decide) ?_
              exact gx_iret C hr g dX9_signKind_147 h
            · have h := h.2 c7
              by_cases c8 : x0 = 58
              · have h := h.1 c8
                refine gx_tabI (tgt := 134) C.1 C.2.1 dX9_signKind_1 (off := 133) (k := 58) c8 (by decide +kernel) (by decide) ?_
                refine lv_iconst (v := 5) C.1 C.2.1 dX9_signKind_134 (by decide) ?_
                exact gx_iret C hr g dX9_signKind_135 h
              · have h := h.2 c8
                by_cases c9 : x0 = 59
                · have h := h.1 c9
                  refine gx_tabI (tgt := 132) C.1 C.2.1 dX9_signKind_1 (off := 131) (k := 59) c9 (by decide +kernel) (by decide) ?_
                  refine lv_iconst (v := 4) C.1 C.2.1 dX9_signKind_132 (by decide) ?_
                  exact gx_iret C hr g dX9_signKind_133 h
                · have h := h.2 c9
                  by_cases c10 : x0 = 60
                  · have h := h.1 c10
                    refine gx_tabI (tgt := 173) C.1 C.2.1 dX9_signKind_1 (off := 172) (k := 60) c10 (by decide +kernel) (by decide) ?_
                    refine lv_iload_n C.1 C.2.1 dX9_signKind_173 rfl (lv_at hl 1 rfl) ?_
                    refine lv_if_eq (tgt := 182) C.1 C.2.1 dX9_signKind_174 (by decide) (fun c11 => ?_) (fun c11 => ?_)
                    · have h := h.1 c11
                      refine lv_bipush (v := 13) C.1 C.2.1 dX9_signKind_182 (by decide) ?_
                      exact gx_iret C hr g dX9_signKind_184 h
                    · have h := h.2 c11
                      refine lv_bipush (v := 14) C.1 C.2.1 dX9_signKind_177 (by decide) ?_
                      refine lv_goto (tgt := 184) C.1 C.2.1 dX9_signKind_179 (by decide) ?_
                      exact gx_iret C hr g dX9_signKind_184 h
                  · have h := h.2 c10
                    by_cases c12 : x0 = 61
                    · have h := h.1 c12
                      refine gx_tabI (tgt := 151) C.1 C.2.1 dX9_signKind_1 (off := 150) (k := 61) c12 (by decide +kernel) (by decide) ?_
                      refine lv_iload_n C.1 C.2.1 dX9_signKind_151 rfl (lv_at hl 1 rfl) ?_
                      refine lv_if_eq (tgt := 160) C.1 C.2.1 dX9_signKind_152 (by decide) (fun c13 => ?_) (fun c13 => ?_)
                      · have h := h.1 c13
                        refine lv_iconst (v := 1) C.1 C.2.1 dX9_signKind_160 (by decide) ?_
                        exact gx_iret C hr g dX9_signKind_161 h
                      · have h := h.2 c13
                        refine lv_bipush (v := 11) C.1 C.2.1 dX9_signKind_155 (by decide) ?_
                        refine lv_goto (tgt := 161) C.1 C.2.1 dX9_signKind_157 (by decide) ?_
                        exact gx_iret C hr g dX9_signKind_161 h
                    · have h := h.2 c12
                      refine gx_tabD (tgt := 185) C.1 C.2.1 dX9_signKind_1 [33, 40, 41, 42, 43, 45, 58, 59, 60, 61] (List.forall_mem_cons.mpr ⟨c1, List.forall_mem_cons.mpr ⟨c3, List.forall_mem_cons.mpr ⟨c4, List.forall_mem_cons.mpr ⟨c5, List.forall_mem_cons.mpr ⟨c6, List.forall_mem_cons.mpr ⟨c7, List.forall_mem_cons.mpr ⟨c8, List.forall_mem_cons.mpr ⟨c9, List.forall_mem_cons.mpr ⟨c10, List.forall_mem_cons.mpr ⟨c12, fun _ z => by cases z⟩⟩⟩⟩⟩⟩⟩⟩⟩⟩) (by decide +kernel) (by decide +kernel) (by decide) ?_
                      refine lv_iconst (v := 1) C.1 C.2.1 dX9_signKind_185 (by decide) ?_
                      exact gx_iret C hr g dX9_signKind_186 h
theorem mX9_signKind {l : Launch} {E : EE} {base : Nat} (x0 : Int32) (x1 : Int32) (σ : St) (Q : Int32 → St → Prop) (h : wX9_signKind x0 x1 σ Q) : Met l yX9_signKind (wy yX9_signKind cX9_signKind 2 (some .int)) rmX9_signKind (va_Pc [.int x0, .int x1] (fun U => SW E base σ U)) (QI E base Q) (rmX9_signKind).cells (rmX9_signKind).slots (fun q => base ≤ q) :=
  met_of (by decide) (Nat.le_of_ble_eq_true rfl) (fun p e s m args below meth c C hr g ls hl => tX9_signKind_e C hr x0 x1 _ _ _ _ hl g h)
abbrev rmX9_kindOf : Room := { frames := 5, cells := 0, slots := 0, locals := 111 }
def wX9_kindOf_90 (Q : Int32 → St → Prop) (xt0 : Int32) (xt1 : Int32) (σ : St) : Prop := wX9_signKind xt0 xt1 σ (fun (r1 : Int32) (σ2 : St) => Q r1 σ2)
def wX9_kindOf (x1 : Int32) (x2 : Int32) (σ : St) (Q : Int32 → St → Prop) : Prop := wX8_peek x1 σ (fun (r1 : Int32) (σ2 : St) => wX9_sortOf r1 σ2 (fun (r3 : Int32) (σ4 : St) => ((r3 = 1 → (((x2 - x1) ≤ (8 : Int32) → wX9_wordKind x1 x2 σ4 (fun (r7 : Int32) (σ8 : St) => Q r7 σ8)) ∧ (¬ ((x2 - x1) ≤ (8 : Int32)) → Q (1 : Int32) σ4))) ∧ (¬ (r3 = 1) → ((r3 = 2 → (((x2 - x1) ≤ (4 : Int32) → Q (2 : Int32) σ4) ∧ (¬ ((x2 - x1) ≤ (4 : Int32)) → Q (1 : Int32) σ4))) ∧ (¬ (r3 = 2) → ((r1 = (-1 : Int32) → Q (0 : Int32) σ4) ∧ (¬ (r1 = (-1 : Int32)) → (((x2 - x1) = (2 : Int32) → wX9_kindOf_90 Q r1 (1 : Int32) σ4) ∧ (¬ ((x2 - x1) = (2 : Int32)) → wX9_kindOf_90 Q r1 (0 : Int32) σ4))))))))))
set_option maxHeartbeats 4000000 in
set_option maxRecDepth 100000 in
theorem tX9_kindOf_90 {p : Program} {l : Launch} {e : Env} {s : State} {m : MethodId} {args : Array Value} {below : List Frame} {meth : Method} {c : Code} {E : EE} {base : Nat} (C : Cx p E base s m args meth c cX9_kindOf 4 RX9) (hr : meth.sig.returnType = (some .int)) {Q : Int32 → St → Prop} : ∀ (xt0 : Int32) (xt1 : Int32) (σ : St) (H : Heap) (locs : List Loc) (ls : Array Slot), lv_has ls 4 [] → GW E base s σ H locs → wX9_kindOf_90 Q xt0 xt1 σ → W p l e rmX9_kindOf s m args below meth c H locs 0 0 (MQ below (QI E base Q) args s 0 0 (fun q => base ≤ q)) (F0 m 90 ls [.int xt1, .int xt0]) := by
  intro xt0 xt1 σ H locs ls hl g h
  refine gx_calli0 g (gx_runS (rest := []) C g ms_X9_signKind ml_X9_50 (mX9_signKind xt0 xt1 _ _ h) ⟨Nat.le_of_ble_eq_true rfl, Nat.le_of_ble_eq_true rfl⟩ ⟨Nat.le_refl _, Nat.le_refl _⟩ rfl hl.1 rfl (Nat.le_of_ble_eq_true rfl) dX9_kindOf_90) rfl rfl (fun r1 σ2 H locs h g => ?_)
  exact gx_iret C hr g dX9_kindOf_93 h
set_option maxHeartbeats 4000000 in
set_option maxRecDepth 100000 in
theorem tX9_kindOf_e {p : Program} {l : Launch} {e : Env} {s : State} {m : MethodId} {args : Array Value} {below : List Frame} {meth : Method} {c : Code} {E : EE} {base : Nat} (C : Cx p E base s m args meth c cX9_kindOf 4 RX9) (hr : meth.sig.returnType = (some .int)) {Q : Int32 → St → Prop} : ∀ (x1 : Int32) (x2 : Int32) (σ : St) (H : Heap) (locs : List Loc) (ls : Array Slot), lv_has ls 4 [(0, .ref (ga E 6)), (1, .int x1), (2, .int x2)] → GW E base s σ H locs → wX9_kindOf x1 x2 σ Q → W p l e rmX9_kindOf s m args below meth c H locs 0 0 (MQ below (QI E base Q) args s 0 0 (fun q => base ≤ q)) (F0 m 0 ls []) := by
  intro x1 x2 σ H locs ls hl g h
  refine lv_aload_n C.1 C.2.1 dX9_kindOf_0 rfl (lv_at hl 0 rfl) ?_
  refine lv_iload_n C.1 C.2.1 dX9_kindOf_1 rfl (lv_at hl 1 rfl) ?_
  refine gx_calli0 g (gx_runV (k := 6) (rest := []) C g mb_X8_peek ml_X9_25 rfl sh_6 (mX8_peek x1 _ _ h) ⟨Nat.le_of_ble_eq_true rfl, Nat.le_of_ble_eq_true rfl⟩ ⟨Nat.le_refl _, Nat.le_refl _⟩ rfl hl.1 rfl (Nat.le_of_ble_eq_true rfl) dX9_kindOf_2) rfl rfl (fun r1 σ2 H locs h g => ?_)
  refine lv_istore_n (lv' := [(3, .int r1), (0, .ref (ga E 6)), (1, .int x1), (2, .int x2)]) C.1 C.2.1 dX9_kindOf_5 rfl hl (by decide) rfl (fun ls hl => ?_)
  refine lv_iload_n C.1 C.2.1 dX9_kindOf_6 rfl (lv_at hl 0 rfl) ?_
  refine gx_calli0 g (gx_runS (rest := []) C g ms_X9_sortOf ml_X9_29 (mX9_sortOf r1 _ _ h) ⟨Nat.le_of_ble_eq_true rfl, Nat.le_of_ble_eq_true rfl⟩ ⟨Nat.le_refl _, Nat.le_refl _⟩ rfl hl.1 rfl (Nat.le_of_ble_eq_true rfl) dX9_kindOf_7) rfl rfl (fun r3 σ4 H locs h g => ?_)
  by_cases c5 : r3 = 1
  · have h := h.1 c5
    refine lv_lookup (tgt := 36) (off := 26) C.1 C.2.1 dX9_kindOf_10 (by decide) (by rw [c5]; rfl) (by decide) ?_
    refine lv_iload_n C.1 C.2.1 dX9_kindOf_36 rfl (lv_at hl 3 rfl) ?_
    refine lv_iload_n C.1 C.2.1 dX9_kindOf_37 rfl (lv_at hl 2 rfl) ?_
    refine lv_isub C.1 C.2.1 dX9_kindOf_38 ?_
    refine lv_bipush (v := 8) C.1 C.2.1 dX9_kindOf_39 (by decide) ?_
    refine lv_icmp_le (tgt := 48) C.1 C.2.1 dX9_kindOf_41 (by decide) (fun c6 => ?_) (fun c6 => ?_)
    · have h := h.1 c6
      refine lv_aload_n C.1 C.2.1 dX9_kindOf_48 rfl (lv_at hl 1 rfl) ?_
      refine lv_iload_n C.1 C.2.1 dX9_kindOf_49 rfl (lv_at hl 2 rfl) ?_
      refine lv_iload_n C.1 C.2.1 dX9_kindOf_50 rfl (lv_at hl 3 rfl) ?_
      refine gx_calli0 g (gx_runS (rest := []) C g ms_X9_wordKind ml_X9_47 (mX9_wordKind x1 x2 _ _ h) ⟨Nat.le_of_ble_eq_true rfl, Nat.le_of_ble_eq_true rfl⟩ ⟨Nat.le_refl _, Nat.le_refl _⟩ rfl hl.1 rfl (Nat.le_of_ble_eq_true rfl) dX9_kindOf_51) rfl rfl (fun r7 σ8 H locs h g => ?_)
      exact gx_iret C hr g dX9_kindOf_54 h
    · have h := h.2 c6
      refine lv_iconst (v := 1) C.1 C.2.1 dX9_kindOf_44 (by decide) ?_
      refine lv_goto (tgt := 54) C.1 C.2.1 dX9_kindOf_45 (by decide) ?_
      exact gx_iret C hr g dX9_kindOf_54 h
  · have h := h.2 c5
    by_cases c9 : r3 = 2
    · have h := h.1 c9
      refine lv_lookup (tgt := 55) (off := 45) C.1 C.2.1 dX9_kindOf_10 (by decide) (by rw [c9]; rfl) (by decide) ?_
      refine lv_iload_n C.1 C.2.1 dX9_kindOf_55 rfl (lv_at hl 3 rfl) ?_
      refine lv_iload_n C.1 C.2.1 dX9_kindOf_56 rfl (lv_at hl 2 rfl) ?_
      refine lv_isub C.1 C.2.1 dX9_kindOf_57 ?_
      refine lv_iconst (v := 4) C.1 C.2.1 dX9_kindOf_58 (by decide) ?_
      refine lv_icmp_le (tgt := 66) C.1 C.2.1 dX9_kindOf_59 (by decide) (fun c10 => ?_) (fun c10 => ?_)
      · have h := h.1 c10
        refine lv_iconst (v := 2) C.1 C.2.1 dX9_kindOf_66 (by decide) ?_
        exact gx_iret C hr g dX9_kindOf_67 h
      · have h := h.2 c10
        refine lv_iconst (v := 1) C.1 C.2.1 dX9_kindOf_62 (by decide) ?_
        refine lv_goto (tgt := 67) C.1 C.2.1 dX9_kindOf_63 (by decide) ?_
        exact gx_iret C hr g dX9_kindOf_67 h
    · have h := h.2 c9
      refine lv_lookup (tgt := 68) (off := 58) C.1 C.2.1 dX9_kindOf_10 (by decide) (by show Op.lookupswitch.offset [(1, 26), (2, 45)] 58 _ = 58; rw [lv_osw (a := 1) c5 (by decide), lv_osw (a := 2) c9 (by decide)]; rfl) (by decide) ?_
      refine lv_iload_n C.1 C.2.1 dX9_kindOf_68 rfl (lv_at hl 0 rfl) ?_
      refine lv_iconst (v := -1) C.1 C.2.1 dX9_kindOf_69 (by decide) ?_
      refine lv_icmp_ne (tgt := 77) C.1 C.2.1 dX9_kindOf_70 (by decide) (fun c11 => ?_) (fun c11 => ?_)
      · have h := h.2 c11
        refine lv_iload_n C.1 C.2.1 dX9_kindOf_77 rfl (lv_at hl 0 rfl) ?_
        refine lv_iload_n C.1 C.2.1 dX9_kindOf_78 rfl (lv_at hl 3 rfl) ?_
        refine lv_iload_n C.1 C.2.1 dX9_kindOf_79 rfl (lv_at hl 2 rfl) ?_
        refine lv_isub C.1 C.2.1 dX9_kindOf_80 ?_
        refine lv_iconst (v := 2) C.1 C.2.1 dX9_kindOf_81 (by decide) ?_
        refine lv_icmp_ne (tgt := 89) C.1 C.2.1 dX9_kindOf_82 (by decide) (fun c12 => ?_) (fun c12 => ?_)
        · have h := h.2 c12
          refine lv_iconst (v := 0) C.1 C.2.1 dX9_kindOf_89 (by decide) ?_
          exact tX9_kindOf_90 C hr r1 (0 : Int32) _ _ _ _ (lv_sub hl [] rfl) g h
        · have h := h.1 c12
          refine lv_iconst (v := 1) C.1 C.2.1 dX9_kindOf_85 (by decide) ?_
          refine lv_goto (tgt := 90) C.1 C.2.1 dX9_kindOf_86 (by decide) ?_
          exact tX9_kindOf_90 C hr r1 (1 : Int32) _ _ _ _ (lv_sub hl [] rfl) g h
      · have h := h.1 c11
        refine lv_iconst (v := 0) C.1 C.2.1 dX9_kindOf_73 (by decide) ?_
        refine lv_goto (tgt := 93) C.1 C.2.1 dX9_kindOf_74 (by decide) ?_
        exact gx_iret C hr g dX9_kindOf_93 h
theorem mX9_kindOf {l : Launch} {E : EE} {base : Nat} (x1 : Int32) (x2 : Int32) (σ : St) (Q : Int32 → St → Prop) (h : wX9_kindOf x1 x2 σ Q) : Met l yX9_kindOf (wy yX9_kindOf cX9_kindOf 4 (some .int)) rmX9_kindOf (va_Pc [.ref (ga E 6), .int x1, .int x2] (fun U => SW E base σ U)) (QI E base Q) (rmX9_kindOf).cells (rmX9_kindOf).slots (fun q => base ≤ q) :=
  met_of (by decide) (Nat.le_of_ble_eq_true rfl) (fun p e s m args below meth c C hr g ls hl => tX9_kindOf_e C hr x1 x2 _ _ _ _ hl g h)
abbrev rmX9_numberOf : Room := { frames := 1, cells := 0, slots := 0, locals := 21 }
def wX9_numberOf_5 (Q : Int32 → St → Prop) : Nat → Int32 → Int32 → Int32 → St → Prop
  | 0, _, _, _, _ => False
  | n + 1, x2, x3, x4, σ => ((x2 ≤ x4 → Q x3 σ) ∧ (¬ (x2 ≤ x4) → wX8_peek x4 σ (fun (r2 : Int32) (σ3 : St) => ∀ x3_4 : Int32, x3_4 = (((10 : Int32) * x3) + r2) - (48 : Int32) → ∀ x4_5 : Int32, x4_5 = x4 + 1 → wX9_numberOf_5 Q n x2 x3_4 x4_5 σ3)))
def wX9_numberOf (x1 : Int32) (x2 : Int32) (σ : St) (Q : Int32 → St → Prop) : Prop := ∃ j : Nat, wX9_numberOf_5 Q j x2 (0 : Int32) x1 σ
set_option maxHeartbeats 4000000 in
set_option maxRecDepth 100000 in
theorem tX9_numberOf_5 {p : Program} {l : Launch} {e : Env} {s : State} {m : MethodId} {args : Array Value} {below : List Frame} {meth : Method} {c : Code} {E : EE} {base : Nat} (C : Cx p E base s m args meth c cX9_numberOf 5 RX9) (hr : meth.sig.returnType = (some .int)) {Q : Int32 → St → Prop} : ∀ (n : Nat) (x2 : Int32) (x3 : Int32) (x4 : Int32) (σ : St) (H : Heap) (locs : List Loc) (ls : Array Slot), lv_has ls 5 [(0, .ref (ga E 6)), (2, .int x2), (3, .int x3), (4, .int x4)] → GW E base s σ H locs → wX9_numberOf_5 Q n x2 x3 x4 σ → W p l e rmX9_numberOf s m args below meth c H locs 0 0 (MQ below (QI E base Q) args s 0 0 (fun q => base ≤ q)) (F0 m 5 ls []) := by
  intro n
  induction n with
  | zero => intro _ _ _; intros; exact False.elim (by assumption)
  | succ n ih =>
    intro x2 x3 x4 σ H locs ls hl g h
    refine lv_iload C.1 C.2.1 dX9_numberOf_5 (lv_at hl 3 rfl) ?_
    refine lv_iload_n C.1 C.2.1 dX9_numberOf_7 rfl (lv_at hl 1 rfl) ?_
    refine lv_icmp_ge (tgt := 32) C.1 C.2.1 dX9_numberOf_8 (by decide) (fun c1 => ?_) (fun c1 => ?_)
    · have h := h.1 c1
      refine lv_iload_n C.1 C.2.1 dX9_numberOf_32 rfl (lv_at hl 2 rfl) ?_
      exact gx_iret C hr g dX9_numberOf_33 h
    · have h := h.2 c1
      refine lv_bipush (v := 10) C.1 C.2.1 dX9_numberOf_11 (by decide) ?_
      refine lv_iload_n C.1 C.2.1 dX9_numberOf_13 rfl (lv_at hl 2 rfl) ?_
      refine lv_imul C.1 C.2.1 dX9_numberOf_14 ?_
      refine lv_aload_n C.1 C.2.1 dX9_numberOf_15 rfl (lv_at hl 0 rfl) ?_
      refine lv_iload C.1 C.2.1 dX9_numberOf_16 (lv_at hl 3 rfl) ?_
      refine gx_calli0 g (gx_runV (k := 6) (rest := [.int ((10 : Int32) * x3)]) C g mb_X8_peek ml_X9_25 rfl sh_6 (mX8_peek x4 _ _ h) ⟨Nat.le_of_ble_eq_true rfl, Nat.le_of_ble_eq_true rfl⟩ ⟨Nat.le_refl _, Nat.le_refl _⟩ rfl hl.1 rfl (Nat.le_of_ble_eq_true rfl) dX9_numberOf_18) rfl rfl (fun r2 σ3 H locs h g => ?_)
      refine lv_iadd C.1 C.2.1 dX9_numberOf_21 ?_
      refine lv_bipush (v := 48) C.1 C.2.1 dX9_numberOf_22 (by decide) ?_
      refine lv_isub C.1 C.2.1 dX9_numberOf_24 ?_
      refine lv_topi (fun x3_4 ex3_4 => ?_)
      have h := h x3_4 ex3_4
      refine lv_istore_n (lv' := [(3, .int x3_4), (0, .ref (ga E 6)), (2, .int x2), (4, .int x4)]) C.1 C.2.1 dX9_numberOf_25 rfl hl (by decide) rfl (fun ls hl => ?_)
      obtain ⟨x4_5, ex4_5⟩ : ∃ y : Int32, y = x4 + 1 := ⟨_, rfl⟩
      have h := h x4_5 ex4_5
      refine lv_iinc (v := x4_5) (lv' := [(4, .int x4_5), (3, .int x3_4), (0, .ref (ga E 6)), (2, .int x2)]) C.1 C.2.1 dX9_numberOf_26 hl (k := 3) rfl (by rw [ex4_5]; rfl) (by decide) rfl (fun ls hl => ?_)
      refine lv_goto (tgt := 5) C.1 C.2.1 dX9_numberOf_29 (by decide) ?_
      exact ih x2 x3_4 x4_5 _ _ _ _ (lv_sub hl [2, 3, 1, 0] rfl) g h
set_option maxHeartbeats 4000000 in
set_option maxRecDepth 100000 in
theorem tX9_numberOf_e {p : Program} {l : Launch} {e : Env} {s : State} {m : MethodId} {args : Array Value} {below : List Frame} {meth : Method} {c : Code} {E : EE} {base : Nat} (C : Cx p E base s m args meth c cX9_numberOf 5 RX9) (hr : meth.sig.returnType = (some .int)) {Q : Int32 → St → Prop} : ∀ (x1 : Int32) (x2 : Int32) (σ : St) (H : Heap) (locs : List Loc) (ls : Array Slot), lv_has ls 5 [(0, .ref (ga E 6)), (1, .int x1), (2, .int x2)] → GW E base s σ H locs → wX9_numberOf x1 x2 σ Q → W p l e rmX9_numberOf s m args below meth c H locs 0 0 (MQ below (QI E base Q) args s 0 0 (fun q => base ≤ q)) (F0 m 0 ls []) := by
  intro x1 x2 σ H locs ls hl g h
  refine lv_iconst (v := 0) C.1 C.2.1 dX9_numberOf_0 (by decide) ?_
  refine lv_istore_n (lv' := [(3, .int (0 : Int32)), (0, .ref (ga E 6)), (1, .int x1), (2, .int x2)]) C.1 C.2.1 dX9_numberOf_1 rfl hl (by decide) rfl (fun ls hl => ?_)
  refine lv_iload_n C.1 C.2.1 dX9_numberOf_2 rfl (lv_at hl 2 rfl) ?_
  refine lv_istore (lv' := [(4, .int x1), (3, .int (0 : Int32)), (0, .ref (ga E 6)), (1, .int x1), (2, .int x2)]) C.1 C.2.1 dX9_numberOf_3 hl (by decide) rfl (fun ls hl => ?_)
  obtain ⟨j, h⟩ := h
  exact tX9_numberOf_5 C hr j x2 (0 : Int32) x1 _ _ _ _ (lv_sub hl [2, 4, 1, 0] rfl) g h
theorem mX9_numberOf {l : Launch} {E : EE} {base : Nat} (x1 : Int32) (x2 : Int32) (σ : St) (Q : Int32 → St → Prop) (h : wX9_numberOf x1 x2 σ Q) : Met l yX9_numberOf (wy yX9_numberOf cX9_numberOf 5 (some .int)) rmX9_numberOf (va_Pc [.ref (ga E 6), .int x1, .int x2] (fun U => SW E base σ U)) (QI E base Q) (rmX9_numberOf).cells (rmX9_numberOf).slots (fun q => base ≤ q) :=
  met_of (by decide) (Nat.le_of_ble_eq_true rfl) (fun p e s m args below meth c C hr g ls hl => tX9_numberOf_e C hr x1 x2 _ _ _ _ hl g h)
abbrev rmX9_scan : Room := { frames := 6, cells := 0, slots := 0, locals := 134 }
def wX9_scan_110 (Q : St → Prop) (K4 : Int32 → Int32 → St → Prop) (x3 : Int32) (x4 : Int32) (xt1 : Int32) (xt2 : Int32) (σ : St) : Prop := vp_in xt1 601 ∧ ∀ σ2 : St, σ2 = pv σ 204 xt1.toNatClampNeg xt2 → ∀ x3_3 : Int32, x3_3 = x3 + 1 → K4 x4 x3_3 σ2
def wX9_scan_37 (Q : St → Prop) (K4 : Int32 → Int32 → St → Prop) (x2 : Int32) (x3 : Int32) (σ : St) : Prop := wX9_endOf x2 σ (fun (r1 : Int32) (σ2 : St) => vp_in x3 601 ∧ ∀ σ4 : St, σ4 = pv σ2 26 x3.toNatClampNeg x2 → wX9_kindOf x2 r1 σ4 (fun (r5 : Int32) (σ6 : St) => vp_in x3 601 ∧ ∀ σ8 : St, σ8 = pv σ6 25 x3.toNatClampNeg r5 → vp_in x3 601 ∧ (((gv σ8 25 x3.toNatClampNeg) = 0 → Q σ8) ∧ (¬ ((gv σ8 25 x3.toNatClampNeg) = 0) → vp_in x3 601 ∧ (((gv σ8 25 x3.toNatClampNeg) = (1 : Int32) → Q σ8) ∧ (¬ ((gv σ8 25 x3.toNatClampNeg) = (1 : Int32)) → vp_in x3 601 ∧ (((gv σ8 25 x3.toNatClampNeg) = (2 : Int32) → wX9_numberOf x2 r1 σ8 (fun (r15 : Int32) (σ16 : St) => wX9_scan_110 Q K4 x3 r1 x3 r15 σ16)) ∧ (¬ ((gv σ8 25 x3.toNatClampNeg) = (2 : Int32)) → wX9_scan_110 Q K4 x3 r1 x3 (0 : Int32) σ8))))))))
def wX9_scan_11 (Q : St → Prop) (K4 : Int32 → Int32 → St → Prop) : Nat → Int32 → Int32 → St → Prop
  | 0, _, _, _ => False
  | n + 1, x2, x3, σ => (((gv σ 6 0) ≤ x2 → wX9_scan_37 Q K4 x2 x3 σ) ∧ (¬ ((gv σ 6 0) ≤ x2) → wX8_peek x2 σ (fun (r2 : Int32) (σ3 : St) => wX9_sortOf r2 σ3 (fun (r4 : Int32) (σ5 : St) => ((r4 = (3 : Int32) → ∀ x2_7 : Int32, x2_7 = x2 + 1 → wX9_scan_11 Q K4 n x2_7 x3 σ5) ∧ (¬ (r4 = (3 : Int32)) → wX9_scan_37 Q K4 x2 x3 σ5))))))
def wX9_scan_4 (Q : St → Prop) : Nat → Int32 → Int32 → St → Prop
  | 0, _, _, _ => False
  | n + 1, x2, x3, σ => (((600 : Int32) < x3 → Q σ) ∧ (¬ ((600 : Int32) < x3) → ∃ j : Nat, wX9_scan_11 Q (fun x2' x3' σ' => wX9_scan_4 Q n x2' x3' σ') j x2 x3 σ))
def wX9_scan (σ : St) (Q : St → Prop) : Prop := ∃ j : Nat, wX9_scan_4 Q j (0 : Int32) (0 : Int32) σ
set_option maxHeartbeats 4000000 in
set_option maxRecDepth 100000 in
theorem tX9_scan_110 {p : Program} {l : Launch} {e : Env} {s : State} {m : MethodId} {args : Array Value} {below : List Frame} {meth : Method} {c : Code} {E : EE} {base : Nat} (C : Cx p E base s m args meth c cX9_scan 5 RX9) (hr : meth.sig.returnType = none) {Q : St → Prop} {K4 : Int32 → Int32 → St → Prop} (hK4 : ∀ (x2 : Int32) (x3 : Int32) (σ : St) (H : Heap) (locs : List Loc) (ls : Array Slot), lv_has ls 5 [(0, .ref (ga E 7)), (1, .ref (ga E 6)), (2, .int x2), (3, .int x3)] → GW E base s σ H locs → K4 x2 x3 σ → W p l e rmX9_scan s m args below meth c H locs 0 0 (MQ below (QV E base Q) args s 0 0 (fun q => base ≤ q)) (F0 m 4 ls [])) : ∀ (x3 : Int32) (x4 : Int32) (xt1 : Int32) (xt2 : Int32) (σ : St) (H : Heap) (locs : List Loc) (ls : Array Slot), lv_has ls 5 [(0, .ref (ga E 7)), (1, .ref (ga E 6)), (3, .int x3), (4, .int x4)] → GW E base s σ H locs → wX9_scan_110 Q K4 x3 x4 xt1 xt2 σ → W p l e rmX9_scan s m args below meth c H locs 0 0 (MQ below (QV E base Q) args s 0 0 (fun q => base ≤ q)) (F0 m 110 ls [.int xt2, .int xt1, .ref (ga E 204)]) := by
  intro x3 x4 xt1 xt2 σ H locs ls hl g h
  obtain ⟨i1, h⟩ := h
  refine gx_iast C g dX9_scan_110 sh_204 i1 (fun H locs σ2 eσ2 g => ?_)
  have h := h σ2 eσ2
  refine lv_iload C.1 C.2.1 dX9_scan_111 (lv_at hl 3 rfl) ?_
  refine lv_istore_n (lv' := [(2, .int x4), (0, .ref (ga E 7)), (1, .ref (ga E 6)), (3, .int x3), (4, .int x4)]) C.1 C.2.1 dX9_scan_113 rfl hl (by decide) rfl (fun ls hl => ?_)
  obtain ⟨x3_3, ex3_3⟩ : ∃ y : Int32, y = x3 + 1 := ⟨_, rfl⟩
  have h := h x3_3 ex3_3
  refine lv_iinc (v := x3_3) (lv' := [(3, .int x3_3), (2, .int x4), (0, .ref (ga E 7)), (1, .ref (ga E 6)), (4, .int x4)]) C.1 C.2.1 dX9_scan_114 hl (k := 3) rfl (by rw [ex3_3]; rfl) (by decide) rfl (fun ls hl => ?_)
  refine lv_goto (tgt := 4) C.1 C.2.1 dX9_scan_117 (by decide) ?_
  exact hK4 x4 x3_3 _ _ _ _ (lv_sub hl [2, 3, 1, 0] rfl) g h
set_option maxHeartbeats 4000000 in
set_option maxRecDepth 100000 in
theorem tX9_scan_37 {p : Program} {l : Launch} {e : Env} {s : State} {m : MethodId} {args : Array Value} {below : List Frame} {meth : Method} {c : Code} {E : EE} {base : Nat} (C : Cx p E base s m args meth c cX9_scan 5 RX9) (hr : meth.sig.returnType = none) {Q : St → Prop} {K4 : Int32 → Int32 → St → Prop} (hK4 : ∀ (x2 : Int32) (x3 : Int32) (σ : St) (H : Heap) (locs : List Loc) (ls : Array Slot), lv_has ls 5 [(0, .ref (ga E 7)), (1, .ref (ga E 6)), (2, .int x2), (3, .int x3)] → GW E base s σ H locs → K4 x2 x3 σ → W p l e rmX9_scan s m args below meth c H locs 0 0 (MQ below (QV E base Q) args s 0 0 (fun q => base ≤ q)) (F0 m 4 ls [])) : ∀ (x2 : Int32) (x3 : Int32) (σ : St) (H : Heap) (locs : List Loc) (ls : Array Slot), lv_has ls 5 [(0, .ref (ga E 7)), (1, .ref (ga E 6)), (2, .int x2), (3, .int x3)] → GW E base s σ H locs → wX9_scan_37 Q K4 x2 x3 σ → W p l e rmX9_scan s m args below meth c H locs 0 0 (MQ below (QV E base Q) args s 0 0 (fun q => base ≤ q)) (F0 m 37 ls []) := by
  intro x2 x3 σ H locs ls hl g h
  refine lv_aload_n C.1 C.2.1 dX9_scan_37 rfl (lv_at hl 1 rfl) ?_
  refine lv_iload_n C.1 C.2.1 dX9_scan_38 rfl (lv_at hl 2 rfl) ?_
  refine gx_calli0 g (gx_runS (rest := []) C g ms_X9_endOf ml_X9_32 (mX9_endOf x2 _ _ h) ⟨Nat.le_of_ble_eq_true rfl, Nat.le_of_ble_eq_true rfl⟩ ⟨Nat.le_refl _, Nat.le_refl _⟩ rfl hl.1 rfl (Nat.le_of_ble_eq_true rfl) dX9_scan_39) rfl rfl (fun r1 σ2 H locs h g => ?_)
  refine lv_istore (lv' := [(4, .int r1), (0, .ref (ga E 7)), (1, .ref (ga E 6)), (2, .int x2), (3, .int x3)]) C.1 C.2.1 dX9_scan_42 hl (by decide) rfl (fun ls hl => ?_)
  refine lv_aload_n C.1 C.2.1 dX9_scan_44 rfl (lv_at hl 1 rfl) ?_
  refine gx_getR C g fl_X9_13 dX9_scan_45 sh_7 rfl (by decide) ?_
  refine lv_iload_n C.1 C.2.1 dX9_scan_48 rfl (lv_at hl 4 rfl) ?_
  refine lv_iload_n C.1 C.2.1 dX9_scan_49 rfl (lv_at hl 3 rfl) ?_
  obtain ⟨i3, h⟩ := h
  refine gx_iast C g dX9_scan_50 sh_26 i3 (fun H locs σ4 eσ4 g => ?_)
  have h := h σ4 eσ4
  refine lv_aload_n C.1 C.2.1 dX9_scan_51 rfl (lv_at hl 1 rfl) ?_
  refine gx_getR C g fl_X9_9 dX9_scan_52 sh_7 rfl (by decide) ?_
  refine lv_iload_n C.1 C.2.1 dX9_scan_55 rfl (lv_at hl 4 rfl) ?_
  refine lv_aload_n C.1 C.2.1 dX9_scan_56 rfl (lv_at hl 2 rfl) ?_
  refine lv_iload_n C.1 C.2.1 dX9_scan_57 rfl (lv_at hl 3 rfl) ?_
  refine lv_iload C.1 C.2.1 dX9_scan_58 (lv_at hl 0 rfl) ?_
  refine gx_calli0 g (gx_runS (rest := [.int x3, .ref (ga E 25)]) C g ms_X9_kindOf ml_X9_36 (mX9_kindOf x2 r1 _ _ h) ⟨Nat.le_of_ble_eq_true rfl, Nat.le_of_ble_eq_true rfl⟩ ⟨Nat.le_refl _, Nat.le_refl _⟩ rfl hl.1 rfl (Nat.le_of_ble_eq_true rfl) dX9_scan_60) rfl rfl (fun r5 σ6 H locs h g => ?_)
  obtain ⟨i7, h⟩ := h
  refine gx_iast C g dX9_scan_63 sh_25 i7 (fun H locs σ8 eσ8 g => ?_)
  have h := h σ8 eσ8
  refine lv_aload_n C.1 C.2.1 dX9_scan_64 rfl (lv_at hl 1 rfl) ?_
  refine gx_getR C g fl_X9_9 dX9_scan_65 sh_7 rfl (by decide) ?_
  refine lv_iload_n C.1 C.2.1 dX9_scan_68 rfl (lv_at hl 4 rfl) ?_
  obtain ⟨i9, h⟩ := h
  refine gx_iald C g dX9_scan_69 sh_25 i9 ?_
  refine lv_if_eq (tgt := 83) C.1 C.2.1 dX9_scan_70 (by decide) (fun c10 => ?_) (fun c10 => ?_)
  · have h := h.1 c10
    exact gx_vret C hr g dX9_scan_83 h
  · have h := h.2 c10
    refine lv_aload_n C.1 C.2.1 dX9_scan_73 rfl (lv_at hl 1 rfl) ?_
    refine gx_getR C g fl_X9_9 dX9_scan_74 sh_7 rfl (by decide) ?_
    refine lv_iload_n C.1 C.2.1 dX9_scan_77 rfl (lv_at hl 4 rfl) ?_
    obtain ⟨i11, h⟩ := h
    refine gx_iald C g dX9_scan_78 sh_25 i11 ?_
    refine lv_iconst (v := 1) C.1 C.2.1 dX9_scan_79 (by decide) ?_
    refine lv_icmp_ne (tgt := 84) C.1 C.2.1 dX9_scan_80 (by decide) (fun c12 => ?_) (fun c12 => ?_)
    · have h := h.2 c12
      refine lv_aload_n C.1 C.2.1 dX9_scan_84 rfl (lv_at hl 1 rfl) ?_
      refine gx_getR C g fl_X9_16 dX9_scan_85 sh_7 rfl (by decide) ?_
      refine lv_iload_n C.1 C.2.1 dX9_scan_88 rfl (lv_at hl 4 rfl) ?_
      refine lv_aload_n C.1 C.2.1 dX9_scan_89 rfl (lv_at hl 1 rfl) ?_
      refine gx_getR C g fl_X9_9 dX9_scan_90 sh_7 rfl (by decide) ?_
      refine lv_iload_n C.1 C.2.1 dX9_scan_93 rfl (lv_at hl 4 rfl) ?_
      obtain ⟨i13, h⟩ := h
      refine gx_iald C g dX9_scan_94 sh_25 i13 ?_
      refine lv_iconst (v := 2) C.1 C.2.1 dX9_scan_95 (by decide) ?_
      refine lv_icmp_ne (tgt := 109) C.1 C.2.1 dX9_scan_96 (by decide) (fun c14 => ?_) (fun c14 => ?_)
      · have h := h.2 c14
        refine lv_iconst (v := 0) C.1 C.2.1 dX9_scan_109 (by decide) ?_
        exact tX9_scan_110 C hr hK4 x3 r1 x3 (0 : Int32) _ _ _ _ (lv_sub hl [1, 2, 4, 0] rfl) g h
      · have h := h.1 c14
        refine lv_aload_n C.1 C.2.1 dX9_scan_99 rfl (lv_at hl 2 rfl) ?_
        refine lv_iload_n C.1 C.2.1 dX9_scan_100 rfl (lv_at hl 3 rfl) ?_
        refine lv_iload C.1 C.2.1 dX9_scan_101 (lv_at hl 0 rfl) ?_
        refine gx_calli0 g (gx_runS (rest := [.int x3, .ref (ga E 204)]) C g ms_X9_numberOf ml_X9_40 (mX9_numberOf x2 r1 _ _ h) ⟨Nat.le_of_ble_eq_true rfl, Nat.le_of_ble_eq_true rfl⟩ ⟨Nat.le_refl _, Nat.le_refl _⟩ rfl hl.1 rfl (Nat.le_of_ble_eq_true rfl) dX9_scan_103) rfl rfl (fun r15 σ16 H locs h g => ?_)
        refine lv_goto (tgt := 110) C.1 C.2.1 dX9_scan_106 (by decide) ?_
        exact tX9_scan_110 C hr hK4 x3 r1 x3 r15 _ _ _ _ (lv_sub hl [1, 2, 4, 0] rfl) g h
    · have h := h.1 c12
      exact gx_vret C hr g dX9_scan_83 h
set_option maxHeartbeats 4000000 in
set_option maxRecDepth 100000 in
theorem tX9_scan_11 {p : Program} {l : Launch} {e : Env} {s : State} {m : MethodId} {args : Array Value} {below : List Frame} {meth : Method} {c : Code} {E : EE} {base : Nat} (C : Cx p E base s m args meth c cX9_scan 5 RX9) (hr : meth.sig.returnType = none) {Q : St → Prop} {K4 : Int32 → Int32 → St → Prop} (hK4 : ∀ (x2 : Int32) (x3 : Int32) (σ : St) (H : Heap) (locs : List Loc) (ls : Array Slot), lv_has ls 5 [(0, .ref (ga E 7)), (1, .ref (ga E 6)), (2, .int x2), (3, .int x3)] → GW E base s σ H locs → K4 x2 x3 σ → W p l e rmX9_scan s m args below meth c H locs 0 0 (MQ below (QV E base Q) args s 0 0 (fun q => base ≤ q)) (F0 m 4 ls [])) : ∀ (n : Nat) (x2 : Int32) (x3 : Int32) (σ : St) (H : Heap) (locs : List Loc) (ls : Array Slot), lv_has ls 5 [(0, .ref (ga E 7)), (1, .ref (ga E 6)), (2, .int x2), (3, .int x3)] → GW E base s σ H locs → wX9_scan_11 Q K4 n x2 x3 σ → W p l e rmX9_scan s m args below meth c H locs 0 0 (MQ below (QV E base Q) args s 0 0 (fun q => base ≤ q)) (F0 m 11 ls []) := by
  intro n
  induction n with
  | zero => intro _ _; intros; exact False.elim (by assumption)
  | succ n ih =>
    intro x2 x3 σ H locs ls hl g h
    refine lv_iload_n C.1 C.2.1 dX9_scan_11 rfl (lv_at hl 2 rfl) ?_
    refine lv_aload_n C.1 C.2.1 dX9_scan_12 rfl (lv_at hl 1 rfl) ?_
    refine gx_getI C g fl_X9_19 dX9_scan_13 sh_6 rfl ?_
    refine lv_icmp_ge (tgt := 37) C.1 C.2.1 dX9_scan_16 (by decide) (fun c1 => ?_) (fun c1 => ?_)
    · have h := h.1 c1
      exact tX9_scan_37 C hr hK4 x2 x3 _ _ _ _ (lv_sub hl [0, 1, 2, 3] rfl) g h
    · have h := h.2 c1
      refine lv_aload_n C.1 C.2.1 dX9_scan_19 rfl (lv_at hl 1 rfl) ?_
      refine lv_iload_n C.1 C.2.1 dX9_scan_20 rfl (lv_at hl 2 rfl) ?_
      refine gx_calli0 g (gx_runV (k := 6) (rest := []) C g mb_X8_peek ml_X9_25 rfl sh_6 (mX8_peek x2 _ _ h) ⟨Nat.le_of_ble_eq_true rfl, Nat.le_of_ble_eq_true rfl⟩ ⟨Nat.le_refl _, Nat.le_refl _⟩ rfl hl.1 rfl (Nat.le_of_ble_eq_true rfl) dX9_scan_21) rfl rfl (fun r2 σ3 H locs h g => ?_)
      refine gx_calli0 g (gx_runS (rest := []) C g ms_X9_sortOf ml_X9_29 (mX9_sortOf r2 _ _ h) ⟨Nat.le_of_ble_eq_true rfl, Nat.le_of_ble_eq_true rfl⟩ ⟨Nat.le_refl _, Nat.le_refl _⟩ rfl hl.1 rfl (Nat.le_of_ble_eq_true rfl) dX9_scan_24) rfl rfl (fun r4 σ5 H locs h g => ?_)
      refine lv_iconst (v := 3) C.1 C.2.1 dX9_scan_27 (by decide) ?_
      refine lv_icmp_ne (tgt := 37) C.1 C.2.1 dX9_scan_28 (by decide) (fun c6 => ?_) (fun c6 => ?_)
      · have h := h.2 c6
        exact tX9_scan_37 C hr hK4 x2 x3 _ _ _ _ (lv_sub hl [0, 1, 2, 3] rfl) g h
      · have h := h.1 c6
        obtain ⟨x2_7, ex2_7⟩ : ∃ y : Int32, y = x2 + 1 := ⟨_, rfl⟩
        have h := h x2_7 ex2_7
        refine lv_iinc (v := x2_7) (lv' := [(2, .int x2_7), (0, .ref (ga E 7)), (1, .ref (ga E 6)), (3, .int x3)]) C.1 C.2.1 dX9_scan_31 hl (k := 2) rfl (by rw [ex2_7]; rfl) (by decide) rfl (fun ls hl => ?_)
        refine lv_goto (tgt := 11) C.1 C.2.1 dX9_scan_34 (by decide) ?_
        exact ih x2_7 x3 _ _ _ _ (lv_sub hl [1, 2, 0, 3] rfl) g h
set_option maxHeartbeats 4000000 in
set_option maxRecDepth 100000 in
theorem tX9_scan_4 {p : Program} {l : Launch} {e : Env} {s : State} {m : MethodId} {args : Array Value} {below : List Frame} {meth : Method} {c : Code} {E : EE} {base : Nat} (C : Cx p E base s m args meth c cX9_scan 5 RX9) (hr : meth.sig.returnType = none) {Q : St → Prop} : ∀ (n : Nat) (x2 : Int32) (x3 : Int32) (σ : St) (H : Heap) (locs : List Loc) (ls : Array Slot), lv_has ls 5 [(0, .ref (ga E 7)), (1, .ref (ga E 6)), (2, .int x2), (3, .int x3)] → GW E base s σ H locs → wX9_scan_4 Q n x2 x3 σ → W p l e rmX9_scan s m args below meth c H locs 0 0 (MQ below (QV E base Q) args s 0 0 (fun q => base ≤ q)) (F0 m 4 ls []) := by
  intro n
  induction n with
  | zero => intro _ _; intros; exact False.elim (by assumption)
  | succ n ih =>
    intro x2 x3 σ H locs ls hl g h
    refine lv_iload_n C.1 C.2.1 dX9_scan_4 rfl (lv_at hl 3 rfl) ?_
    refine lv_sipush (v := 600) C.1 C.2.1 dX9_scan_5 (by decide) ?_
    refine lv_icmp_gt (tgt := 120) C.1 C.2.1 dX9_scan_8 (by decide) (fun c1 => ?_) (fun c1 => ?_)
    · have h := h.1 c1
      exact gx_vret C hr g dX9_scan_120 h
    · have h := h.2 c1
      obtain ⟨j, h⟩ := h
      exact tX9_scan_11 C hr ih j x2 x3 _ _ _ _ (lv_sub hl [0, 1, 2, 3] rfl) g h
set_option maxHeartbeats 4000000 in
set_option maxRecDepth 100000 in
theorem tX9_scan_e {p : Program} {l : Launch} {e : Env} {s : State} {m : MethodId} {args : Array Value} {below : List Frame} {meth : Method} {c : Code} {E : EE} {base : Nat} (C : Cx p E base s m args meth c cX9_scan 5 RX9) (hr : meth.sig.returnType = none) {Q : St → Prop} : ∀ (σ : St) (H : Heap) (locs : List Loc) (ls : Array Slot), lv_has ls 5 [(0, .ref (ga E 7)), (1, .ref (ga E 6))] → GW E base s σ H locs → wX9_scan σ Q → W p l e rmX9_scan s m args below meth c H locs 0 0 (MQ below (QV E base Q) args s 0 0 (fun q => base ≤ q)) (F0 m 0 ls []) := by
  intro σ H locs ls hl g h
  refine lv_iconst (v := 0) C.1 C.2.1 dX9_scan_0 (by decide) ?_
  refine lv_istore_n (lv' := [(2, .int (0 : Int32)), (0, .ref (ga E 7)), (1, .ref (ga E 6))]) C.1 C.2.1 dX9_scan_1 rfl hl (by decide) rfl (fun ls hl => ?_)
  refine lv_iconst (v := 0) C.1 C.2.1 dX9_scan_2 (by decide) ?_
  refine lv_istore_n (lv' := [(3, .int (0 : Int32)), (2, .int (0 : Int32)), (0, .ref (ga E 7)), (1, .ref (ga E 6))]) C.1 C.2.1 dX9_scan_3 rfl hl (by decide) rfl (fun ls hl => ?_)
  obtain ⟨j, h⟩ := h
  exact tX9_scan_4 C hr j (0 : Int32) (0 : Int32) _ _ _ _ (lv_sub hl [2, 3, 1, 0] rfl) g h
theorem mX9_scan {l : Launch} {E : EE} {base : Nat} (σ : St) (Q : St → Prop) (h : wX9_scan σ Q) : Met l yX9_scan (wy yX9_scan cX9_scan 5 none) rmX9_scan (va_Pc [.ref (ga E 7), .ref (ga E 6)] (fun U => SW E base σ U)) (QV E base Q) (rmX9_scan).cells (rmX9_scan).slots (fun q => base ≤ q) :=
  met_of (by decide) (Nat.le_of_ble_eq_true rfl) (fun p e s m args below meth c C hr g ls hl => tX9_scan_e C hr  _ _ _ _ hl g h)
abbrev rmX9_name : Room := { frames := 1, cells := 0, slots := 0, locals := 21 }
def wX9_name_13 (Q : Int64 → St → Prop) : Nat → Int64 → Int32 → Int32 → St → Prop
  | 0, _, _, _, _ => False
  | n + 1, y3, x5, x6, σ => (((8 : Int32) ≤ x6 → Q y3 σ) ∧ (¬ ((8 : Int32) ≤ x6) → wX8_peek (x5 + x6) σ (fun (r2 : Int32) (σ3 : St) => wX9_sortOf r2 σ3 (fun (r4 : Int32) (σ5 : St) => ((r4 = (1 : Int32) → wX8_peek (x5 + x6) σ5 (fun (r7 : Int32) (σ8 : St) => ∀ y3_9 : Int64, y3_9 = ((((32 : Int64) * y3) + (r7.toInt64)) - (97 : Int64)) + (1 : Int64) → ∀ x6_10 : Int32, x6_10 = x6 + 1 → wX9_name_13 Q n y3_9 x5 x6_10 σ8)) ∧ (¬ (r4 = (1 : Int32)) → Q y3 σ5))))))
def wX9_name (x2 : Int32) (σ : St) (Q : Int64 → St → Prop) : Prop := vp_in x2 601 ∧ ∀ x5_2 : Int32, x5_2 = gv σ 26 x2.toNatClampNeg → ∃ j : Nat, wX9_name_13 Q j (0 : Int64) x5_2 (0 : Int32) σ
set_option maxHeartbeats 4000000 in
set_option maxRecDepth 100000 in
theorem tX9_name_13 {p : Program} {l : Launch} {e : Env} {s : State} {m : MethodId} {args : Array Value} {below : List Frame} {meth : Method} {c : Code} {E : EE} {base : Nat} (C : Cx p E base s m args meth c cX9_name 7 RX9) (hr : meth.sig.returnType = (some .long)) {Q : Int64 → St → Prop} : ∀ (n : Nat) (y3 : Int64) (x5 : Int32) (x6 : Int32) (σ : St) (H : Heap) (locs : List Loc) (ls : Array Slot), lv_has ls 7 [(1, .ref (ga E 6)), (3, .long y3), (5, .int x5), (6, .int x6)] → GW E base s σ H locs → wX9_name_13 Q n y3 x5 x6 σ → W p l e rmX9_name s m args below meth c H locs 0 0 (MQ below (QL E base Q) args s 0 0 (fun q => base ≤ q)) (F0 m 13 ls []) := by
  intro n
  induction n with
  | zero => intro _ _ _; intros; exact False.elim (by assumption)
  | succ n ih =>
    intro y3 x5 x6 σ H locs ls hl g h
    refine lv_iload C.1 C.2.1 dX9_name_13 (lv_at hl 3 rfl) ?_
    refine lv_bipush (v := 8) C.1 C.2.1 dX9_name_15 (by decide) ?_
    refine lv_icmp_ge (tgt := 65) C.1 C.2.1 dX9_name_17 (by decide) (fun c1 => ?_) (fun c1 => ?_)
    · have h := h.1 c1
      refine lv_lload_n C.1 C.2.1 dX9_name_65 rfl (lv_at hl 1 rfl) ?_
      exact gx_lret C hr g dX9_name_66 h
    · have h := h.2 c1
      refine lv_aload_n C.1 C.2.1 dX9_name_20 rfl (lv_at hl 0 rfl) ?_
      refine lv_iload C.1 C.2.1 dX9_name_21 (lv_at hl 2 rfl) ?_
      refine lv_iload C.1 C.2.1 dX9_name_23 (lv_at hl 3 rfl) ?_
      refine lv_iadd C.1 C.2.1 dX9_name_25 ?_
      refine gx_calli0 g (gx_runV (k := 6) (rest := []) C g mb_X8_peek ml_X9_25 rfl sh_6 (mX8_peek (x5 + x6) _ _ h) ⟨Nat.le_of_ble_eq_true rfl, Nat.le_of_ble_eq_true rfl⟩ ⟨Nat.le_refl _, Nat.le_refl _⟩ rfl hl.1 rfl (Nat.le_of_ble_eq_true rfl) dX9_name_26) rfl rfl (fun r2 σ3 H locs h g => ?_)
      refine gx_calli0 g (gx_runS (rest := []) C g ms_X9_sortOf ml_X9_29 (mX9_sortOf r2 _ _ h) ⟨Nat.le_of_ble_eq_true rfl, Nat.le_of_ble_eq_true rfl⟩ ⟨Nat.le_refl _, Nat.le_refl _⟩ rfl hl.1 rfl (Nat.le_of_ble_eq_true rfl) dX9_name_29) rfl rfl (fun r4 σ5 H locs h g => ?_)
      refine lv_iconst (v := 1) C.1 C.2.1 dX9_name_32 (by decide) ?_
      refine lv_icmp_ne (tgt := 65) C.1 C.2.1 dX9_name_33 (by decide) (fun c6 => ?_) (fun c6 => ?_)
      · have h := h.2 c6
        refine lv_lload_n C.1 C.2.1 dX9_name_65 rfl (lv_at hl 1 rfl) ?_
        exact gx_lret C hr g dX9_name_66 h
      · have h := h.1 c6
        refine gx_ldc2 C ck_X9_43 dX9_name_36 ?_
        refine lv_lload_n C.1 C.2.1 dX9_name_39 rfl (lv_at hl 1 rfl) ?_
        refine lv_lmul C.1 C.2.1 dX9_name_40 ?_
        refine lv_aload_n C.1 C.2.1 dX9_name_41 rfl (lv_at hl 0 rfl) ?_
        refine lv_iload C.1 C.2.1 dX9_name_42 (lv_at hl 2 rfl) ?_
        refine lv_iload C.1 C.2.1 dX9_name_44 (lv_at hl 3 rfl) ?_
        refine lv_iadd C.1 C.2.1 dX9_name_46 ?_
        refine gx_calli0 g (gx_runV (k := 6) (rest := [.long ((32 : Int64) * y3)]) C g mb_X8_peek ml_X9_25 rfl sh_6 (mX8_peek (x5 + x6) _ _ h) ⟨Nat.le_of_ble_eq_true rfl, Nat.le_of_ble_eq_true rfl⟩ ⟨Nat.le_refl _, Nat.le_refl _⟩ rfl hl.1 rfl (Nat.le_of_ble_eq_true rfl) dX9_name_47) rfl rfl (fun r7 σ8 H locs h g => ?_)
        refine lv_i2l C.1 C.2.1 dX9_name_50 rfl ?_
        refine lv_ladd C.1 C.2.1 dX9_name_51 ?_
        refine gx_ldc2 C ck_X9_45 dX9_name_52 ?_
        refine lv_lsub C.1 C.2.1 dX9_name_55 ?_
        refine lv_lconst (v := 1) C.1 C.2.1 dX9_name_56 (by decide) ?_
        refine lv_ladd C.1 C.2.1 dX9_name_57 ?_
        refine lv_topl (fun y3_9 ey3_9 => ?_)
        have h := h y3_9 ey3_9
        refine lv_lstore_n (lv' := [(3, .long y3_9), (1, .ref (ga E 6)), (5, .int x5), (6, .int x6)]) C.1 C.2.1 dX9_name_58 rfl hl (by decide) rfl (fun ls hl => ?_)
        obtain ⟨x6_10, ex6_10⟩ : ∃ y : Int32, y = x6 + 1 := ⟨_, rfl⟩
        have h := h x6_10 ex6_10
        refine lv_iinc (v := x6_10) (lv' := [(6, .int x6_10), (3, .long y3_9), (1, .ref (ga E 6)), (5, .int x5)]) C.1 C.2.1 dX9_name_59 hl (k := 3) rfl (by rw [ex6_10]; rfl) (by decide) rfl (fun ls hl => ?_)
        refine lv_goto (tgt := 13) C.1 C.2.1 dX9_name_62 (by decide) ?_
        exact ih y3_9 x5 x6_10 _ _ _ _ (lv_sub hl [2, 1, 3, 0] rfl) g h
set_option maxHeartbeats 4000000 in
set_option maxRecDepth 100000 in
theorem tX9_name_e {p : Program} {l : Launch} {e : Env} {s : State} {m : MethodId} {args : Array Value} {below : List Frame} {meth : Method} {c : Code} {E : EE} {base : Nat} (C : Cx p E base s m args meth c cX9_name 7 RX9) (hr : meth.sig.returnType = (some .long)) {Q : Int64 → St → Prop} : ∀ (x2 : Int32) (σ : St) (H : Heap) (locs : List Loc) (ls : Array Slot), lv_has ls 7 [(0, .ref (ga E 7)), (1, .ref (ga E 6)), (2, .int x2)] → GW E base s σ H locs → wX9_name x2 σ Q → W p l e rmX9_name s m args below meth c H locs 0 0 (MQ below (QL E base Q) args s 0 0 (fun q => base ≤ q)) (F0 m 0 ls []) := by
  intro x2 σ H locs ls hl g h
  refine lv_lconst (v := 0) C.1 C.2.1 dX9_name_0 (by decide) ?_
  refine lv_lstore_n (lv' := [(3, .long (0 : Int64)), (0, .ref (ga E 7)), (1, .ref (ga E 6)), (2, .int x2)]) C.1 C.2.1 dX9_name_1 rfl hl (by decide) rfl (fun ls hl => ?_)
  refine lv_aload_n C.1 C.2.1 dX9_name_2 rfl (lv_at hl 1 rfl) ?_
  refine gx_getR C g fl_X9_13 dX9_name_3 sh_7 rfl (by decide) ?_
  refine lv_iload_n C.1 C.2.1 dX9_name_6 rfl (lv_at hl 3 rfl) ?_
  obtain ⟨i1, h⟩ := h
  refine gx_iald C g dX9_name_7 sh_26 i1 ?_
  refine lv_topi (fun x5_2 ex5_2 => ?_)
  have h := h x5_2 ex5_2
  refine lv_istore (lv' := [(5, .int x5_2), (3, .long (0 : Int64)), (0, .ref (ga E 7)), (1, .ref (ga E 6)), (2, .int x2)]) C.1 C.2.1 dX9_name_8 hl (by decide) rfl (fun ls hl => ?_)
  refine lv_iconst (v := 0) C.1 C.2.1 dX9_name_10 (by decide) ?_
  refine lv_istore (lv' := [(6, .int (0 : Int32)), (5, .int x5_2), (3, .long (0 : Int64)), (0, .ref (ga E 7)), (1, .ref (ga E 6)), (2, .int x2)]) C.1 C.2.1 dX9_name_11 hl (by decide) rfl (fun ls hl => ?_)
  obtain ⟨j, h⟩ := h
  exact tX9_name_13 C hr j (0 : Int64) x5_2 (0 : Int32) _ _ _ _ (lv_sub hl [4, 2, 1, 0] rfl) g h
theorem mX9_name {l : Launch} {E : EE} {base : Nat} (x2 : Int32) (σ : St) (Q : Int64 → St → Prop) (h : wX9_name x2 σ Q) : Met l yX9_name (wy yX9_name cX9_name 7 (some .long)) rmX9_name (va_Pc [.ref (ga E 7), .ref (ga E 6), .int x2] (fun U => SW E base σ U)) (QL E base Q) (rmX9_name).cells (rmX9_name).slots (fun q => base ≤ q) :=
  met_of (by decide) (Nat.le_of_ble_eq_true rfl) (fun p e s m args below meth c C hr g ls hl => tX9_name_e C hr x2 _ _ _ _ hl g h)
