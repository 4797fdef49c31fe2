abbrev rmX10_begin : Room := { frames := 2, cells := 0, slots := 0, locals := 44 }
def wX10_begin (k1 : Nat) (x2 : Int32) (x3 : Int32) (σ : St) (Q : St → Prop) : Prop := wX6_know x2 σ (fun (σ2 : St) => wX7_clear k1 σ2 (fun (σ4 : St) => ∀ σ5 : St, σ5 = pv σ4 k1 4 x3 → Q σ5))
set_option maxHeartbeats 4000000 in
set_option maxRecDepth 100000 in
theorem tX10_begin_e {p : Program} {l : Launch} {e : Env} {s : State} {m : MethodId} {args : Array Value} {below : List Frame} {meth : Method} {c : Code} {E : EE} {base : Nat} (C : Cx p E base s m args meth c cX10_begin 4 RX10) (hr : meth.sig.returnType = none) {Q : St → Prop} {k1 : Nat} (hk1 : Stg k1) : ∀ (x2 : Int32) (x3 : Int32) (σ : St) (H : Heap) (locs : List Loc) (ls : Array Slot), lv_has ls 4 [(0, .ref (ga E 1)), (1, .ref (ga E k1)), (2, .int x2), (3, .int x3)] → GW E base s σ H locs → wX10_begin k1 x2 x3 σ Q → W p l e rmX10_begin s m args below meth c H locs 0 0 (MQ below (QV E base Q) args s 0 0 (fun q => base ≤ q)) (F0 m 0 ls []) := by
  intro x2 x3 σ H locs ls hl g h
  refine lv_aload_n C.1 C.2.1 dX10_begin_0 rfl (lv_at hl 0 rfl) ?_
  refine gx_getR C g fl_X10_21 dX10_begin_1 sh_1 rfl (by decide) ?_
  refine lv_iload_n C.1 C.2.1 dX10_begin_4 rfl (lv_at hl 2 rfl) ?_
  refine gx_callv0 g (gx_runV (k := 3) (rest := []) C g mb_X6_know ml_X10_39 rfl sh_3 (mX6_know x2 _ _ h) ⟨Nat.le_of_ble_eq_true rfl, Nat.le_of_ble_eq_true rfl⟩ ⟨Nat.le_refl _, Nat.le_refl _⟩ rfl hl.1 rfl (Nat.le_of_ble_eq_true rfl) dX10_begin_5) rfl rfl (fun σ2 H locs h g => ?_)
  refine lv_aload_n C.1 C.2.1 dX10_begin_8 rfl (lv_at hl 1 rfl) ?_
  refine gx_callv0 g (gx_runV (k := k1) (rest := []) C g mb_X7_clear ml_X10_43 rfl (stg_obj hk1) (mX7_clear k1 hk1 _ _ h) ⟨Nat.le_of_ble_eq_true rfl, Nat.le_of_ble_eq_true rfl⟩ ⟨Nat.le_refl _, Nat.le_refl _⟩ rfl hl.1 rfl (Nat.le_of_ble_eq_true rfl) dX10_begin_9) rfl rfl (fun σ4 H locs h g => ?_)
  refine lv_aload_n C.1 C.2.1 dX10_begin_12 rfl (lv_at hl 1 rfl) ?_
  refine lv_iload_n C.1 C.2.1 dX10_begin_13 rfl (lv_at hl 3 rfl) ?_
  refine gx_putI C g fi_X10_48 dX10_begin_14 (stg_obj hk1) rfl (fun H locs σ5 eσ5 g => ?_)
  have h := h σ5 eσ5
  exact gx_vret C hr g dX10_begin_17 h
theorem mX10_begin {l : Launch} {E : EE} {base : Nat} (k1 : Nat) (x2 : Int32) (x3 : Int32) (hk1 : Stg k1) (σ : St) (Q : St → Prop) (h : wX10_begin k1 x2 x3 σ Q) : Met l yX10_begin (wy yX10_begin cX10_begin 4 none) rmX10_begin (va_Pc [.ref (ga E 1), .ref (ga E k1), .int x2, .int x3] (fun U => SW E base σ U)) (QV E base Q) (rmX10_begin).cells (rmX10_begin).slots (fun q => base ≤ q) :=
  met_of (by decide) (Nat.le_of_ble_eq_true rfl) (fun p e s m args below meth c C hr g ls hl => tX10_begin_e C hr hk1 x2 x3 _ _ _ _ hl g h)
abbrev rmX10_enter : Room := { frames := 1, cells := 0, slots := 0, locals := 23 }
def wX10_enter_203 (k1 : Nat) (Q : St → Prop) (K104 : St → Prop) (σ : St) : Prop := ∀ σ1 : St, σ1 = pv σ k1 3 ((gv σ k1 3) + (1 : Int32)) → K104 σ1
def wX10_enter_176 (k1 : Nat) (Q : St → Prop) (K104 : St → Prop) (qt0 : Nat) (σ : St) : Prop := vp_in (gv σ k1 3) 200 ∧ vp_in (gv σ k1 3) 200 ∧ vp_in (gv σ 21 (gv σ k1 3).toNatClampNeg) 7 ∧ ∀ σ4 : St, σ4 = pv σ qt0 (gv σ 21 (gv σ k1 3).toNatClampNeg).toNatClampNeg (gv σ 23 (gv σ k1 3).toNatClampNeg) → wX10_enter_203 k1 Q K104 σ4
def wX10_enter_104 (k1 : Nat) (Q : St → Prop) : Nat → St → Prop
  | 0, _ => False
  | n + 1, σ => (((gv σ 4 4) ≤ (gv σ k1 3) → Q σ) ∧ (¬ ((gv σ 4 4) ≤ (gv σ k1 3)) → vp_in (gv σ k1 3) 200 ∧ (((gv σ k1 2) < (gv σ 20 (gv σ k1 3).toNatClampNeg) → Q σ) ∧ (¬ ((gv σ k1 2) < (gv σ 20 (gv σ k1 3).toNatClampNeg)) → (((gv σ k1 3) = (gv σ k1 4) → wX10_enter_203 k1 Q (fun σ' => wX10_enter_104 k1 Q n σ') σ) ∧ (¬ ((gv σ k1 3) = (gv σ k1 4)) → vp_in (gv σ k1 3) 200 ∧ (((gv σ 22 (gv σ k1 3).toNatClampNeg) = 0 → wX10_enter_176 k1 Q (fun σ' => wX10_enter_104 k1 Q n σ') (k1 + 5) σ) ∧ (¬ ((gv σ 22 (gv σ k1 3).toNatClampNeg) = 0) → wX10_enter_176 k1 Q (fun σ' => wX10_enter_104 k1 Q n σ') (k1 + 2) σ))))))))
def wX10_enter_96 (k1 : Nat) (Q : St → Prop) (K12 : Int32 → St → Prop) (x2 : Int32) (xt1 : Int32) (xt2 : Int32) (xt3 : Int32) (σ : St) : Prop := vp_in xt1 7 ∧ ∀ σ2 : St, σ2 = pv σ (k1 + 4) xt1.toNatClampNeg (xt2 + xt3) → ∀ x2_3 : Int32, x2_3 = x2 + 1 → K12 x2_3 σ2
def wX10_enter_12 (k1 : Nat) (Q : St → Prop) : Nat → Int32 → St → Prop
  | 0, _, _ => False
  | n + 1, x2, σ => (((gv σ 2 4) ≤ x2 → ∃ j : Nat, wX10_enter_104 k1 Q j σ) ∧ (¬ ((gv σ 2 4) ≤ x2) → vp_in x2 7 ∧ vp_in x2 7 ∧ vp_in x2 7 ∧ vp_in x2 7 ∧ ∀ σ6 : St, σ6 = pv σ (k1 + 3) x2.toNatClampNeg ((gv σ (k1 + 3) x2.toNatClampNeg) + ((gv σ (k1 + 4) x2.toNatClampNeg) - (gv σ (k1 + 12) x2.toNatClampNeg))) → wX6_fallen (gv σ6 k1 2) x2 σ6 (fun (r7 : Int32) (σ8 : St) => ((x2 = 0 → wX10_enter_96 k1 Q (fun x2' σ' => wX10_enter_12 k1 Q n x2' σ') x2 x2 r7 (gv σ8 2 5) σ8) ∧ (¬ (x2 = 0) → vp_in (x2 - (1 : Int32)) 7 ∧ wX10_enter_96 k1 Q (fun x2' σ' => wX10_enter_12 k1 Q n x2' σ') x2 x2 r7 (gv σ8 (k1 + 12) (x2 - (1 : Int32)).toNatClampNeg) σ8)))))
def wX10_enter (k1 : Nat) (σ : St) (Q : St → Prop) : Prop := ∀ σ1 : St, σ1 = pv σ k1 2 ((gv σ k1 2) + (1 : Int32)) → ∃ j : Nat, wX10_enter_12 k1 Q j (0 : Int32) σ1
set_option maxHeartbeats 4000000 in
set_option maxRecDepth 100000 in
theorem tX10_enter_203 {p : Program} {l : Launch} {e : Env} {s : State} {m : MethodId} {args : Array Value} {below : List Frame} {meth : Method} {c : Code} {E : EE} {base : Nat} (C : Cx p E base s m args meth c cX10_enter 3 RX10) (hr : meth.sig.returnType = none) {Q : St → Prop} {k1 : Nat} (hk1 : Stg k1) {K104 : St → Prop} (hK104 : ∀ (σ : St) (H : Heap) (locs : List Loc) (ls : Array Slot), lv_has ls 3 [(0, .ref (ga E 1)), (1, .ref (ga E k1))] → GW E base s σ H locs → K104 σ → W p l e rmX10_enter s m args below meth c H locs 0 0 (MQ below (QV E base Q) args s 0 0 (fun q => base ≤ q)) (F0 m 104 ls [])) : ∀ (σ : St) (H : Heap) (locs : List Loc) (ls : Array Slot), lv_has ls 3 [(0, .ref (ga E 1)), (1, .ref (ga E k1))] → GW E base s σ H locs → wX10_enter_203 k1 Q K104 σ → W p l e rmX10_enter s m args below meth c H locs 0 0 (MQ below (QV E base Q) args s 0 0 (fun q => base ≤ q)) (F0 m 203 ls []) := by
  intro σ H locs ls hl g h
  refine lv_aload_n C.1 C.2.1 dX10_enter_203 rfl (lv_at hl 1 rfl) ?_
  refine lv_dup C.1 C.2.1 dX10_enter_204 rfl ?_
  refine gx_getI C g fl_X10_79 dX10_enter_205 (stg_obj hk1) rfl ?_
  refine lv_iconst (v := 1) C.1 C.2.1 dX10_enter_208 (by decide) ?_
  refine lv_iadd C.1 C.2.1 dX10_enter_209 ?_
  refine gx_putI C g fi_X10_79 dX10_enter_210 (stg_obj hk1) rfl (fun H locs σ1 eσ1 g => ?_)
  have h := h σ1 eσ1
  refine lv_goto (tgt := 104) C.1 C.2.1 dX10_enter_213 (by decide) ?_
  exact hK104 _ _ _ _ (lv_sub hl [0, 1] rfl) g h
set_option maxHeartbeats 4000000 in
set_option maxRecDepth 100000 in
theorem tX10_enter_176 {p : Program} {l : Launch} {e : Env} {s : State} {m : MethodId} {args : Array Value} {below : List Frame} {meth : Method} {c : Code} {E : EE} {base : Nat} (C : Cx p E base s m args meth c cX10_enter 3 RX10) (hr : meth.sig.returnType = none) {Q : St → Prop} {k1 : Nat} (hk1 : Stg k1) {K104 : St → Prop} (hK104 : ∀ (σ : St) (H : Heap) (locs : List Loc) (ls : Array Slot), lv_has ls 3 [(0, .ref (ga E 1)), (1, .ref (ga E k1))] → GW E base s σ H locs → K104 σ → W p l e rmX10_enter s m args below meth c H locs 0 0 (MQ below (QV E base Q) args s 0 0 (fun q => base ≤ q)) (F0 m 104 ls [])) : ∀ (qt0 : Nat) (σ : St) (hqt0 : shs[qt0]? = some (.inr (0, some 7, []))) (H : Heap) (locs : List Loc) (ls : Array Slot), lv_has ls 3 [(0, .ref (ga E 1)), (1, .ref (ga E k1))] → GW E base s σ H locs → wX10_enter_176 k1 Q K104 qt0 σ → W p l e rmX10_enter s m args below meth c H locs 0 0 (MQ below (QV E base Q) args s 0 0 (fun q => base ≤ q)) (F0 m 176 ls [.ref (ga E qt0)]) := by
  intro qt0 σ hqt0 H locs ls hl g h
  refine lv_astore_n (lv' := [(2, .ref (ga E qt0)), (0, .ref (ga E 1)), (1, .ref (ga E k1))]) C.1 C.2.1 dX10_enter_176 rfl hl (by decide) rfl (fun ls hl => ?_)
  refine lv_aload_n C.1 C.2.1 dX10_enter_177 rfl (lv_at hl 0 rfl) ?_
  refine lv_aload_n C.1 C.2.1 dX10_enter_178 rfl (lv_at hl 1 rfl) ?_
  refine gx_getR C g fl_X10_28 dX10_enter_179 sh_1 rfl (by decide) ?_
  refine gx_getR C g fl_X10_93 dX10_enter_182 sh_4 rfl (by decide) ?_
  refine lv_aload_n C.1 C.2.1 dX10_enter_185 rfl (lv_at hl 2 rfl) ?_
  refine gx_getI C g fl_X10_79 dX10_enter_186 (stg_obj hk1) rfl ?_
  obtain ⟨i1, h⟩ := h
  refine gx_iald C g dX10_enter_189 sh_21 i1 ?_
  refine lv_aload_n C.1 C.2.1 dX10_enter_190 rfl (lv_at hl 1 rfl) ?_
  refine gx_getR C g fl_X10_28 dX10_enter_191 sh_1 rfl (by decide) ?_
  refine gx_getR C g fl_X10_96 dX10_enter_194 sh_4 rfl (by decide) ?_
  refine lv_aload_n C.1 C.2.1 dX10_enter_197 rfl (lv_at hl 2 rfl) ?_
  refine gx_getI C g fl_X10_79 dX10_enter_198 (stg_obj hk1) rfl ?_
  obtain ⟨i2, h⟩ := h
  refine gx_iald C g dX10_enter_201 sh_23 i2 ?_
  obtain ⟨i3, h⟩ := h
  refine gx_iast C g dX10_enter_202 hqt0 i3 (fun H locs σ4 eσ4 g => ?_)
  have h := h σ4 eσ4
  exact tX10_enter_203 C hr hk1 hK104 _ _ _ _ (lv_sub hl [1, 2] rfl) g h
set_option maxHeartbeats 4000000 in
set_option maxRecDepth 100000 in
theorem tX10_enter_104 {p : Program} {l : Launch} {e : Env} {s : State} {m : MethodId} {args : Array Value} {below : List Frame} {meth : Method} {c : Code} {E : EE} {base : Nat} (C : Cx p E base s m args meth c cX10_enter 3 RX10) (hr : meth.sig.returnType = none) {Q : St → Prop} {k1 : Nat} (hk1 : Stg k1) : ∀ (n : Nat) (σ : St) (H : Heap) (locs : List Loc) (ls : Array Slot), lv_has ls 3 [(0, .ref (ga E 1)), (1, .ref (ga E k1))] → GW E base s σ H locs → wX10_enter_104 k1 Q n σ → W p l e rmX10_enter s m args below meth c H locs 0 0 (MQ below (QV E base Q) args s 0 0 (fun q => base ≤ q)) (F0 m 104 ls []) := by
  intro n
  induction n with
  | zero => intro _; intros; exact False.elim (by assumption)
  | succ n ih =>
    intro σ H locs ls hl g h
    refine lv_aload_n C.1 C.2.1 dX10_enter_104 rfl (lv_at hl 1 rfl) ?_
    refine gx_getI C g fl_X10_79 dX10_enter_105 (stg_obj hk1) rfl ?_
    refine lv_aload_n C.1 C.2.1 dX10_enter_108 rfl (lv_at hl 0 rfl) ?_
    refine gx_getR C g fl_X10_28 dX10_enter_109 sh_1 rfl (by decide) ?_
    refine gx_getI C g fl_X10_82 dX10_enter_112 sh_4 rfl ?_
    refine lv_icmp_ge (tgt := 216) C.1 C.2.1 dX10_enter_115 (by decide) (fun c1 => ?_) (fun c1 => ?_)
    · have h := h.1 c1
      exact gx_vret C hr g dX10_enter_216 h
    · have h := h.2 c1
      refine lv_aload_n C.1 C.2.1 dX10_enter_118 rfl (lv_at hl 0 rfl) ?_
      refine gx_getR C g fl_X10_28 dX10_enter_119 sh_1 rfl (by decide) ?_
      refine gx_getR C g fl_X10_83 dX10_enter_122 sh_4 rfl (by decide) ?_
      refine lv_aload_n C.1 C.2.1 dX10_enter_125 rfl (lv_at hl 1 rfl) ?_
      refine gx_getI C g fl_X10_79 dX10_enter_126 (stg_obj hk1) rfl ?_
      obtain ⟨i2, h⟩ := h
      refine gx_iald C g dX10_enter_129 sh_20 i2 ?_
      refine lv_aload_n C.1 C.2.1 dX10_enter_130 rfl (lv_at hl 1 rfl) ?_
      refine gx_getI C g fl_X10_52 dX10_enter_131 (stg_obj hk1) rfl ?_
      refine lv_icmp_gt (tgt := 216) C.1 C.2.1 dX10_enter_134 (by decide) (fun c3 => ?_) (fun c3 => ?_)
      · have h := h.1 c3
        exact gx_vret C hr g dX10_enter_216 h
      · have h := h.2 c3
        refine lv_aload_n C.1 C.2.1 dX10_enter_137 rfl (lv_at hl 1 rfl) ?_
        refine gx_getI C g fl_X10_79 dX10_enter_138 (stg_obj hk1) rfl ?_
        refine lv_aload_n C.1 C.2.1 dX10_enter_141 rfl (lv_at hl 1 rfl) ?_
        refine gx_getI C g fl_X10_48 dX10_enter_142 (stg_obj hk1) rfl ?_
        refine lv_icmp_eq (tgt := 203) C.1 C.2.1 dX10_enter_145 (by decide) (fun c4 => ?_) (fun c4 => ?_)
        · have h := h.1 c4
          exact tX10_enter_203 C hr hk1 ih _ _ _ _ (lv_sub hl [0, 1] rfl) g h
        · have h := h.2 c4
          refine lv_aload_n C.1 C.2.1 dX10_enter_148 rfl (lv_at hl 0 rfl) ?_
          refine gx_getR C g fl_X10_28 dX10_enter_149 sh_1 rfl (by decide) ?_
          refine gx_getR C g fl_X10_86 dX10_enter_152 sh_4 rfl (by decide) ?_
          refine lv_aload_n C.1 C.2.1 dX10_enter_155 rfl (lv_at hl 1 rfl) ?_
          refine gx_getI C g fl_X10_79 dX10_enter_156 (stg_obj hk1) rfl ?_
          obtain ⟨i5, h⟩ := h
          refine gx_zald C g dX10_enter_159 sh_22 i5 ?_
          refine lv_if_eq (tgt := 170) C.1 C.2.1 dX10_enter_160 (by decide) (fun c6 => ?_) (fun c6 => ?_)
          · have h := h.1 c6
            refine lv_aload_n C.1 C.2.1 dX10_enter_170 rfl (lv_at hl 1 rfl) ?_
            refine gx_getR C g fl_X10_59 dX10_enter_171 (stg_obj hk1) rfl (stg_ne hk1 1) ?_
            refine lv_iconst (v := 2) C.1 C.2.1 dX10_enter_174 (by decide) ?_
            refine gx_aald (r := (k1 + 5)) C g dX10_enter_175 (stg_row hk1) (Or.inr rfl) vi_2 rfl (stg_ne hk1 5) ?_
            exact tX10_enter_176 C hr hk1 ih (k1 + 5) _ (stg_arr hk1 5 (by decide) (by decide)) _ _ _ (lv_sub hl [0, 1] rfl) g h
          · have h := h.2 c6
            refine lv_aload_n C.1 C.2.1 dX10_enter_163 rfl (lv_at hl 1 rfl) ?_
            refine gx_getR C g fl_X10_90 dX10_enter_164 (stg_obj hk1) rfl (stg_ne hk1 2) ?_
            refine lv_goto (tgt := 176) C.1 C.2.1 dX10_enter_167 (by decide) ?_
            exact tX10_enter_176 C hr hk1 ih (k1 + 2) _ (stg_arr hk1 2 (by decide) (by decide)) _ _ _ (lv_sub hl [0, 1] rfl) g h
set_option maxHeartbeats 4000000 in
set_option maxRecDepth 100000 in
theorem tX10_enter_96 {p : Program} {l : Launch} {e : Env} {s : State} {m : MethodId} {args : Array Value} {below : List Frame} {meth : Method} {c : Code} {E : EE} {base : Nat} (C : Cx p E base s m args meth c cX10_enter 3 RX10) (hr : meth.sig.returnType = none) {Q : St → Prop} {k1 : Nat} (hk1 : Stg k1) {K12 : Int32 → St → Prop} (hK12 : ∀ (x2 : Int32) (σ : St) (H : Heap) (locs : List Loc) (ls : Array Slot), lv_has ls 3 [(0, .ref (ga E 1)), (1, .ref (ga E k1)), (2, .int x2)] → GW E base s σ H locs → K12 x2 σ → W p l e rmX10_enter s m args below meth c H locs 0 0 (MQ below (QV E base Q) args s 0 0 (fun q => base ≤ q)) (F0 m 12 ls [])) : ∀ (x2 : Int32) (xt1 : Int32) (xt2 : Int32) (xt3 : Int32) (σ : St) (H : Heap) (locs : List Loc) (ls : Array Slot), lv_has ls 3 [(0, .ref (ga E 1)), (1, .ref (ga E k1)), (2, .int x2)] → GW E base s σ H locs → wX10_enter_96 k1 Q K12 x2 xt1 xt2 xt3 σ → W p l e rmX10_enter s m args below meth c H locs 0 0 (MQ below (QV E base Q) args s 0 0 (fun q => base ≤ q)) (F0 m 96 ls [.int xt3, .int xt2, .int xt1, .ref (ga E (k1 + 4))]) := by
  intro x2 xt1 xt2 xt3 σ H locs ls hl g h
  refine lv_iadd C.1 C.2.1 dX10_enter_96 ?_
  obtain ⟨i1, h⟩ := h
  refine gx_iast C g dX10_enter_97 (stg_arr hk1 4 (by decide) (by decide)) i1 (fun H locs σ2 eσ2 g => ?_)
  have h := h σ2 eσ2
  obtain ⟨x2_3, ex2_3⟩ : ∃ y : Int32, y = x2 + 1 := ⟨_, rfl⟩
  have h := h x2_3 ex2_3
  refine lv_iinc (v := x2_3) (lv' := [(2, .int x2_3), (0, .ref (ga E 1)), (1, .ref (ga E k1))]) C.1 C.2.1 dX10_enter_98 hl (k := 2) rfl (by rw [ex2_3]; rfl) (by decide) rfl (fun ls hl => ?_)
  refine lv_goto (tgt := 12) C.1 C.2.1 dX10_enter_101 (by decide) ?_
  exact hK12 x2_3 _ _ _ _ (lv_sub hl [1, 2, 0] rfl) g h
set_option maxHeartbeats 4000000 in
set_option maxRecDepth 100000 in
theorem tX10_enter_12 {p : Program} {l : Launch} {e : Env} {s : State} {m : MethodId} {args : Array Value} {below : List Frame} {meth : Method} {c : Code} {E : EE} {base : Nat} (C : Cx p E base s m args meth c cX10_enter 3 RX10) (hr : meth.sig.returnType = none) {Q : St → Prop} {k1 : Nat} (hk1 : Stg k1) : ∀ (n : Nat) (x2 : Int32) (σ : St) (H : Heap) (locs : List Loc) (ls : Array Slot), lv_has ls 3 [(0, .ref (ga E 1)), (1, .ref (ga E k1)), (2, .int x2)] → GW E base s σ H locs → wX10_enter_12 k1 Q n x2 σ → W p l e rmX10_enter s m args below meth c H locs 0 0 (MQ below (QV E base Q) args s 0 0 (fun q => base ≤ q)) (F0 m 12 ls []) := by
  intro n
  induction n with
  | zero => intro _; intros; exact False.elim (by assumption)
  | succ n ih =>
    intro x2 σ H locs ls hl g h
    refine lv_iload_n C.1 C.2.1 dX10_enter_12 rfl (lv_at hl 2 rfl) ?_
    refine lv_aload_n C.1 C.2.1 dX10_enter_13 rfl (lv_at hl 0 rfl) ?_
    refine gx_getR C g fl_X10_12 dX10_enter_14 sh_1 rfl (by decide) ?_
    refine gx_getI C g fl_X10_69 dX10_enter_17 sh_2 rfl ?_
    refine lv_icmp_ge (tgt := 104) C.1 C.2.1 dX10_enter_20 (by decide) (fun c1 => ?_) (fun c1 => ?_)
    · have h := h.1 c1
      obtain ⟨j, h⟩ := h
      exact tX10_enter_104 C hr hk1 j _ _ _ _ (lv_sub hl [0, 1] rfl) g h
    · have h := h.2 c1
      refine lv_aload_n C.1 C.2.1 dX10_enter_23 rfl (lv_at hl 1 rfl) ?_
      refine gx_getR C g fl_X10_59 dX10_enter_24 (stg_obj hk1) rfl (stg_ne hk1 1) ?_
      refine lv_iconst (v := 0) C.1 C.2.1 dX10_enter_27 (by decide) ?_
      refine gx_aald (r := (k1 + 3)) C g dX10_enter_28 (stg_row hk1) (Or.inr rfl) vi_0 rfl (stg_ne hk1 3) ?_
      refine lv_iload_n C.1 C.2.1 dX10_enter_29 rfl (lv_at hl 2 rfl) ?_
      refine lv_dup2_11 C.1 C.2.1 dX10_enter_30 rfl rfl ?_
      obtain ⟨i2, h⟩ := h
      refine gx_iald C g dX10_enter_31 (stg_arr hk1 3 (by decide) (by decide)) i2 ?_
      refine lv_aload_n C.1 C.2.1 dX10_enter_32 rfl (lv_at hl 1 rfl) ?_
      refine gx_getR C g fl_X10_59 dX10_enter_33 (stg_obj hk1) rfl (stg_ne hk1 1) ?_
      refine lv_iconst (v := 1) C.1 C.2.1 dX10_enter_36 (by decide) ?_
      refine gx_aald (r := (k1 + 4)) C g dX10_enter_37 (stg_row hk1) (Or.inr rfl) vi_1 rfl (stg_ne hk1 4) ?_
      refine lv_iload_n C.1 C.2.1 dX10_enter_38 rfl (lv_at hl 2 rfl) ?_
      obtain ⟨i3, h⟩ := h
      refine gx_iald C g dX10_enter_39 (stg_arr hk1 4 (by decide) (by decide)) i3 ?_
      refine lv_aload_n C.1 C.2.1 dX10_enter_40 rfl (lv_at hl 1 rfl) ?_
      refine gx_getR C g fl_X10_59 dX10_enter_41 (stg_obj hk1) rfl (stg_ne hk1 1) ?_
      refine lv_bipush (v := 9) C.1 C.2.1 dX10_enter_44 (by decide) ?_
      refine gx_aald (r := (k1 + 12)) C g dX10_enter_46 (stg_row hk1) (Or.inr rfl) vi_9 rfl (stg_ne hk1 12) ?_
      refine lv_iload_n C.1 C.2.1 dX10_enter_47 rfl (lv_at hl 2 rfl) ?_
      obtain ⟨i4, h⟩ := h
      refine gx_iald C g dX10_enter_48 (stg_arr hk1 12 (by decide) (by decide)) i4 ?_
      refine lv_isub C.1 C.2.1 dX10_enter_49 ?_
      refine lv_iadd C.1 C.2.1 dX10_enter_50 ?_
      obtain ⟨i5, h⟩ := h
      refine gx_iast C g dX10_enter_51 (stg_arr hk1 3 (by decide) (by decide)) i5 (fun H locs σ6 eσ6 g => ?_)
      have h := h σ6 eσ6
      refine lv_aload_n C.1 C.2.1 dX10_enter_52 rfl (lv_at hl 1 rfl) ?_
      refine gx_getR C g fl_X10_59 dX10_enter_53 (stg_obj hk1) rfl (stg_ne hk1 1) ?_
      refine lv_iconst (v := 1) C.1 C.2.1 dX10_enter_56 (by decide) ?_
      refine gx_aald (r := (k1 + 4)) C g dX10_enter_57 (stg_row hk1) (Or.inr rfl) vi_1 rfl (stg_ne hk1 4) ?_
      refine lv_iload_n C.1 C.2.1 dX10_enter_58 rfl (lv_at hl 2 rfl) ?_
      refine lv_aload_n C.1 C.2.1 dX10_enter_59 rfl (lv_at hl 0 rfl) ?_
      refine gx_getR C g fl_X10_21 dX10_enter_60 sh_1 rfl (by decide) ?_
      refine lv_aload_n C.1 C.2.1 dX10_enter_63 rfl (lv_at hl 1 rfl) ?_
      refine gx_getI C g fl_X10_52 dX10_enter_64 (stg_obj hk1) rfl ?_
      refine lv_iload_n C.1 C.2.1 dX10_enter_67 rfl (lv_at hl 2 rfl) ?_
      refine gx_calli0 g (gx_runV (k := 3) (rest := [.int x2, .ref (ga E (k1 + 4))]) C g mb_X6_fallen ml_X10_72 rfl sh_3 (mX6_fallen (gv σ6 k1 2) x2 _ _ h) ⟨Nat.le_of_ble_eq_true rfl, Nat.le_of_ble_eq_true rfl⟩ ⟨Nat.le_refl _, Nat.le_refl _⟩ rfl hl.1 rfl (Nat.le_of_ble_eq_true rfl) dX10_enter_68) rfl rfl (fun r7 σ8 H locs h g => ?_)
      refine lv_iload_n C.1 C.2.1 dX10_enter_71 rfl (lv_at hl 2 rfl) ?_
      refine lv_if_ne (tgt := 85) C.1 C.2.1 dX10_enter_72 (by decide) (fun c9 => ?_) (fun c9 => ?_)
      · have h := h.2 c9
        refine lv_aload_n C.1 C.2.1 dX10_enter_85 rfl (lv_at hl 1 rfl) ?_
        refine gx_getR C g fl_X10_59 dX10_enter_86 (stg_obj hk1) rfl (stg_ne hk1 1) ?_
        refine lv_bipush (v := 9) C.1 C.2.1 dX10_enter_89 (by decide) ?_
        refine gx_aald (r := (k1 + 12)) C g dX10_enter_91 (stg_row hk1) (Or.inr rfl) vi_9 rfl (stg_ne hk1 12) ?_
        refine lv_iload_n C.1 C.2.1 dX10_enter_92 rfl (lv_at hl 2 rfl) ?_
        refine lv_iconst (v := 1) C.1 C.2.1 dX10_enter_93 (by decide) ?_
        refine lv_isub C.1 C.2.1 dX10_enter_94 ?_
        obtain ⟨i10, h⟩ := h
        refine gx_iald C g dX10_enter_95 (stg_arr hk1 12 (by decide) (by decide)) i10 ?_
        exact tX10_enter_96 C hr hk1 ih x2 x2 r7 (gv σ8 (k1 + 12) (x2 - (1 : Int32)).toNatClampNeg) _ _ _ _ (lv_sub hl [0, 1, 2] rfl) g h
      · have h := h.1 c9
        refine lv_aload_n C.1 C.2.1 dX10_enter_75 rfl (lv_at hl 0 rfl) ?_
        refine gx_getR C g fl_X10_12 dX10_enter_76 sh_1 rfl (by decide) ?_
        refine gx_getI C g fl_X10_76 dX10_enter_79 sh_2 rfl ?_
        refine lv_goto (tgt := 96) C.1 C.2.1 dX10_enter_82 (by decide) ?_
        exact tX10_enter_96 C hr hk1 ih x2 x2 r7 (gv σ8 2 5) _ _ _ _ (lv_sub hl [0, 1, 2] rfl) g h
set_option maxHeartbeats 4000000 in
set_option maxRecDepth 100000 in
theorem tX10_enter_e {p : Program} {l : Launch} {e : Env} {s : State} {m : MethodId} {args : Array Value} {below : List Frame} {meth : Method} {c : Code} {E : EE} {base : Nat} (C : Cx p E base s m args meth c cX10_enter 3 RX10) (hr : meth.sig.returnType = none) {Q : St → Prop} {k1 : Nat} (hk1 : Stg k1) : ∀ (σ : St) (H : Heap) (locs : List Loc) (ls : Array Slot), lv_has ls 3 [(0, .ref (ga E 1)), (1, .ref (ga E k1))] → GW E base s σ H locs → wX10_enter k1 σ Q → W p l e rmX10_enter s m args below meth c H locs 0 0 (MQ below (QV E base Q) args s 0 0 (fun q => base ≤ q)) (F0 m 0 ls []) := by
  intro σ H locs ls hl g h
  refine lv_aload_n C.1 C.2.1 dX10_enter_0 rfl (lv_at hl 1 rfl) ?_
  refine lv_dup C.1 C.2.1 dX10_enter_1 rfl ?_
  refine gx_getI C g fl_X10_52 dX10_enter_2 (stg_obj hk1) rfl ?_
  refine lv_iconst (v := 1) C.1 C.2.1 dX10_enter_5 (by decide) ?_
  refine lv_iadd C.1 C.2.1 dX10_enter_6 ?_
  refine gx_putI C g fi_X10_52 dX10_enter_7 (stg_obj hk1) rfl (fun H locs σ1 eσ1 g => ?_)
  have h := h σ1 eσ1
  refine lv_iconst (v := 0) C.1 C.2.1 dX10_enter_10 (by decide) ?_
  refine lv_istore_n (lv' := [(2, .int (0 : Int32)), (0, .ref (ga E 1)), (1, .ref (ga E k1))]) C.1 C.2.1 dX10_enter_11 rfl hl (by decide) rfl (fun ls hl => ?_)
  obtain ⟨j, h⟩ := h
  exact tX10_enter_12 C hr hk1 j (0 : Int32) _ _ _ _ (lv_sub hl [1, 2, 0] rfl) g h
theorem mX10_enter {l : Launch} {E : EE} {base : Nat} (k1 : Nat) (hk1 : Stg k1) (σ : St) (Q : St → Prop) (h : wX10_enter k1 σ Q) : Met l yX10_enter (wy yX10_enter cX10_enter 3 none) rmX10_enter (va_Pc [.ref (ga E 1), .ref (ga E k1)] (fun U => SW E base σ U)) (QV E base Q) (rmX10_enter).cells (rmX10_enter).slots (fun q => base ≤ q) :=
  met_of (by decide) (Nat.le_of_ble_eq_true rfl) (fun p e s m args below meth c C hr g ls hl => tX10_enter_e C hr hk1  _ _ _ _ hl g h)
abbrev rmX10_drowned : Room := { frames := 1, cells := 0, slots := 0, locals := 13 }
def wX10_drowned (k1 : Nat) (x2 : Int32) (σ : St) (Q : Int32 → St → Prop) : Prop := ∀ x3_1 : Int32, x3_1 = x2 + (1 : Int32) → (((gv σ 2 4) ≤ x3_1 → Q (0 : Int32) σ) ∧ (¬ ((gv σ 2 4) ≤ x3_1) → vp_in x3_1 7 ∧ vp_in x3_1 7 ∧ Q (jmax ((gv σ (k1 + 3) x3_1.toNatClampNeg) - (gv σ 13 x3_1.toNatClampNeg)) (0 : Int32)) σ))
set_option maxHeartbeats 4000000 in
set_option maxRecDepth 100000 in
theorem tX10_drowned_e {p : Program} {l : Launch} {e : Env} {s : State} {m : MethodId} {args : Array Value} {below : List Frame} {meth : Method} {c : Code} {E : EE} {base : Nat} (C : Cx p E base s m args meth c cX10_drowned 4 RX10) (hr : meth.sig.returnType = (some .int)) {Q : Int32 → St → Prop} {k1 : Nat} (hk1 : Stg k1) : ∀ (x2 : Int32) (σ : St) (H : Heap) (locs : List Loc) (ls : Array Slot), lv_has ls 4 [(0, .ref (ga E 1)), (1, .ref (ga E k1)), (2, .int x2)] → GW E base s σ H locs → wX10_drowned k1 x2 σ Q → W p l e rmX10_drowned s m args below meth c H locs 0 0 (MQ below (QI E base Q) args s 0 0 (fun q => base ≤ q)) (F0 m 0 ls []) := by
  intro x2 σ H locs ls hl g h
  refine lv_iload_n C.1 C.2.1 dX10_drowned_0 rfl (lv_at hl 2 rfl) ?_
  refine lv_iconst (v := 1) C.1 C.2.1 dX10_drowned_1 (by decide) ?_
  refine lv_iadd C.1 C.2.1 dX10_drowned_2 ?_
  refine lv_topi (fun x3_1 ex3_1 => ?_)
  have h := h x3_1 ex3_1
  refine lv_istore_n (lv' := [(3, .int x3_1), (0, .ref (ga E 1)), (1, .ref (ga E k1)), (2, .int x2)]) C.1 C.2.1 dX10_drowned_3 rfl hl (by decide) rfl (fun ls hl => ?_)
  refine lv_iload_n C.1 C.2.1 dX10_drowned_4 rfl (lv_at hl 0 rfl) ?_
  refine lv_aload_n C.1 C.2.1 dX10_drowned_5 rfl (lv_at hl 1 rfl) ?_
  refine gx_getR C g fl_X10_12 dX10_drowned_6 sh_1 rfl (by decide) ?_
  refine gx_getI C g fl_X10_69 dX10_drowned_9 sh_2 rfl ?_
  refine lv_icmp_ge (tgt := 40) C.1 C.2.1 dX10_drowned_12 (by decide) (fun c2 => ?_) (fun c2 => ?_)
  · have h := h.1 c2
    refine lv_iconst (v := 0) C.1 C.2.1 dX10_drowned_40 (by decide) ?_
    exact gx_iret C hr g dX10_drowned_41 h
  · have h := h.2 c2
    refine lv_aload_n C.1 C.2.1 dX10_drowned_15 rfl (lv_at hl 2 rfl) ?_
    refine gx_getR C g fl_X10_59 dX10_drowned_16 (stg_obj hk1) rfl (stg_ne hk1 1) ?_
    refine lv_iconst (v := 0) C.1 C.2.1 dX10_drowned_19 (by decide) ?_
    refine gx_aald (r := (k1 + 3)) C g dX10_drowned_20 (stg_row hk1) (Or.inr rfl) vi_0 rfl (stg_ne hk1 3) ?_
    refine lv_iload_n C.1 C.2.1 dX10_drowned_21 rfl (lv_at hl 0 rfl) ?_
    obtain ⟨i3, h⟩ := h
    refine gx_iald C g dX10_drowned_22 (stg_arr hk1 3 (by decide) (by decide)) i3 ?_
    refine lv_aload_n C.1 C.2.1 dX10_drowned_23 rfl (lv_at hl 1 rfl) ?_
    refine gx_getR C g fl_X10_12 dX10_drowned_24 sh_1 rfl (by decide) ?_
    refine gx_getR C g fl_X10_128 dX10_drowned_27 sh_2 rfl (by decide) ?_
    refine lv_iload_n C.1 C.2.1 dX10_drowned_30 rfl (lv_at hl 0 rfl) ?_
    obtain ⟨i4, h⟩ := h
    refine gx_iald C g dX10_drowned_31 sh_13 i4 ?_
    refine lv_isub C.1 C.2.1 dX10_drowned_32 ?_
    refine lv_iconst (v := 0) C.1 C.2.1 dX10_drowned_33 (by decide) ?_
    refine gx_max (rest := []) C ml_X10_121 hl.1 (Nat.le_of_ble_eq_true rfl) (Nat.le_of_ble_eq_true rfl) (Nat.le_refl _) (Nat.le_refl _) dX10_drowned_34 ?_
    refine lv_goto (tgt := 41) C.1 C.2.1 dX10_drowned_37 (by decide) ?_
    exact gx_iret C hr g dX10_drowned_41 h
theorem mX10_drowned {l : Launch} {E : EE} {base : Nat} (k1 : Nat) (x2 : Int32) (hk1 : Stg k1) (σ : St) (Q : Int32 → St → Prop) (h : wX10_drowned k1 x2 σ Q) : Met l yX10_drowned (wy yX10_drowned cX10_drowned 4 (some .int)) rmX10_drowned (va_Pc [.ref (ga E 1), .ref (ga E k1), .int x2] (fun U => SW E base σ U)) (QI E base Q) (rmX10_drowned).cells (rmX10_drowned).slots (fun q => base ≤ q) :=
  met_of (by decide) (Nat.le_of_ble_eq_true rfl) (fun p e s m args below meth c C hr g ls hl => tX10_drowned_e C hr hk1 x2 _ _ _ _ hl g h)
abbrev rmX10_settle : Room := { frames := 4, cells := 0, slots := 0, locals := 95 }
def wX10_settle_2 (k1 : Nat) (Q : St → Prop) : Nat → Int32 → St → Prop
  | 0, _, _ => False
  | n + 1, x2, σ => (((gv σ 2 4) ≤ x2 → Q σ) ∧ (¬ ((gv σ 2 4) ≤ x2) → vp_in x2 7 ∧ ∀ x3_3 : Int32, x3_3 = gv σ (k1 + 3) x2.toNatClampNeg → vp_in x2 7 ∧ ∀ x4_5 : Int32, x4_5 = x3_3 + (gv σ (k1 + 4) x2.toNatClampNeg) → wX2_opened k1 x2 σ (fun (r6 : Int32) (σ7 : St) => wX10_drowned k1 x2 σ7 (fun (r8 : Int32) (σ9 : St) => ∀ x6_10 : Int32, x6_10 = x3_3 - r8 → vp_in x2 7 ∧ ∀ x7_12 : Int32, x7_12 = jmin ((2 : Int32) * (gv σ9 (k1 + 5) x2.toNatClampNeg)) x4_5 → ∀ x8_13 : Int32, x8_13 = jmin ((3 : Int32) * r6) (x4_5 - x7_12) → vp_in x2 7 ∧ ∀ x9_15 : Int32, x9_15 = jmax (((x4_5 - x7_12) - x8_13) - (gv σ9 12 x2.toNatClampNeg)) (0 : Int32) → vp_in x2 7 ∧ ∀ σ17 : St, σ17 = pv σ9 (k1 + 6) x2.toNatClampNeg r6 → vp_in x2 7 ∧ ∀ σ19 : St, σ19 = pv σ17 (k1 + 7) x2.toNatClampNeg x6_10 → vp_in x2 7 ∧ ∀ σ21 : St, σ21 = pv σ19 (k1 + 8) x2.toNatClampNeg x7_12 → wX3_factorOf x6_10 σ21 (fun (r22 : Int32) (σ23 : St) => vp_in x2 7 ∧ ∀ σ25 : St, σ25 = pv σ23 (k1 + 9) x2.toNatClampNeg (x7_12 * r22) → vp_in x2 7 ∧ ∀ σ27 : St, σ27 = pv σ25 (k1 + 10) x2.toNatClampNeg x8_13 → vp_in x2 7 ∧ ∀ σ29 : St, σ29 = pv σ27 (k1 + 11) x2.toNatClampNeg x9_15 → vp_in x2 7 ∧ ∀ σ31 : St, σ31 = pv σ29 (k1 + 12) x2.toNatClampNeg ((x7_12 + x8_13) + x9_15) → ∀ x2_32 : Int32, x2_32 = x2 + 1 → wX10_settle_2 k1 Q n x2_32 σ31)))))
def wX10_settle (k1 : Nat) (σ : St) (Q : St → Prop) : Prop := ∃ j : Nat, wX10_settle_2 k1 Q j (0 : Int32) σ
set_option maxHeartbeats 4000000 in
set_option maxRecDepth 100000 in
theorem tX10_settle_2 {p : Program} {l : Launch} {e : Env} {s : State} {m : MethodId} {args : Array Value} {below : List Frame} {meth : Method} {c : Code} {E : EE} {base : Nat} (C : Cx p E base s m args meth c cX10_settle 10 RX10) (hr : meth.sig.returnType = none) {Q : St → Prop} {k1 : Nat} (hk1 : Stg k1) : ∀ (n : Nat) (x2 : Int32) (σ : St) (H : Heap) (locs : List Loc) (ls : Array Slot), lv_has ls 10 [(0, .ref (ga E 1)), (1, .ref (ga E k1)), (2, .int x2)] → GW E base s σ H locs → wX10_settle_2 k1 Q n x2 σ → W p l e rmX10_settle s m args below meth c H locs 0 0 (MQ below (QV E base Q) args s 0 0 (fun q => base ≤ q)) (F0 m 2 ls []) := by
  intro n
  induction n with
  | zero => intro _; intros; exact False.elim (by assumption)
  | succ n ih =>
    intro x2 σ H locs ls hl g h
    refine lv_iload_n C.1 C.2.1 dX10_settle_2 rfl (lv_at hl 2 rfl) ?_
    refine lv_aload_n C.1 C.2.1 dX10_settle_3 rfl (lv_at hl 0 rfl) ?_
    refine gx_getR C g fl_X10_12 dX10_settle_4 sh_1 rfl (by decide) ?_
    refine gx_getI C g fl_X10_69 dX10_settle_7 sh_2 rfl ?_
    refine lv_icmp_ge (tgt := 213) C.1 C.2.1 dX10_settle_10 (by decide) (fun c1 => ?_) (fun c1 => ?_)
    · have h := h.1 c1
      exact gx_vret C hr g dX10_settle_213 h
    · have h := h.2 c1
      refine lv_aload_n C.1 C.2.1 dX10_settle_13 rfl (lv_at hl 1 rfl) ?_
      refine gx_getR C g fl_X10_59 dX10_settle_14 (stg_obj hk1) rfl (stg_ne hk1 1) ?_
      refine lv_iconst (v := 0) C.1 C.2.1 dX10_settle_17 (by decide) ?_
      refine gx_aald (r := (k1 + 3)) C g dX10_settle_18 (stg_row hk1) (Or.inr rfl) vi_0 rfl (stg_ne hk1 3) ?_
      refine lv_iload_n C.1 C.2.1 dX10_settle_19 rfl (lv_at hl 2 rfl) ?_
      obtain ⟨i2, h⟩ := h
      refine gx_iald C g dX10_settle_20 (stg_arr hk1 3 (by decide) (by decide)) i2 ?_
      refine lv_topi (fun x3_3 ex3_3 => ?_)
      have h := h x3_3 ex3_3
      refine lv_istore_n (lv' := [(3, .int x3_3), (0, .ref (ga E 1)), (1, .ref (ga E k1)), (2, .int x2)]) C.1 C.2.1 dX10_settle_21 rfl hl (by decide) rfl (fun ls hl => ?_)
      refine lv_iload_n C.1 C.2.1 dX10_settle_22 rfl (lv_at hl 0 rfl) ?_
      refine lv_aload_n C.1 C.2.1 dX10_settle_23 rfl (lv_at hl 2 rfl) ?_
      refine gx_getR C g fl_X10_59 dX10_settle_24 (stg_obj hk1) rfl (stg_ne hk1 1) ?_
      refine lv_iconst (v := 1) C.1 C.2.1 dX10_settle_27 (by decide) ?_
      refine gx_aald (r := (k1 + 4)) C g dX10_settle_28 (stg_row hk1) (Or.inr rfl) vi_1 rfl (stg_ne hk1 4) ?_
      refine lv_iload_n C.1 C.2.1 dX10_settle_29 rfl (lv_at hl 3 rfl) ?_
      obtain ⟨i4, h⟩ := h
      refine gx_iald C g dX10_settle_30 (stg_arr hk1 4 (by decide) (by decide)) i4 ?_
      refine lv_iadd C.1 C.2.1 dX10_settle_31 ?_
      refine lv_topi (fun x4_5 ex4_5 => ?_)
      have h := h x4_5 ex4_5
      refine lv_istore (lv' := [(4, .int x4_5), (3, .int x3_3), (0, .ref (ga E 1)), (1, .ref (ga E k1)), (2, .int x2)]) C.1 C.2.1 dX10_settle_32 hl (by decide) rfl (fun ls hl => ?_)
      refine lv_aload_n C.1 C.2.1 dX10_settle_34 rfl (lv_at hl 2 rfl) ?_
      refine gx_getR C g fl_X10_35 dX10_settle_35 sh_1 rfl (by decide) ?_
      refine gx_getR C g fl_X10_99 dX10_settle_38 sh_5 rfl (by decide) ?_
      refine lv_aload_n C.1 C.2.1 dX10_settle_41 rfl (lv_at hl 3 rfl) ?_
      refine lv_iload_n C.1 C.2.1 dX10_settle_42 rfl (lv_at hl 4 rfl) ?_
      refine lv_aload_n C.1 C.2.1 dX10_settle_43 rfl (lv_at hl 2 rfl) ?_
      refine gx_getR C g fl_X10_12 dX10_settle_44 sh_1 rfl (by decide) ?_
      refine gx_calli0 g (gx_runV (k := 8) (rest := []) C g mb_X2_opened ml_X10_103 rfl sh_8 (mX2_opened k1 x2 hk1 _ _ h) ⟨Nat.le_of_ble_eq_true rfl, Nat.le_of_ble_eq_true rfl⟩ ⟨Nat.le_refl _, Nat.le_refl _⟩ rfl hl.1 rfl (Nat.le_of_ble_eq_true rfl) dX10_settle_47) rfl rfl (fun r6 σ7 H locs h g => ?_)
      refine lv_istore (lv' := [(5, .int r6), (4, .int x4_5), (3, .int x3_3), (0, .ref (ga E 1)), (1, .ref (ga E k1)), (2, .int x2)]) C.1 C.2.1 dX10_settle_50 hl (by decide) rfl (fun ls hl => ?_)
      refine lv_iload_n C.1 C.2.1 dX10_settle_52 rfl (lv_at hl 2 rfl) ?_
      refine lv_aload_n C.1 C.2.1 dX10_settle_53 rfl (lv_at hl 3 rfl) ?_
      refine lv_aload_n C.1 C.2.1 dX10_settle_54 rfl (lv_at hl 4 rfl) ?_
      refine lv_iload_n C.1 C.2.1 dX10_settle_55 rfl (lv_at hl 5 rfl) ?_
      refine gx_calli0 g (gx_runV (k := 1) (rest := [.int x3_3]) C g mb_X10_drowned ml_X10_109 rfl sh_1 (mX10_drowned k1 x2 hk1 _ _ h) ⟨Nat.le_of_ble_eq_true rfl, Nat.le_of_ble_eq_true rfl⟩ ⟨Nat.le_refl _, Nat.le_refl _⟩ rfl hl.1 rfl (Nat.le_of_ble_eq_true rfl) dX10_settle_56) rfl rfl (fun r8 σ9 H locs h g => ?_)
      refine lv_isub C.1 C.2.1 dX10_settle_59 ?_
      refine lv_topi (fun x6_10 ex6_10 => ?_)
      have h := h x6_10 ex6_10
      refine lv_istore (lv' := [(6, .int x6_10), (5, .int r6), (4, .int x4_5), (3, .int x3_3), (0, .ref (ga E 1)), (1, .ref (ga E k1)), (2, .int x2)]) C.1 C.2.1 dX10_settle_60 hl (by decide) rfl (fun ls hl => ?_)
      refine lv_iconst (v := 2) C.1 C.2.1 dX10_settle_62 (by decide) ?_
      refine lv_aload_n C.1 C.2.1 dX10_settle_63 rfl (lv_at hl 5 rfl) ?_
      refine gx_getR C g fl_X10_59 dX10_settle_64 (stg_obj hk1) rfl (stg_ne hk1 1) ?_
      refine lv_iconst (v := 2) C.1 C.2.1 dX10_settle_67 (by decide) ?_
      refine gx_aald (r := (k1 + 5)) C g dX10_settle_68 (stg_row hk1) (Or.inr rfl) vi_2 rfl (stg_ne hk1 5) ?_
      refine lv_iload_n C.1 C.2.1 dX10_settle_69 rfl (lv_at hl 6 rfl) ?_
      obtain ⟨i11, h⟩ := h
      refine gx_iald C g dX10_settle_70 (stg_arr hk1 5 (by decide) (by decide)) i11 ?_
      refine lv_imul C.1 C.2.1 dX10_settle_71 ?_
      refine lv_iload C.1 C.2.1 dX10_settle_72 (lv_at hl 2 rfl) ?_
      refine gx_min (rest := []) C ml_X10_113 hl.1 (Nat.le_of_ble_eq_true rfl) (Nat.le_of_ble_eq_true rfl) (Nat.le_refl _) (Nat.le_refl _) dX10_settle_74 ?_
      refine lv_topi (fun x7_12 ex7_12 => ?_)
      have h := h x7_12 ex7_12
      refine lv_istore (lv' := [(7, .int x7_12), (6, .int x6_10), (5, .int r6), (4, .int x4_5), (3, .int x3_3), (0, .ref (ga E 1)), (1, .ref (ga E k1)), (2, .int x2)]) C.1 C.2.1 dX10_settle_77 hl (by decide) rfl (fun ls hl => ?_)
      refine lv_iconst (v := 3) C.1 C.2.1 dX10_settle_79 (by decide) ?_
      refine lv_iload C.1 C.2.1 dX10_settle_80 (lv_at hl 2 rfl) ?_
      refine lv_imul C.1 C.2.1 dX10_settle_82 ?_
      refine lv_iload C.1 C.2.1 dX10_settle_83 (lv_at hl 3 rfl) ?_
      refine lv_iload C.1 C.2.1 dX10_settle_85 (lv_at hl 0 rfl) ?_
      refine lv_isub C.1 C.2.1 dX10_settle_87 ?_
      refine gx_min (rest := []) C ml_X10_113 hl.1 (Nat.le_of_ble_eq_true rfl) (Nat.le_of_ble_eq_true rfl) (Nat.le_refl _) (Nat.le_refl _) dX10_settle_88 ?_
      refine lv_topi (fun x8_13 ex8_13 => ?_)
      have h := h x8_13 ex8_13
      refine lv_istore (lv' := [(8, .int x8_13), (7, .int x7_12), (6, .int x6_10), (5, .int r6), (4, .int x4_5), (3, .int x3_3), (0, .ref (ga E 1)), (1, .ref (ga E k1)), (2, .int x2)]) C.1 C.2.1 dX10_settle_91 hl (by decide) rfl (fun ls hl => ?_)
      refine lv_iload C.1 C.2.1 dX10_settle_93 (lv_at hl 4 rfl) ?_
      refine lv_iload C.1 C.2.1 dX10_settle_95 (lv_at hl 1 rfl) ?_
      refine lv_isub C.1 C.2.1 dX10_settle_97 ?_
      refine lv_iload C.1 C.2.1 dX10_settle_98 (lv_at hl 0 rfl) ?_
      refine lv_isub C.1 C.2.1 dX10_settle_100 ?_
      refine lv_aload_n C.1 C.2.1 dX10_settle_101 rfl (lv_at hl 6 rfl) ?_
      refine gx_getR C g fl_X10_12 dX10_settle_102 sh_1 rfl (by decide) ?_
      refine gx_getR C g fl_X10_118 dX10_settle_105 sh_2 rfl (by decide) ?_
      refine lv_iload_n C.1 C.2.1 dX10_settle_108 rfl (lv_at hl 8 rfl) ?_
      obtain ⟨i14, h⟩ := h
      refine gx_iald C g dX10_settle_109 sh_12 i14 ?_
      refine lv_isub C.1 C.2.1 dX10_settle_110 ?_
      refine lv_iconst (v := 0) C.1 C.2.1 dX10_settle_111 (by decide) ?_
      refine gx_max (rest := []) C ml_X10_121 hl.1 (Nat.le_of_ble_eq_true rfl) (Nat.le_of_ble_eq_true rfl) (Nat.le_refl _) (Nat.le_refl _) dX10_settle_112 ?_
      refine lv_topi (fun x9_15 ex9_15 => ?_)
      have h := h x9_15 ex9_15
      refine lv_istore (lv' := [(9, .int x9_15), (8, .int x8_13), (7, .int x7_12), (6, .int x6_10), (5, .int r6), (4, .int x4_5), (3, .int x3_3), (0, .ref (ga E 1)), (1, .ref (ga E k1)), (2, .int x2)]) C.1 C.2.1 dX10_settle_115 hl (by decide) rfl (fun ls hl => ?_)
      refine lv_aload_n C.1 C.2.1 dX10_settle_117 rfl (lv_at hl 8 rfl) ?_
      refine gx_getR C g fl_X10_59 dX10_settle_118 (stg_obj hk1) rfl (stg_ne hk1 1) ?_
      refine lv_iconst (v := 3) C.1 C.2.1 dX10_settle_121 (by decide) ?_
      refine gx_aald (r := (k1 + 6)) C g dX10_settle_122 (stg_row hk1) (Or.inr rfl) vi_3 rfl (stg_ne hk1 6) ?_
      refine lv_iload_n C.1 C.2.1 dX10_settle_123 rfl (lv_at hl 9 rfl) ?_
      refine lv_iload C.1 C.2.1 dX10_settle_124 (lv_at hl 4 rfl) ?_
      obtain ⟨i16, h⟩ := h
      refine gx_iast C g dX10_settle_126 (stg_arr hk1 6 (by decide) (by decide)) i16 (fun H locs σ17 eσ17 g => ?_)
      have h := h σ17 eσ17
      refine lv_aload_n C.1 C.2.1 dX10_settle_127 rfl (lv_at hl 8 rfl) ?_
      refine gx_getR C g fl_X10_59 dX10_settle_128 (stg_obj hk1) rfl (stg_ne hk1 1) ?_
      refine lv_iconst (v := 4) C.1 C.2.1 dX10_settle_131 (by decide) ?_
      refine gx_aald (r := (k1 + 7)) C g dX10_settle_132 (stg_row hk1) (Or.inr rfl) vi_4 rfl (stg_ne hk1 7) ?_
      refine lv_iload_n C.1 C.2.1 dX10_settle_133 rfl (lv_at hl 9 rfl) ?_
      refine lv_iload C.1 C.2.1 dX10_settle_134 (lv_at hl 3 rfl) ?_
      obtain ⟨i18, h⟩ := h
      refine gx_iast C g dX10_settle_136 (stg_arr hk1 7 (by decide) (by decide)) i18 (fun H locs σ19 eσ19 g => ?_)
      have h := h σ19 eσ19
      refine lv_aload_n C.1 C.2.1 dX10_settle_137 rfl (lv_at hl 8 rfl) ?_
      refine gx_getR C g fl_X10_59 dX10_settle_138 (stg_obj hk1) rfl (stg_ne hk1 1) ?_
      refine lv_iconst (v := 5) C.1 C.2.1 dX10_settle_141 (by decide) ?_
      refine gx_aald (r := (k1 + 8)) C g dX10_settle_142 (stg_row hk1) (Or.inr rfl) vi_5 rfl (stg_ne hk1 8) ?_
      refine lv_iload_n C.1 C.2.1 dX10_settle_143 rfl (lv_at hl 9 rfl) ?_
      refine lv_iload C.1 C.2.1 dX10_settle_144 (lv_at hl 2 rfl) ?_
      obtain ⟨i20, h⟩ := h
      refine gx_iast C g dX10_settle_146 (stg_arr hk1 8 (by decide) (by decide)) i20 (fun H locs σ21 eσ21 g => ?_)
      have h := h σ21 eσ21
      refine lv_aload_n C.1 C.2.1 dX10_settle_147 rfl (lv_at hl 8 rfl) ?_
      refine gx_getR C g fl_X10_59 dX10_settle_148 (stg_obj hk1) rfl (stg_ne hk1 1) ?_
      refine lv_bipush (v := 6) C.1 C.2.1 dX10_settle_151 (by decide) ?_
      refine gx_aald (r := (k1 + 9)) C g dX10_settle_153 (stg_row hk1) (Or.inr rfl) vi_6 rfl (stg_ne hk1 9) ?_
      refine lv_iload_n C.1 C.2.1 dX10_settle_154 rfl (lv_at hl 9 rfl) ?_
      refine lv_iload C.1 C.2.1 dX10_settle_155 (lv_at hl 2 rfl) ?_
      refine lv_aload_n C.1 C.2.1 dX10_settle_157 rfl (lv_at hl 7 rfl) ?_
      refine gx_getR C g fl_X10_12 dX10_settle_158 sh_1 rfl (by decide) ?_
      refine lv_iload C.1 C.2.1 dX10_settle_161 (lv_at hl 3 rfl) ?_
      refine gx_calli0 g (gx_runV (k := 2) (rest := [.int x7_12, .int x2, .ref (ga E (k1 + 9))]) C g mb_X3_factorOf ml_X10_124 rfl sh_2 (mX3_factorOf x6_10 _ _ h) ⟨Nat.le_of_ble_eq_true rfl, Nat.le_of_ble_eq_true rfl⟩ ⟨Nat.le_refl _, Nat.le_refl _⟩ rfl hl.1 rfl (Nat.le_of_ble_eq_true rfl) dX10_settle_163) rfl rfl (fun r22 σ23 H locs h g => ?_)
      refine lv_imul C.1 C.2.1 dX10_settle_166 ?_
      obtain ⟨i24, h⟩ := h
      refine gx_iast C g dX10_settle_167 (stg_arr hk1 9 (by decide) (by decide)) i24 (fun H locs σ25 eσ25 g => ?_)
      have h := h σ25 eσ25
      refine lv_aload_n C.1 C.2.1 dX10_settle_168 rfl (lv_at hl 8 rfl) ?_
      refine gx_getR C g fl_X10_59 dX10_settle_169 (stg_obj hk1) rfl (stg_ne hk1 1) ?_
      refine lv_bipush (v := 7) C.1 C.2.1 dX10_settle_172 (by decide) ?_
      refine gx_aald (r := (k1 + 10)) C g dX10_settle_174 (stg_row hk1) (Or.inr rfl) vi_7 rfl (stg_ne hk1 10) ?_
      refine lv_iload_n C.1 C.2.1 dX10_settle_175 rfl (lv_at hl 9 rfl) ?_
      refine lv_iload C.1 C.2.1 dX10_settle_176 (lv_at hl 1 rfl) ?_
      obtain ⟨i26, h⟩ := h
      refine gx_iast C g dX10_settle_178 (stg_arr hk1 10 (by decide) (by decide)) i26 (fun H locs σ27 eσ27 g => ?_)
      have h := h σ27 eσ27
      refine lv_aload_n C.1 C.2.1 dX10_settle_179 rfl (lv_at hl 8 rfl) ?_
      refine gx_getR C g fl_X10_59 dX10_settle_180 (stg_obj hk1) rfl (stg_ne hk1 1) ?_
      refine lv_bipush (v := 8) C.1 C.2.1 dX10_settle_183 (by decide) ?_
      refine gx_aald (r := (k1 + 11)) C g dX10_settle_185 (stg_row hk1) (Or.inr rfl) vi_8 rfl (stg_ne hk1 11) ?_
      refine lv_iload_n C.1 C.2.1 dX10_settle_186 rfl (lv_at hl 9 rfl) ?_
      refine lv_iload C.1 C.2.1 dX10_settle_187 (lv_at hl 0 rfl) ?_
      obtain ⟨i28, h⟩ := h
      refine gx_iast C g dX10_settle_189 (stg_arr hk1 11 (by decide) (by decide)) i28 (fun H locs σ29 eσ29 g => ?_)
      have h := h σ29 eσ29
      refine lv_aload_n C.1 C.2.1 dX10_settle_190 rfl (lv_at hl 8 rfl) ?_
      refine gx_getR C g fl_X10_59 dX10_settle_191 (stg_obj hk1) rfl (stg_ne hk1 1) ?_
      refine lv_bipush (v := 9) C.1 C.2.1 dX10_settle_194 (by decide) ?_
      refine gx_aald (r := (k1 + 12)) C g dX10_settle_196 (stg_row hk1) (Or.inr rfl) vi_9 rfl (stg_ne hk1 12) ?_
      refine lv_iload_n C.1 C.2.1 dX10_settle_197 rfl (lv_at hl 9 rfl) ?_
      refine lv_iload C.1 C.2.1 dX10_settle_198 (lv_at hl 2 rfl) ?_
      refine lv_iload C.1 C.2.1 dX10_settle_200 (lv_at hl 1 rfl) ?_
      refine lv_iadd C.1 C.2.1 dX10_settle_202 ?_
      refine lv_iload C.1 C.2.1 dX10_settle_203 (lv_at hl 0 rfl) ?_
      refine lv_iadd C.1 C.2.1 dX10_settle_205 ?_
      obtain ⟨i30, h⟩ := h
      refine gx_iast C g dX10_settle_206 (stg_arr hk1 12 (by decide) (by decide)) i30 (fun H locs σ31 eσ31 g => ?_)
      have h := h σ31 eσ31
      obtain ⟨x2_32, ex2_32⟩ : ∃ y : Int32, y = x2 + 1 := ⟨_, rfl⟩
      have h := h x2_32 ex2_32
      refine lv_iinc (v := x2_32) (lv' := [(2, .int x2_32), (9, .int x9_15), (8, .int x8_13), (7, .int x7_12), (6, .int x6_10), (5, .int r6), (4, .int x4_5), (3, .int x3_3), (0, .ref (ga E 1)), (1, .ref (ga E k1))]) C.1 C.2.1 dX10_settle_207 hl (k := 9) rfl (by rw [ex2_32]; rfl) (by decide) rfl (fun ls hl => ?_)
      refine lv_goto (tgt := 2) C.1 C.2.1 dX10_settle_210 (by decide) ?_
      exact ih x2_32 _ _ _ _ (lv_sub hl [8, 9, 0] rfl) g h
set_option maxHeartbeats 4000000 in
set_option maxRecDepth 100000 in
theorem tX10_settle_e {p : Program} {l : Launch} {e : Env} {s : State} {m : MethodId} {args : Array Value} {below : List Frame} {meth : Method} {c : Code} {E : EE} {base : Nat} (C : Cx p E base s m args meth c cX10_settle 10 RX10) (hr : meth.sig.returnType = none) {Q : St → Prop} {k1 : Nat} (hk1 : Stg k1) : ∀ (σ : St) (H : Heap) (locs : List Loc) (ls : Array Slot), lv_has ls 10 [(0, .ref (ga E 1)), (1, .ref (ga E k1))] → GW E base s σ H locs → wX10_settle k1 σ Q → W p l e rmX10_settle s m args below meth c H locs 0 0 (MQ below (QV E base Q) args s 0 0 (fun q => base ≤ q)) (F0 m 0 ls []) := by
  intro σ H locs ls hl g h
  refine lv_iconst (v := 0) C.1 C.2.1 dX10_settle_0 (by decide) ?_
  refine lv_istore_n (lv' := [(2, .int (0 : Int32)), (0, .ref (ga E 1)), (1, .ref (ga E k1))]) C.1 C.2.1 dX10_settle_1 rfl hl (by decide) rfl (fun ls hl => ?_)
  obtain ⟨j, h⟩ := h
  exact tX10_settle_2 C hr hk1 j (0 : Int32) _ _ _ _ (lv_sub hl [1, 2, 0] rfl) g h
theorem mX10_settle {l : Launch} {E : EE} {base : Nat} (k1 : Nat) (hk1 : Stg k1) (σ : St) (Q : St → Prop) (h : wX10_settle k1 σ Q) : Met l yX10_settle (wy yX10_settle cX10_settle 10 none) rmX10_settle (va_Pc [.ref (ga E 1), .ref (ga E k1)] (fun U => SW E base σ U)) (QV E base Q) (rmX10_settle).cells (rmX10_settle).slots (fun q => base ≤ q) :=
  met_of (by decide) (Nat.le_of_ble_eq_true rfl) (fun p e s m args below meth c C hr g ls hl => tX10_settle_e C hr hk1  _ _ _ _ hl g h)
abbrev rmX10_step : Room := { frames := 5, cells := 0, slots := 0, locals := 124 }
def wX10_step (k1 : Nat) (σ : St) (Q : St → Prop) : Prop := wX10_enter k1 σ (fun (σ2 : St) => wX10_settle k1 σ2 (fun (σ4 : St) => Q σ4))
set_option maxHeartbeats 4000000 in
set_option maxRecDepth 100000 in
theorem tX10_step_e {p : Program} {l : Launch} {e : Env} {s : State} {m : MethodId} {args : Array Value} {below : List Frame} {meth : Method} {c : Code} {E : EE} {base : Nat} (C : Cx p E base s m args meth c cX10_step 2 RX10) (hr : meth.sig.returnType = none) {Q : St → Prop} {k1 : Nat} (hk1 : Stg k1) : ∀ (σ : St) (H : Heap) (locs : List Loc) (ls : Array Slot), lv_has ls 2 [(0, .ref (ga E 1)), (1, .ref (ga E k1))] → GW E base s σ H locs → wX10_step k1 σ Q → W p l e rmX10_step s m args below meth c H locs 0 0 (MQ below (QV E base Q) args s 0 0 (fun q => base ≤ q)) (F0 m 0 ls []) := by
  intro σ H locs ls hl g h
  refine lv_aload_n C.1 C.2.1 dX10_step_0 rfl (lv_at hl 0 rfl) ?_
  refine lv_aload_n C.1 C.2.1 dX10_step_1 rfl (lv_at hl 1 rfl) ?_
  refine gx_callv0 g (gx_runV (k := 1) (rest := []) C g mb_X10_enter ml_X10_63 rfl sh_1 (mX10_enter k1 hk1 _ _ h) ⟨Nat.le_of_ble_eq_true rfl, Nat.le_of_ble_eq_true rfl⟩ ⟨Nat.le_refl _, Nat.le_refl _⟩ rfl hl.1 rfl (Nat.le_of_ble_eq_true rfl) dX10_step_2) rfl rfl (fun σ2 H locs h g => ?_)
  refine lv_aload_n C.1 C.2.1 dX10_step_5 rfl (lv_at hl 0 rfl) ?_
  refine lv_aload_n C.1 C.2.1 dX10_step_6 rfl (lv_at hl 1 rfl) ?_
  refine gx_callv0 g (gx_runV (k := 1) (rest := []) C g mb_X10_settle ml_X10_66 rfl sh_1 (mX10_settle k1 hk1 _ _ h) ⟨Nat.le_of_ble_eq_true rfl, Nat.le_of_ble_eq_true rfl⟩ ⟨Nat.le_refl _, Nat.le_refl _⟩ rfl hl.1 rfl (Nat.le_of_ble_eq_true rfl) dX10_step_7) rfl rfl (fun σ4 H locs h g => ?_)
  exact gx_vret C hr g dX10_step_10 h
theorem mX10_step {l : Launch} {E : EE} {base : Nat} (k1 : Nat) (hk1 : Stg k1) (σ : St) (Q : St → Prop) (h : wX10_step k1 σ Q) : Met l yX10_step (wy yX10_step cX10_step 2 none) rmX10_step (va_Pc [.ref (ga E 1), .ref (ga E k1)] (fun U => SW E base σ U)) (QV E base Q) (rmX10_step).cells (rmX10_step).slots (fun q => base ≤ q) :=
  met_of (by decide) (Nat.le_of_ble_eq_true rfl) (fun p e s m args below meth c C hr g ls hl => tX10_step_e C hr hk1  _ _ _ _ hl g h)
abbrev rmX10_run : Room := { frames := 6, cells := 0, slots := 0, locals := 145 }
def wX10_run_5 (k1 : Nat) (Q : St → Prop) : Nat → Int32 → Int32 → St → Prop
  | 0, _, _, _ => False
  | n + 1, x2, x3, σ => ((x2 ≤ x3 → Q σ) ∧ (¬ (x2 ≤ x3) → wX10_step k1 σ (fun (σ3 : St) => ∀ x3_4 : Int32, x3_4 = x3 + 1 → wX10_run_5 k1 Q n x2 x3_4 σ3)))
def wX10_run (k1 : Nat) (x2 : Int32) (σ : St) (Q : St → Prop) : Prop := ∀ x3_1 : Int32, x3_1 = gv σ k1 2 → ∃ j : Nat, wX10_run_5 k1 Q j x2 x3_1 σ
set_option maxHeartbeats 4000000 in
set_option maxRecDepth 100000 in
theorem tX10_run_5 {p : Program} {l : Launch} {e : Env} {s : State} {m : MethodId} {args : Array Value} {below : List Frame} {meth : Method} {c : Code} {E : EE} {base : Nat} (C : Cx p E base s m args meth c cX10_run 4 RX10) (hr : meth.sig.returnType = none) {Q : St → Prop} {k1 : Nat} (hk1 : Stg k1) : ∀ (n : Nat) (x2 : Int32) (x3 : Int32) (σ : St) (H : Heap) (locs : List Loc) (ls : Array Slot), lv_has ls 4 [(0, .ref (ga E 1)), (1, .ref (ga E k1)), (2, .int x2), (3, .int x3)] → GW E base s σ H locs → wX10_run_5 k1 Q n x2 x3 σ → W p l e rmX10_run s m args below meth c H locs 0 0 (MQ below (QV E base Q) args s 0 0 (fun q => base ≤ q)) (F0 m 5 ls []) := by
  intro n
  induction n with
  | zero => intro _ _; intros; exact False.elim (by assumption)
  | succ n ih =>
    intro x2 x3 σ H locs ls hl g h
    refine lv_iload_n C.1 C.2.1 dX10_run_5 rfl (lv_at hl 3 rfl) ?_
    refine lv_iload_n C.1 C.2.1 dX10_run_6 rfl (lv_at hl 2 rfl) ?_
    refine lv_icmp_ge (tgt := 21) C.1 C.2.1 dX10_run_7 (by decide) (fun c1 => ?_) (fun c1 => ?_)
    · have h := h.1 c1
      exact gx_vret C hr g dX10_run_21 h
    · have h := h.2 c1
      refine lv_aload_n C.1 C.2.1 dX10_run_10 rfl (lv_at hl 0 rfl) ?_
      refine lv_aload_n C.1 C.2.1 dX10_run_11 rfl (lv_at hl 1 rfl) ?_
      refine gx_callv0 g (gx_runV (k := 1) (rest := []) C g mb_X10_step ml_X10_55 rfl sh_1 (mX10_step k1 hk1 _ _ h) ⟨Nat.le_of_ble_eq_true rfl, Nat.le_of_ble_eq_true rfl⟩ ⟨Nat.le_refl _, Nat.le_refl _⟩ rfl hl.1 rfl (Nat.le_of_ble_eq_true rfl) dX10_run_12) rfl rfl (fun σ3 H locs h g => ?_)
      obtain ⟨x3_4, ex3_4⟩ : ∃ y : Int32, y = x3 + 1 := ⟨_, rfl⟩
      have h := h x3_4 ex3_4
      refine lv_iinc (v := x3_4) (lv' := [(3, .int x3_4), (0, .ref (ga E 1)), (1, .ref (ga E k1)), (2, .int x2)]) C.1 C.2.1 dX10_run_15 hl (k := 3) rfl (by rw [ex3_4]; rfl) (by decide) rfl (fun ls hl => ?_)
      refine lv_goto (tgt := 5) C.1 C.2.1 dX10_run_18 (by decide) ?_
      exact ih x2 x3_4 _ _ _ _ (lv_sub hl [1, 2, 3, 0] rfl) g h
set_option maxHeartbeats 4000000 in
set_option maxRecDepth 100000 in
theorem tX10_run_e {p : Program} {l : Launch} {e : Env} {s : State} {m : MethodId} {args : Array Value} {below : List Frame} {meth : Method} {c : Code} {E : EE} {base : Nat} (C : Cx p E base s m args meth c cX10_run 4 RX10) (hr : meth.sig.returnType = none) {Q : St → Prop} {k1 : Nat} (hk1 : Stg k1) : ∀ (x2 : Int32) (σ : St) (H : Heap) (locs : List Loc) (ls : Array Slot), lv_has ls 4 [(0, .ref (ga E 1)), (1, .ref (ga E k1)), (2, .int x2)] → GW E base s σ H locs → wX10_run k1 x2 σ Q → W p l e rmX10_run s m args below meth c H locs 0 0 (MQ below (QV E base Q) args s 0 0 (fun q => base ≤ q)) (F0 m 0 ls []) := by
  intro x2 σ H locs ls hl g h
  refine lv_aload_n C.1 C.2.1 dX10_run_0 rfl (lv_at hl 1 rfl) ?_
  refine gx_getI C g fl_X10_52 dX10_run_1 (stg_obj hk1) rfl ?_
  refine lv_topi (fun x3_1 ex3_1 => ?_)
  have h := h x3_1 ex3_1
  refine lv_istore_n (lv' := [(3, .int x3_1), (0, .ref (ga E 1)), (1, .ref (ga E k1)), (2, .int x2)]) C.1 C.2.1 dX10_run_4 rfl hl (by decide) rfl (fun ls hl => ?_)
  obtain ⟨j, h⟩ := h
  exact tX10_run_5 C hr hk1 j x2 x3_1 _ _ _ _ (lv_sub hl [1, 2, 3, 0] rfl) g h
theorem mX10_run {l : Launch} {E : EE} {base : Nat} (k1 : Nat) (x2 : Int32) (hk1 : Stg k1) (σ : St) (Q : St → Prop) (h : wX10_run k1 x2 σ Q) : Met l yX10_run (wy yX10_run cX10_run 4 none) rmX10_run (va_Pc [.ref (ga E 1), .ref (ga E k1), .int x2] (fun U => SW E base σ U)) (QV E base Q) (rmX10_run).cells (rmX10_run).slots (fun q => base ≤ q) :=
  met_of (by decide) (Nat.le_of_ble_eq_true rfl) (fun p e s m args below meth c C hr g ls hl => tX10_run_e C hr hk1 x2 _ _ _ _ hl g h)
abbrev rmX10_breach : Room := { frames := 4, cells := 0, slots := 0, locals := 92 }
def wX10_breach_92 (k1 : Nat) (Q : Int32 → St → Prop) (K14 : Int32 → Int32 → Int32 → St → Prop) (K54 : Int32 → Int32 → Int32 → Int32 → St → Prop) (x2 : Int32) (x4 : Int32) (x5 : Int32) (x6 : Int32) (σ : St) : Prop := ∀ x6_1 : Int32, x6_1 = x6 + 1 → K54 x2 x4 x5 x6_1 σ
def wX10_breach_54 (k1 : Nat) (Q : Int32 → St → Prop) (K14 : Int32 → Int32 → Int32 → St → Prop) : Nat → Int32 → Int32 → Int32 → Int32 → St → Prop
  | 0, _, _, _, _, _ => False
  | n + 1, x2, x4, x5, x6, σ => (((gv σ 8 1) ≤ x6 → ∀ x5_2 : Int32, x5_2 = x5 + 1 → K14 x2 x4 x5_2 σ) ∧ (¬ ((gv σ 8 1) ≤ x6) → wX2_isBroken x6 x5 σ (fun (r3 : Int32) (σ4 : St) => ((r3 = 0 → wX10_breach_92 k1 Q K14 (fun x2' x4' x5' x6' σ' => wX10_breach_54 k1 Q K14 n x2' x4' x5' x6' σ') x2 x4 x5 x6 σ4) ∧ (¬ (r3 = 0) → ((x4 = x2 → Q (((100 : Int32) * x5) + x6) σ4) ∧ (¬ (x4 = x2) → ∀ x4_7 : Int32, x4_7 = x4 + 1 → wX10_breach_92 k1 Q K14 (fun x2' x4' x5' x6' σ' => wX10_breach_54 k1 Q K14 n x2' x4' x5' x6' σ') x2 x4_7 x5 x6 σ4)))))))
def wX10_breach_14 (k1 : Nat) (Q : Int32 → St → Prop) : Nat → Int32 → Int32 → Int32 → St → Prop
  | 0, _, _, _, _ => False
  | n + 1, x2, x4, x5, σ => (((gv σ 2 4) ≤ x5 → Q (-1 : Int32) σ) ∧ (¬ ((gv σ 2 4) ≤ x5) → (((gv σ 8 1) ≤ 0 → Q (-1 : Int32) σ) ∧ (¬ ((gv σ 8 1) ≤ 0) → wX2_look k1 x5 σ (fun (σ4 : St) => wX2_seeOutcome k1 x5 σ4 (fun (σ6 : St) => ∃ j : Nat, wX10_breach_54 k1 Q (fun x2' x4' x5' σ' => wX10_breach_14 k1 Q n x2' x4' x5' σ') j x2 x4 x5 (0 : Int32) σ6))))))
def wX10_breach (k1 : Nat) (x2 : Int32) (σ : St) (Q : Int32 → St → Prop) : Prop := ∃ j : Nat, wX10_breach_14 k1 Q j x2 (0 : Int32) (0 : Int32) σ
set_option maxHeartbeats 4000000 in
set_option maxRecDepth 100000 in
theorem tX10_breach_92 {p : Program} {l : Launch} {e : Env} {s : State} {m : MethodId} {args : Array Value} {below : List Frame} {meth : Method} {c : Code} {E : EE} {base : Nat} (C : Cx p E base s m args meth c cX10_breach 7 RX10) (hr : meth.sig.returnType = (some .int)) {Q : Int32 → St → Prop} {k1 : Nat} (hk1 : Stg k1) {K14 : Int32 → Int32 → Int32 → St → Prop} (hK14 : ∀ (x2 : Int32) (x4 : Int32) (x5 : Int32) (σ : St) (H : Heap) (locs : List Loc) (ls : Array Slot), lv_has ls 7 [(0, .ref (ga E 1)), (1, .ref (ga E k1)), (2, .int x2), (3, .ref (ga E 8)), (4, .int x4), (5, .int x5)] → GW E base s σ H locs → K14 x2 x4 x5 σ → W p l e rmX10_breach s m args below meth c H locs 0 0 (MQ below (QI E base Q) args s 0 0 (fun q => base ≤ q)) (F0 m 14 ls [])) {K54 : Int32 → Int32 → Int32 → Int32 → St → Prop} (hK54 : ∀ (x2 : Int32) (x4 : Int32) (x5 : Int32) (x6 : Int32) (σ : St) (H : Heap) (locs : List Loc) (ls : Array Slot), lv_has ls 7 [(0, .ref (ga E 1)), (1, .ref (ga E k1)), (2, .int x2), (3, .ref (ga E 8)), (4, .int x4), (5, .int x5), (6, .int x6)] → GW E base s σ H locs → K54 x2 x4 x5 x6 σ → W p l e rmX10_breach s m args below meth c H locs 0 0 (MQ below (QI E base Q) args s 0 0 (fun q => base ≤ q)) (F0 m 54 ls [])) : ∀ (x2 : Int32) (x4 : Int32) (x5 : Int32) (x6 : Int32) (σ : St) (H : Heap) (locs : List Loc) (ls : Array Slot), lv_has ls 7 [(0, .ref (ga E 1)), (1, .ref (ga E k1)), (2, .int x2), (3, .ref (ga E 8)), (4, .int x4), (5, .int x5), (6, .int x6)] → GW E base s σ H locs → wX10_breach_92 k1 Q K14 K54 x2 x4 x5 x6 σ → W p l e rmX10_breach s m args below meth c H locs 0 0 (MQ below (QI E base Q) args s 0 0 (fun q => base ≤ q)) (F0 m 92 ls []) := by
  intro x2 x4 x5 x6 σ H locs ls hl g h
  obtain ⟨x6_1, ex6_1⟩ : ∃ y : Int32, y = x6 + 1 := ⟨_, rfl⟩
  have h := h x6_1 ex6_1
  refine lv_iinc (v := x6_1) (lv' := [(6, .int x6_1), (0, .ref (ga E 1)), (1, .ref (ga E k1)), (2, .int x2), (3, .ref (ga E 8)), (4, .int x4), (5, .int x5)]) C.1 C.2.1 dX10_breach_92 hl (k := 6) rfl (by rw [ex6_1]; rfl) (by decide) rfl (fun ls hl => ?_)
  refine lv_goto (tgt := 54) C.1 C.2.1 dX10_breach_95 (by decide) ?_
  exact hK54 x2 x4 x5 x6_1 _ _ _ _ (lv_sub hl [1, 2, 3, 4, 5, 6, 0] rfl) g h
set_option maxHeartbeats 4000000 in
set_option maxRecDepth 100000 in
theorem tX10_breach_54 {p : Program} {l : Launch} {e : Env} {s : State} {m : MethodId} {args : Array Value} {below : List Frame} {meth : Method} {c : Code} {E : EE} {base : Nat} (C : Cx p E base s m args meth c cX10_breach 7 RX10) (hr : meth.sig.returnType = (some .int)) {Q : Int32 → St → Prop} {k1 : Nat} (hk1 : Stg k1) {K14 : Int32 → Int32 → Int32 → St → Prop} (hK14 : ∀ (x2 : Int32) (x4 : Int32) (x5 : Int32) (σ : St) (H : Heap) (locs : List Loc) (ls : Array Slot), lv_has ls 7 [(0, .ref (ga E 1)), (1, .ref (ga E k1)), (2, .int x2), (3, .ref (ga E 8)), (4, .int x4), (5, .int x5)] → GW E base s σ H locs → K14 x2 x4 x5 σ → W p l e rmX10_breach s m args below meth c H locs 0 0 (MQ below (QI E base Q) args s 0 0 (fun q => base ≤ q)) (F0 m 14 ls [])) : ∀ (n : Nat) (x2 : Int32) (x4 : Int32) (x5 : Int32) (x6 : Int32) (σ : St) (H : Heap) (locs : List Loc) (ls : Array Slot), lv_has ls 7 [(0, .ref (ga E 1)), (1, .ref (ga E k1)), (2, .int x2), (3, .ref (ga E 8)), (4, .int x4), (5, .int x5), (6, .int x6)] → GW E base s σ H locs → wX10_breach_54 k1 Q K14 n x2 x4 x5 x6 σ → W p l e rmX10_breach s m args below meth c H locs 0 0 (MQ below (QI E base Q) args s 0 0 (fun q => base ≤ q)) (F0 m 54 ls []) := by
  intro n
  induction n with
  | zero => intro _ _ _ _; intros; exact False.elim (by assumption)
  | succ n ih =>
    intro x2 x4 x5 x6 σ H locs ls hl g h
    refine lv_iload C.1 C.2.1 dX10_breach_54 (lv_at hl 6 rfl) ?_
    refine lv_aload_n C.1 C.2.1 dX10_breach_56 rfl (lv_at hl 3 rfl) ?_
    refine gx_getI C g fl_X10_131 dX10_breach_57 sh_8 rfl ?_
    refine lv_icmp_ge (tgt := 98) C.1 C.2.1 dX10_breach_60 (by decide) (fun c1 => ?_) (fun c1 => ?_)
    · have h := h.1 c1
      obtain ⟨x5_2, ex5_2⟩ : ∃ y : Int32, y = x5 + 1 := ⟨_, rfl⟩
      have h := h x5_2 ex5_2
      refine lv_iinc (v := x5_2) (lv' := [(5, .int x5_2), (0, .ref (ga E 1)), (1, .ref (ga E k1)), (2, .int x2), (3, .ref (ga E 8)), (4, .int x4), (6, .int x6)]) C.1 C.2.1 dX10_breach_98 hl (k := 5) rfl (by rw [ex5_2]; rfl) (by decide) rfl (fun ls hl => ?_)
      refine lv_goto (tgt := 14) C.1 C.2.1 dX10_breach_101 (by decide) ?_
      exact hK14 x2 x4 x5_2 _ _ _ _ (lv_sub hl [1, 2, 3, 4, 5, 0] rfl) g h
    · have h := h.2 c1
      refine lv_aload_n C.1 C.2.1 dX10_breach_63 rfl (lv_at hl 3 rfl) ?_
      refine lv_iload C.1 C.2.1 dX10_breach_64 (lv_at hl 6 rfl) ?_
      refine lv_iload C.1 C.2.1 dX10_breach_66 (lv_at hl 5 rfl) ?_
      refine gx_calli0 g (gx_runV (k := 8) (rest := []) C g mb_X2_isBroken ml_X10_142 rfl sh_8 (mX2_isBroken x6 x5 _ _ h) ⟨Nat.le_of_ble_eq_true rfl, Nat.le_of_ble_eq_true rfl⟩ ⟨Nat.le_refl _, Nat.le_refl _⟩ rfl hl.1 rfl (Nat.le_of_ble_eq_true rfl) dX10_breach_68) rfl rfl (fun r3 σ4 H locs h g => ?_)
      refine lv_if_eq (tgt := 92) C.1 C.2.1 dX10_breach_71 (by decide) (fun c5 => ?_) (fun c5 => ?_)
      · have h := h.1 c5
        exact tX10_breach_92 C hr hk1 hK14 ih x2 x4 x5 x6 _ _ _ _ (lv_sub hl [0, 1, 2, 3, 4, 5, 6] rfl) g h
      · have h := h.2 c5
        refine lv_iload C.1 C.2.1 dX10_breach_74 (lv_at hl 4 rfl) ?_
        refine lv_iload_n C.1 C.2.1 dX10_breach_76 rfl (lv_at hl 2 rfl) ?_
        refine lv_icmp_ne (tgt := 89) C.1 C.2.1 dX10_breach_77 (by decide) (fun c6 => ?_) (fun c6 => ?_)
        · have h := h.2 c6
          obtain ⟨x4_7, ex4_7⟩ : ∃ y : Int32, y = x4 + 1 := ⟨_, rfl⟩
          have h := h x4_7 ex4_7
          refine lv_iinc (v := x4_7) (lv' := [(4, .int x4_7), (0, .ref (ga E 1)), (1, .ref (ga E k1)), (2, .int x2), (3, .ref (ga E 8)), (5, .int x5), (6, .int x6)]) C.1 C.2.1 dX10_breach_89 hl (k := 4) rfl (by rw [ex4_7]; rfl) (by decide) rfl (fun ls hl => ?_)
          exact tX10_breach_92 C hr hk1 hK14 ih x2 x4_7 x5 x6 _ _ _ _ (lv_sub hl [1, 2, 3, 4, 0, 5, 6] rfl) g h
        · have h := h.1 c6
          refine lv_bipush (v := 100) C.1 C.2.1 dX10_breach_80 (by decide) ?_
          refine lv_iload C.1 C.2.1 dX10_breach_82 (lv_at hl 5 rfl) ?_
          refine lv_imul C.1 C.2.1 dX10_breach_84 ?_
          refine lv_iload C.1 C.2.1 dX10_breach_85 (lv_at hl 6 rfl) ?_
          refine lv_iadd C.1 C.2.1 dX10_breach_87 ?_
          exact gx_iret C hr g dX10_breach_88 h
set_option maxHeartbeats 4000000 in
set_option maxRecDepth 100000 in
theorem tX10_breach_14 {p : Program} {l : Launch} {e : Env} {s : State} {m : MethodId} {args : Array Value} {below : List Frame} {meth : Method} {c : Code} {E : EE} {base : Nat} (C : Cx p E base s m args meth c cX10_breach 7 RX10) (hr : meth.sig.returnType = (some .int)) {Q : Int32 → St → Prop} {k1 : Nat} (hk1 : Stg k1) : ∀ (n : Nat) (x2 : Int32) (x4 : Int32) (x5 : Int32) (σ : St) (H : Heap) (locs : List Loc) (ls : Array Slot), lv_has ls 7 [(0, .ref (ga E 1)), (1, .ref (ga E k1)), (2, .int x2), (3, .ref (ga E 8)), (4, .int x4), (5, .int x5)] → GW E base s σ H locs → wX10_breach_14 k1 Q n x2 x4 x5 σ → W p l e rmX10_breach s m args below meth c H locs 0 0 (MQ below (QI E base Q) args s 0 0 (fun q => base ≤ q)) (F0 m 14 ls []) := by
  intro n
  induction n with
  | zero => intro _ _ _; intros; exact False.elim (by assumption)
  | succ n ih =>
    intro x2 x4 x5 σ H locs ls hl g h
    refine lv_iload C.1 C.2.1 dX10_breach_14 (lv_at hl 5 rfl) ?_
    refine lv_aload_n C.1 C.2.1 dX10_breach_16 rfl (lv_at hl 0 rfl) ?_
    refine gx_getR C g fl_X10_12 dX10_breach_17 sh_1 rfl (by decide) ?_
    refine gx_getI C g fl_X10_69 dX10_breach_20 sh_2 rfl ?_
    refine lv_icmp_ge (tgt := 104) C.1 C.2.1 dX10_breach_23 (by decide) (fun c1 => ?_) (fun c1 => ?_)
    · have h := h.1 c1
      refine lv_iconst (v := -1) C.1 C.2.1 dX10_breach_104 (by decide) ?_
      exact gx_iret C hr g dX10_breach_105 h
    · have h := h.2 c1
      refine lv_aload_n C.1 C.2.1 dX10_breach_26 rfl (lv_at hl 3 rfl) ?_
      refine gx_getI C g fl_X10_131 dX10_breach_27 sh_8 rfl ?_
      refine lv_if_le (tgt := 104) C.1 C.2.1 dX10_breach_30 (by decide) (fun c2 => ?_) (fun c2 => ?_)
      · have h := h.1 c2
        refine lv_iconst (v := -1) C.1 C.2.1 dX10_breach_104 (by decide) ?_
        exact gx_iret C hr g dX10_breach_105 h
      · have h := h.2 c2
        refine lv_aload_n C.1 C.2.1 dX10_breach_33 rfl (lv_at hl 3 rfl) ?_
        refine lv_aload_n C.1 C.2.1 dX10_breach_34 rfl (lv_at hl 1 rfl) ?_
        refine lv_iload C.1 C.2.1 dX10_breach_35 (lv_at hl 5 rfl) ?_
        refine lv_aload_n C.1 C.2.1 dX10_breach_37 rfl (lv_at hl 0 rfl) ?_
        refine gx_getR C g fl_X10_12 dX10_breach_38 sh_1 rfl (by decide) ?_
        refine gx_callv0 g (gx_runV (k := 8) (rest := []) C g mb_X2_look ml_X10_134 rfl sh_8 (mX2_look k1 x5 hk1 _ _ h) ⟨Nat.le_of_ble_eq_true rfl, Nat.le_of_ble_eq_true rfl⟩ ⟨Nat.le_refl _, Nat.le_refl _⟩ rfl hl.1 rfl (Nat.le_of_ble_eq_true rfl) dX10_breach_41) rfl rfl (fun σ4 H locs h g => ?_)
        refine lv_aload_n C.1 C.2.1 dX10_breach_44 rfl (lv_at hl 3 rfl) ?_
        refine lv_aload_n C.1 C.2.1 dX10_breach_45 rfl (lv_at hl 1 rfl) ?_
        refine lv_iload C.1 C.2.1 dX10_breach_46 (lv_at hl 5 rfl) ?_
        refine gx_callv0 g (gx_runV (k := 8) (rest := []) C g mb_X2_seeOutcome ml_X10_138 rfl sh_8 (mX2_seeOutcome k1 x5 hk1 _ _ h) ⟨Nat.le_of_ble_eq_true rfl, Nat.le_of_ble_eq_true rfl⟩ ⟨Nat.le_refl _, Nat.le_refl _⟩ rfl hl.1 rfl (Nat.le_of_ble_eq_true rfl) dX10_breach_48) rfl rfl (fun σ6 H locs h g => ?_)
        refine lv_iconst (v := 0) C.1 C.2.1 dX10_breach_51 (by decide) ?_
        refine lv_istore (lv' := [(6, .int (0 : Int32)), (0, .ref (ga E 1)), (1, .ref (ga E k1)), (2, .int x2), (3, .ref (ga E 8)), (4, .int x4), (5, .int x5)]) C.1 C.2.1 dX10_breach_52 hl (by decide) rfl (fun ls hl => ?_)
        obtain ⟨j, h⟩ := h
        exact tX10_breach_54 C hr hk1 ih j x2 x4 x5 (0 : Int32) _ _ _ _ (lv_sub hl [1, 2, 3, 4, 5, 6, 0] rfl) g h
set_option maxHeartbeats 4000000 in
set_option maxRecDepth 100000 in
theorem tX10_breach_e {p : Program} {l : Launch} {e : Env} {s : State} {m : MethodId} {args : Array Value} {below : List Frame} {meth : Method} {c : Code} {E : EE} {base : Nat} (C : Cx p E base s m args meth c cX10_breach 7 RX10) (hr : meth.sig.returnType = (some .int)) {Q : Int32 → St → Prop} {k1 : Nat} (hk1 : Stg k1) : ∀ (x2 : Int32) (σ : St) (H : Heap) (locs : List Loc) (ls : Array Slot), lv_has ls 7 [(0, .ref (ga E 1)), (1, .ref (ga E k1)), (2, .int x2)] → GW E base s σ H locs → wX10_breach k1 x2 σ Q → W p l e rmX10_breach s m args below meth c H locs 0 0 (MQ below (QI E base Q) args s 0 0 (fun q => base ≤ q)) (F0 m 0 ls []) := by
  intro x2 σ H locs ls hl g h
  refine lv_aload_n C.1 C.2.1 dX10_breach_0 rfl (lv_at hl 0 rfl) ?_
  refine gx_getR C g fl_X10_35 dX10_breach_1 sh_1 rfl (by decide) ?_
  refine gx_getR C g fl_X10_99 dX10_breach_4 sh_5 rfl (by decide) ?_
  refine lv_astore_n (lv' := [(3, .ref (ga E 8)), (0, .ref (ga E 1)), (1, .ref (ga E k1)), (2, .int x2)]) C.1 C.2.1 dX10_breach_7 rfl hl (by decide) rfl (fun ls hl => ?_)
  refine lv_iconst (v := 0) C.1 C.2.1 dX10_breach_8 (by decide) ?_
  refine lv_istore (lv' := [(4, .int (0 : Int32)), (3, .ref (ga E 8)), (0, .ref (ga E 1)), (1, .ref (ga E k1)), (2, .int x2)]) C.1 C.2.1 dX10_breach_9 hl (by decide) rfl (fun ls hl => ?_)
  refine lv_iconst (v := 0) C.1 C.2.1 dX10_breach_11 (by decide) ?_
  refine lv_istore (lv' := [(5, .int (0 : Int32)), (4, .int (0 : Int32)), (3, .ref (ga E 8)), (0, .ref (ga E 1)), (1, .ref (ga E k1)), (2, .int x2)]) C.1 C.2.1 dX10_breach_12 hl (by decide) rfl (fun ls hl => ?_)
  obtain ⟨j, h⟩ := h
  exact tX10_breach_14 C hr hk1 j x2 (0 : Int32) (0 : Int32) _ _ _ _ (lv_sub hl [3, 4, 5, 2, 1, 0] rfl) g h
theorem mX10_breach {l : Launch} {E : EE} {base : Nat} (k1 : Nat) (x2 : Int32) (hk1 : Stg k1) (σ : St) (Q : Int32 → St → Prop) (h : wX10_breach k1 x2 σ Q) : Met l yX10_breach (wy yX10_breach cX10_breach 7 (some .int)) rmX10_breach (va_Pc [.ref (ga E 1), .ref (ga E k1), .int x2] (fun U => SW E base σ U)) (QI E base Q) (rmX10_breach).cells (rmX10_breach).slots (fun q => base ≤ q) :=
  met_of (by decide) (Nat.le_of_ble_eq_true rfl) (fun p e s m args below meth c C hr g ls hl => tX10_breach_e C hr hk1 x2 _ _ _ _ hl g h)
abbrev rmX10_worked : Room := { frames := 6, cells := 0, slots := 0, locals := 145 }
def wX10_worked_44 (k1 : Nat) (Q : Int32 → St → Prop) (K11 : Int32 → Int32 → Int32 → Int32 → Int32 → St → Prop) (x2 : Int32) (x3 : Int32) (x4 : Int32) (x6 : Int32) (xt0 : Int32) (xt1 : Int32) (σ : St) : Prop := ∀ x5_1 : Int32, x5_1 = xt0 + xt1 → ∀ x6_2 : Int32, x6_2 = x6 + 1 → K11 x2 x3 x4 x5_1 x6_2 σ
def wX10_worked_11 (k1 : Nat) (Q : Int32 → St → Prop) : Nat → Int32 → Int32 → Int32 → Int32 → Int32 → St → Prop
  | 0, _, _, _, _, _, _ => False
  | n + 1, x2, x3, x4, x5, x6, σ => ((x4 ≤ x6 → Q x5 σ) ∧ (¬ (x4 ≤ x6) → wX10_step k1 σ (fun (σ3 : St) => ((x6 < x3 → wX10_worked_44 k1 Q (fun x2' x3' x4' x5' x6' σ' => wX10_worked_11 k1 Q n x2' x3' x4' x5' x6' σ') x2 x3 x4 x6 x5 (0 : Int32) σ3) ∧ (¬ (x6 < x3) → vp_in x2 7 ∧ wX10_worked_44 k1 Q (fun x2' x3' x4' x5' x6' σ' => wX10_worked_11 k1 Q n x2' x3' x4' x5' x6' σ') x2 x3 x4 x6 x5 (gv σ3 (k1 + 9) x2.toNatClampNeg) σ3)))))
def wX10_worked (k1 : Nat) (x2 : Int32) (x3 : Int32) (x4 : Int32) (σ : St) (Q : Int32 → St → Prop) : Prop := ∀ x6_1 : Int32, x6_1 = (gv σ k1 2) + (1 : Int32) → ∃ j : Nat, wX10_worked_11 k1 Q j x2 x3 x4 (0 : Int32) x6_1 σ
set_option maxHeartbeats 4000000 in
set_option maxRecDepth 100000 in
theorem tX10_worked_44 {p : Program} {l : Launch} {e : Env} {s : State} {m : MethodId} {args : Array Value} {below : List Frame} {meth : Method} {c : Code} {E : EE} {base : Nat} (C : Cx p E base s m args meth c cX10_worked 7 RX10) (hr : meth.sig.returnType = (some .int)) {Q : Int32 → St → Prop} {k1 : Nat} (hk1 : Stg k1) {K11 : Int32 → Int32 → Int32 → Int32 → Int32 → St → Prop} (hK11 : ∀ (x2 : Int32) (x3 : Int32) (x4 : Int32) (x5 : Int32) (x6 : Int32) (σ : St) (H : Heap) (locs : List Loc) (ls : Array Slot), lv_has ls 7 [(0, .ref (ga E 1)), (1, .ref (ga E k1)), (2, .int x2), (3, .int x3), (4, .int x4), (5, .int x5), (6, .int x6)] → GW E base s σ H locs → K11 x2 x3 x4 x5 x6 σ → W p l e rmX10_worked s m args below meth c H locs 0 0 (MQ below (QI E base Q) args s 0 0 (fun q => base ≤ q)) (F0 m 11 ls [])) : ∀ (x2 : Int32) (x3 : Int32) (x4 : Int32) (x6 : Int32) (xt0 : Int32) (xt1 : Int32) (σ : St) (H : Heap) (locs : List Loc) (ls : Array Slot), lv_has ls 7 [(0, .ref (ga E 1)), (1, .ref (ga E k1)), (2, .int x2), (3, .int x3), (4, .int x4), (6, .int x6)] → GW E base s σ H locs → wX10_worked_44 k1 Q K11 x2 x3 x4 x6 xt0 xt1 σ → W p l e rmX10_worked s m args below meth c H locs 0 0 (MQ below (QI E base Q) args s 0 0 (fun q => base ≤ q)) (F0 m 44 ls [.int xt1, .int xt0]) := by
  intro x2 x3 x4 x6 xt0 xt1 σ H locs ls hl g h
  refine lv_iadd C.1 C.2.1 dX10_worked_44 ?_
  refine lv_topi (fun x5_1 ex5_1 => ?_)
  have h := h x5_1 ex5_1
  refine lv_istore (lv' := [(5, .int x5_1), (0, .ref (ga E 1)), (1, .ref (ga E k1)), (2, .int x2), (3, .int x3), (4, .int x4), (6, .int x6)]) C.1 C.2.1 dX10_worked_45 hl (by decide) rfl (fun ls hl => ?_)
  obtain ⟨x6_2, ex6_2⟩ : ∃ y : Int32, y = x6 + 1 := ⟨_, rfl⟩
  have h := h x6_2 ex6_2
  refine lv_iinc (v := x6_2) (lv' := [(6, .int x6_2), (5, .int x5_1), (0, .ref (ga E 1)), (1, .ref (ga E k1)), (2, .int x2), (3, .int x3), (4, .int x4)]) C.1 C.2.1 dX10_worked_47 hl (k := 6) rfl (by rw [ex6_2]; rfl) (by decide) rfl (fun ls hl => ?_)
  refine lv_goto (tgt := 11) C.1 C.2.1 dX10_worked_50 (by decide) ?_
  exact hK11 x2 x3 x4 x5_1 x6_2 _ _ _ _ (lv_sub hl [2, 3, 4, 5, 6, 1, 0] rfl) g h
set_option maxHeartbeats 4000000 in
set_option maxRecDepth 100000 in
theorem tX10_worked_11 {p : Program} {l : Launch} {e : Env} {s : State} {m : MethodId} {args : Array Value} {below : List Frame} {meth : Method} {c : Code} {E : EE} {base : Nat} (C : Cx p E base s m args meth c cX10_worked 7 RX10) (hr : meth.sig.returnType = (some .int)) {Q : Int32 → St → Prop} {k1 : Nat} (hk1 : Stg k1) : ∀ (n : Nat) (x2 : Int32) (x3 : Int32) (x4 : Int32) (x5 : Int32) (x6 : Int32) (σ : St) (H : Heap) (locs : List Loc) (ls : Array Slot), lv_has ls 7 [(0, .ref (ga E 1)), (1, .ref (ga E k1)), (2, .int x2), (3, .int x3), (4, .int x4), (5, .int x5), (6, .int x6)] → GW E base s σ H locs → wX10_worked_11 k1 Q n x2 x3 x4 x5 x6 σ → W p l e rmX10_worked s m args below meth c H locs 0 0 (MQ below (QI E base Q) args s 0 0 (fun q => base ≤ q)) (F0 m 11 ls []) := by
  intro n
  induction n with
  | zero => intro _ _ _ _ _; intros; exact False.elim (by assumption)
  | succ n ih =>
    intro x2 x3 x4 x5 x6 σ H locs ls hl g h
    refine lv_iload C.1 C.2.1 dX10_worked_11 (lv_at hl 6 rfl) ?_
    refine lv_iload C.1 C.2.1 dX10_worked_13 (lv_at hl 4 rfl) ?_
    refine lv_icmp_ge (tgt := 53) C.1 C.2.1 dX10_worked_15 (by decide) (fun c1 => ?_) (fun c1 => ?_)
    · have h := h.1 c1
      refine lv_iload C.1 C.2.1 dX10_worked_53 (lv_at hl 5 rfl) ?_
      exact gx_iret C hr g dX10_worked_55 h
    · have h := h.2 c1
      refine lv_aload_n C.1 C.2.1 dX10_worked_18 rfl (lv_at hl 0 rfl) ?_
      refine lv_aload_n C.1 C.2.1 dX10_worked_19 rfl (lv_at hl 1 rfl) ?_
      refine gx_callv0 g (gx_runV (k := 1) (rest := []) C g mb_X10_step ml_X10_55 rfl sh_1 (mX10_step k1 hk1 _ _ h) ⟨Nat.le_of_ble_eq_true rfl, Nat.le_of_ble_eq_true rfl⟩ ⟨Nat.le_refl _, Nat.le_refl _⟩ rfl hl.1 rfl (Nat.le_of_ble_eq_true rfl) dX10_worked_20) rfl rfl (fun σ3 H locs h g => ?_)
      refine lv_iload C.1 C.2.1 dX10_worked_23 (lv_at hl 5 rfl) ?_
      refine lv_iload C.1 C.2.1 dX10_worked_25 (lv_at hl 6 rfl) ?_
      refine lv_iload_n C.1 C.2.1 dX10_worked_27 rfl (lv_at hl 3 rfl) ?_
      refine lv_icmp_lt (tgt := 43) C.1 C.2.1 dX10_worked_28 (by decide) (fun c4 => ?_) (fun c4 => ?_)
      · have h := h.1 c4
        refine lv_iconst (v := 0) C.1 C.2.1 dX10_worked_43 (by decide) ?_
        exact tX10_worked_44 C hr hk1 ih x2 x3 x4 x6 x5 (0 : Int32) _ _ _ _ (lv_sub hl [0, 1, 2, 3, 4, 6] rfl) g h
      · have h := h.2 c4
        refine lv_aload_n C.1 C.2.1 dX10_worked_31 rfl (lv_at hl 1 rfl) ?_
        refine gx_getR C g fl_X10_59 dX10_worked_32 (stg_obj hk1) rfl (stg_ne hk1 1) ?_
        refine lv_bipush (v := 6) C.1 C.2.1 dX10_worked_35 (by decide) ?_
        refine gx_aald (r := (k1 + 9)) C g dX10_worked_37 (stg_row hk1) (Or.inr rfl) vi_6 rfl (stg_ne hk1 9) ?_
        refine lv_iload_n C.1 C.2.1 dX10_worked_38 rfl (lv_at hl 2 rfl) ?_
        obtain ⟨i5, h⟩ := h
        refine gx_iald C g dX10_worked_39 (stg_arr hk1 9 (by decide) (by decide)) i5 ?_
        refine lv_goto (tgt := 44) C.1 C.2.1 dX10_worked_40 (by decide) ?_
        exact tX10_worked_44 C hr hk1 ih x2 x3 x4 x6 x5 (gv σ3 (k1 + 9) x2.toNatClampNeg) _ _ _ _ (lv_sub hl [0, 1, 2, 3, 4, 6] rfl) g h
set_option maxHeartbeats 4000000 in
set_option maxRecDepth 100000 in
theorem tX10_worked_e {p : Program} {l : Launch} {e : Env} {s : State} {m : MethodId} {args : Array Value} {below : List Frame} {meth : Method} {c : Code} {E : EE} {base : Nat} (C : Cx p E base s m args meth c cX10_worked 7 RX10) (hr : meth.sig.returnType = (some .int)) {Q : Int32 → St → Prop} {k1 : Nat} (hk1 : Stg k1) : ∀ (x2 : Int32) (x3 : Int32) (x4 : Int32) (σ : St) (H : Heap) (locs : List Loc) (ls : Array Slot), lv_has ls 7 [(0, .ref (ga E 1)), (1, .ref (ga E k1)), (2, .int x2), (3, .int x3), (4, .int x4)] → GW E base s σ H locs → wX10_worked k1 x2 x3 x4 σ Q → W p l e rmX10_worked s m args below meth c H locs 0 0 (MQ below (QI E base Q) args s 0 0 (fun q => base ≤ q)) (F0 m 0 ls []) := by
  intro x2 x3 x4 σ H locs ls hl g h
  refine lv_iconst (v := 0) C.1 C.2.1 dX10_worked_0 (by decide) ?_
  refine lv_istore (lv' := [(5, .int (0 : Int32)), (0, .ref (ga E 1)), (1, .ref (ga E k1)), (2, .int x2), (3, .int x3), (4, .int x4)]) C.1 C.2.1 dX10_worked_1 hl (by decide) rfl (fun ls hl => ?_)
  refine lv_aload_n C.1 C.2.1 dX10_worked_3 rfl (lv_at hl 2 rfl) ?_
  refine gx_getI C g fl_X10_52 dX10_worked_4 (stg_obj hk1) rfl ?_
  refine lv_iconst (v := 1) C.1 C.2.1 dX10_worked_7 (by decide) ?_
  refine lv_iadd C.1 C.2.1 dX10_worked_8 ?_
  refine lv_topi (fun x6_1 ex6_1 => ?_)
  have h := h x6_1 ex6_1
  refine lv_istore (lv' := [(6, .int x6_1), (5, .int (0 : Int32)), (0, .ref (ga E 1)), (1, .ref (ga E k1)), (2, .int x2), (3, .int x3), (4, .int x4)]) C.1 C.2.1 dX10_worked_9 hl (by decide) rfl (fun ls hl => ?_)
  obtain ⟨j, h⟩ := h
  exact tX10_worked_11 C hr hk1 j x2 x3 x4 (0 : Int32) x6_1 _ _ _ _ (lv_sub hl [2, 3, 4, 5, 6, 1, 0] rfl) g h
theorem mX10_worked {l : Launch} {E : EE} {base : Nat} (k1 : Nat) (x2 : Int32) (x3 : Int32) (x4 : Int32) (hk1 : Stg k1) (σ : St) (Q : Int32 → St → Prop) (h : wX10_worked k1 x2 x3 x4 σ Q) : Met l yX10_worked (wy yX10_worked cX10_worked 7 (some .int)) rmX10_worked (va_Pc [.ref (ga E 1), .ref (ga E k1), .int x2, .int x3, .int x4] (fun U => SW E base σ U)) (QI E base Q) (rmX10_worked).cells (rmX10_worked).slots (fun q => base ≤ q) :=
  met_of (by decide) (Nat.le_of_ble_eq_true rfl) (fun p e s m args below meth c C hr g ls hl => tX10_worked_e C hr hk1 x2 x3 x4 _ _ _ _ hl g h)
