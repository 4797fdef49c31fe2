abbrev rmX5_ask : Room := { frames := 2, cells := 0, slots := 0, locals := 36 }
def wX5_ask (x1 : Int32) (x2 : Int32) (x3 : Int32) (σ : St) (Q : St → Prop) : Prop := ∀ σ1 : St, σ1 = pv σ 10 6 x1 → ∀ σ2 : St, σ2 = pv σ1 10 7 x2 → ∀ σ3 : St, σ3 = pv σ2 10 8 x3 → wX3_mostWork x1 σ3 (fun (r4 : Int32) (σ5 : St) => ∀ σ6 : St, σ6 = pv σ5 10 9 r4 → vp_in x1 7 ∧ ∀ σ8 : St, σ8 = pv σ6 10 10 (gv σ6 14 x1.toNatClampNeg) → ∀ σ9 : St, σ9 = pv σ8 10 5 (2147483647 : Int32) → Q σ9)
set_option maxHeartbeats 4000000 in
set_option maxRecDepth 100000 in
theorem tX5_ask_e {p : Program} {l : Launch} {e : Env} {s : State} {m : MethodId} {args : Array Value} {below : List Frame} {meth : Method} {c : Code} {E : EE} {base : Nat} (C : Cx p E base s m args meth c cX5_ask 5 RX5) (hr : meth.sig.returnType = none) {Q : St → Prop} : ∀ (x1 : Int32) (x2 : Int32) (x3 : Int32) (σ : St) (H : Heap) (locs : List Loc) (ls : Array Slot), lv_has ls 5 [(0, .ref (ga E 10)), (1, .int x1), (2, .int x2), (3, .int x3), (4, .ref (ga E 2))] → GW E base s σ H locs → wX5_ask x1 x2 x3 σ Q → W p l e rmX5_ask s m args below meth c H locs 0 0 (MQ below (QV E base Q) args s 0 0 (fun q => base ≤ q)) (F0 m 0 ls []) := by
  intro x1 x2 x3 σ H locs ls hl g h
  refine lv_aload_n C.1 C.2.1 dX5_ask_0 rfl (lv_at hl 0 rfl) ?_
  refine lv_iload_n C.1 C.2.1 dX5_ask_1 rfl (lv_at hl 1 rfl) ?_
  refine gx_putI C g fi_X5_32 dX5_ask_2 sh_10 rfl (fun H locs σ1 eσ1 g => ?_)
  have h := h σ1 eσ1
  refine lv_aload_n C.1 C.2.1 dX5_ask_5 rfl (lv_at hl 0 rfl) ?_
  refine lv_iload_n C.1 C.2.1 dX5_ask_6 rfl (lv_at hl 2 rfl) ?_
  refine gx_putI C g fi_X5_35 dX5_ask_7 sh_10 rfl (fun H locs σ2 eσ2 g => ?_)
  have h := h σ2 eσ2
  refine lv_aload_n C.1 C.2.1 dX5_ask_10 rfl (lv_at hl 0 rfl) ?_
  refine lv_iload_n C.1 C.2.1 dX5_ask_11 rfl (lv_at hl 3 rfl) ?_
  refine gx_putI C g fi_X5_38 dX5_ask_12 sh_10 rfl (fun H locs σ3 eσ3 g => ?_)
  have h := h σ3 eσ3
  refine lv_aload_n C.1 C.2.1 dX5_ask_15 rfl (lv_at hl 0 rfl) ?_
  refine lv_aload C.1 C.2.1 dX5_ask_16 (lv_at hl 4 rfl) ?_
  refine lv_iload_n C.1 C.2.1 dX5_ask_18 rfl (lv_at hl 1 rfl) ?_
  refine gx_calli0 g (gx_runV (k := 2) (rest := [.ref (ga E 10)]) C g mb_X3_mostWork ml_X5_41 rfl sh_2 (mX3_mostWork x1 _ _ h) ⟨Nat.le_of_ble_eq_true rfl, Nat.le_of_ble_eq_true rfl⟩ ⟨Nat.le_refl _, Nat.le_refl _⟩ rfl hl.1 rfl (Nat.le_of_ble_eq_true rfl) dX5_ask_19) rfl rfl (fun r4 σ5 H locs h g => ?_)
  refine gx_putI C g fi_X5_47 dX5_ask_22 sh_10 rfl (fun H locs σ6 eσ6 g => ?_)
  have h := h σ6 eσ6
  refine lv_aload_n C.1 C.2.1 dX5_ask_25 rfl (lv_at hl 0 rfl) ?_
  refine lv_aload C.1 C.2.1 dX5_ask_26 (lv_at hl 4 rfl) ?_
  refine gx_getR C g fl_X5_49 dX5_ask_28 sh_2 rfl (by decide) ?_
  refine lv_iload_n C.1 C.2.1 dX5_ask_31 rfl (lv_at hl 1 rfl) ?_
  obtain ⟨i7, h⟩ := h
  refine gx_iald C g dX5_ask_32 sh_14 i7 ?_
  refine gx_putI C g fi_X5_52 dX5_ask_33 sh_10 rfl (fun H locs σ8 eσ8 g => ?_)
  have h := h σ8 eσ8
  refine lv_aload_n C.1 C.2.1 dX5_ask_36 rfl (lv_at hl 0 rfl) ?_
  refine gx_ldc C ck_X5_57 dX5_ask_37 ?_
  refine gx_putI C g fi_X5_58 dX5_ask_39 sh_10 rfl (fun H locs σ9 eσ9 g => ?_)
  have h := h σ9 eσ9
  exact gx_vret C hr g dX5_ask_42 h
theorem mX5_ask {l : Launch} {E : EE} {base : Nat} (x1 : Int32) (x2 : Int32) (x3 : Int32) (σ : St) (Q : St → Prop) (h : wX5_ask x1 x2 x3 σ Q) : Met l yX5_ask (wy yX5_ask cX5_ask 5 none) rmX5_ask (va_Pc [.ref (ga E 10), .int x1, .int x2, .int x3, .ref (ga E 2)] (fun U => SW E base σ U)) (QV E base Q) (rmX5_ask).cells (rmX5_ask).slots (fun q => base ≤ q) :=
  met_of (by decide) (Nat.le_of_ble_eq_true rfl) (fun p e s m args below meth c C hr g ls hl => tX5_ask_e C hr x1 x2 x3 _ _ _ _ hl g h)
def wX5_search_14 (S : Nat → Int32 → Int32 → Int32 → St → (St → Prop) → Prop) (k2 : Nat) (Q : St → Prop) (x4 : Int32) (σ : St) : Prop := ∀ σ1 : St, σ1 = pv σ 10 5 x4 → ∀ σ2 : St, σ2 = pa σ1 47 (gr σ1 46) → Q σ2
def wX5_search_224 (S : Nat → Int32 → Int32 → Int32 → St → (St → Prop) → Prop) (k2 : Nat) (Q : St → Prop) (K47 : Int32 → Int32 → Int32 → Nat → Int32 → St → Prop) (x3 : Int32) (x4 : Int32) (x5 : Int32) (q6 : Nat) (x7 : Int32) (σ : St) : Prop := ∀ x7_1 : Int32, x7_1 = x7 + 1 → K47 x3 x4 x5 q6 x7_1 σ
def wX5_search_183 (S : Nat → Int32 → Int32 → Int32 → St → (St → Prop) → Prop) (k2 : Nat) (Q : St → Prop) (K47 : Int32 → Int32 → Int32 → Nat → Int32 → St → Prop) (x3 : Int32) (x4 : Int32) (x5 : Int32) (q6 : Nat) (x7 : Int32) (x8 : Int32) (x9 : Int32) (xt0 : Int32) (σ : St) : Prop := (((gv σ 10 5) ≤ x8 → wX5_search_224 S k2 Q K47 x3 x4 x5 q6 x7 σ) ∧ (¬ ((gv σ 10 5) ≤ x8) → ((xt0 = 0 → wX5_search_224 S k2 Q K47 x3 x4 x5 q6 x7 σ) ∧ (¬ (xt0 = 0) → wX10_breach q6 (0 : Int32) σ (fun (r3 : Int32) (σ4 : St) => ((r3 = (-1 : Int32) → S q6 (x3 + (1 : Int32)) x8 x9 σ4 (fun (σ7 : St) => wX5_search_224 S k2 Q K47 x3 x4 x5 q6 x7 σ7)) ∧ (¬ (r3 = (-1 : Int32)) → wX5_search_224 S k2 Q K47 x3 x4 x5 q6 x7 σ4)))))))
def wX5_search_47 (S : Nat → Int32 → Int32 → Int32 → St → (St → Prop) → Prop) (k2 : Nat) (Q : St → Prop) : Nat → Int32 → Int32 → Int32 → Nat → Int32 → St → Prop
  | 0, _, _, _, _, _, _ => False
  | n + 1, x3, x4, x5, q6, x7, σ => (((gv σ 10 10) < x7 → Q σ) ∧ (¬ ((gv σ 10 10) < x7) → (((gv σ 10 5) ≤ x4 → Q σ) ∧ (¬ ((gv σ 10 5) ≤ x4) → vp_in x3 6 ∧ ∀ σ4 : St, σ4 = pv σ 46 x3.toNatClampNeg x7 → wX7_copy q6 k2 σ4 (fun (σ6 : St) => wX10_enter q6 σ6 (fun (σ8 : St) => vp_in (gv σ8 10 6) 7 ∧ ∀ σ10 : St, σ10 = pv σ8 (q6 + 5) (gv σ8 10 6).toNatClampNeg x7 → wX10_settle q6 σ10 (fun (σ12 : St) => vp_in (gv σ12 10 6) 7 ∧ vp_in (gv σ12 10 6) 7 ∧ ∀ x8_15 : Int32, x8_15 = (x4 + (gv σ12 (q6 + 10) (gv σ12 10 6).toNatClampNeg)) + (gv σ12 (q6 + 11) (gv σ12 10 6).toNatClampNeg) → vp_in (gv σ12 10 6) 7 ∧ ∀ x9_17 : Int32, x9_17 = x5 + (gv σ12 (q6 + 9) (gv σ12 10 6).toNatClampNeg) → (((x9_17 + ((gv σ12 10 9) * (((gv σ12 10 7) - x3) - (1 : Int32)))) < (gv σ12 10 8) → wX5_search_183 S k2 Q (fun x3' x4' x5' q6' x7' σ' => wX5_search_47 S k2 Q n x3' x4' x5' q6' x7' σ') x3 x4 x5 q6 x7 x8_15 x9_17 (0 : Int32) σ12) ∧ (¬ ((x9_17 + ((gv σ12 10 9) * (((gv σ12 10 7) - x3) - (1 : Int32)))) < (gv σ12 10 8)) → wX5_search_183 S k2 Q (fun x3' x4' x5' q6' x7' σ' => wX5_search_47 S k2 Q n x3' x4' x5' q6' x7' σ') x3 x4 x5 q6 x7 x8_15 x9_17 (1 : Int32) σ12)))))))))
def wX5_search (S : Nat → Int32 → Int32 → Int32 → St → (St → Prop) → Prop) (k2 : Nat) (x3 : Int32) (x4 : Int32) (x5 : Int32) (σ : St) (Q : St → Prop) : Prop := (((gv σ 10 7) ≤ x3 → wX5_search_14 S k2 Q x4 σ) ∧ (¬ ((gv σ 10 7) ≤ x3) → ((x3 < (6 : Int32) → vp_in x3 6 ∧ ∃ j : Nat, wX5_search_47 S k2 Q j x3 x4 x5 (126 + 13 * x3.toNatClampNeg) (0 : Int32) σ) ∧ (¬ (x3 < (6 : Int32)) → wX5_search_14 S k2 Q x4 σ))))
set_option maxHeartbeats 4000000 in
set_option maxRecDepth 100000 in
theorem tX5_search_14 {p : Program} {l : Launch} {e : Env} {s : State} {m : MethodId} {args : Array Value} {below : List Frame} {meth : Method} {c : Code} {E : EE} {base : Nat} (C : Cx p E base s m args meth c cX5_search 11 RX5) (hr : meth.sig.returnType = none) {Q : St → Prop} {S : Nat → Int32 → Int32 → Int32 → St → (St → Prop) → Prop} {F Lo : Nat} (hS : ∀ (k2 : Nat) (x3 : Int32) (x4 : Int32) (x5 : Int32) (hk2 : Stg k2) (σ : St) (Q : St → Prop), S k2 x3 x4 x5 σ Q → Met l yX5_search (wy yX5_search cX5_search 11 none) ({ frames := F, cells := 0, slots := 0, locals := Lo }) (va_Pc [.ref (ga E 10), .ref (ga E 1), .ref (ga E k2), .int x3, .int x4, .int x5] (fun U => SW E base σ U)) (QV E base Q) 0 0 (fun q => base ≤ q)) {k2 : Nat} (hk2 : Stg k2) : ∀ (x4 : Int32) (σ : St) (H : Heap) (locs : List Loc) (ls : Array Slot), lv_has ls 11 [(0, .ref (ga E 10)), (4, .int x4)] → GW E base s σ H locs → wX5_search_14 S k2 Q x4 σ → W p l e ({ frames := F + 20, cells := 0, slots := 0, locals := Lo + 600 } : Room) s m args below meth c H locs 0 0 (MQ below (QV E base Q) args s 0 0 (fun q => base ≤ q)) (F0 m 14 ls []) := by
  intro x4 σ H locs ls hl g h
  refine lv_aload_n C.1 C.2.1 dX5_search_14 rfl (lv_at hl 0 rfl) ?_
  refine lv_iload C.1 C.2.1 dX5_search_15 (lv_at hl 1 rfl) ?_
  refine gx_putI C g fi_X5_58 dX5_search_17 sh_10 rfl (fun H locs σ1 eσ1 g => ?_)
  have h := h σ1 eσ1
  refine lv_aload_n C.1 C.2.1 dX5_search_20 rfl (lv_at hl 0 rfl) ?_
  refine gx_getR C g fl_X5_25 dX5_search_21 sh_10 rfl (by decide) ?_
  refine lv_iconst (v := 0) C.1 C.2.1 dX5_search_24 (by decide) ?_
  refine lv_aload_n C.1 C.2.1 dX5_search_25 rfl (lv_at hl 0 rfl) ?_
  refine gx_getR C g fl_X5_28 dX5_search_26 sh_10 rfl (by decide) ?_
  refine lv_iconst (v := 0) C.1 C.2.1 dX5_search_29 (by decide) ?_
  refine lv_bipush (v := 6) C.1 C.2.1 dX5_search_30 (by decide) ?_
  refine gx_copy (k0 := 46) (k1 := 47) (n := 6) (rest := []) C g al_X5_65 hl.1 (show 1 ≤ F + 20 by omega) (show 0 + 18 ≤ Lo + 600 by omega) sh_46 sh_47 rfl (by decide) dX5_search_32 (fun H locs σ2 eσ2 g => ?_)
  have h := h σ2 eσ2
  exact gx_vret C hr g dX5_search_35 h
set_option maxHeartbeats 4000000 in
set_option maxRecDepth 100000 in
theorem tX5_search_224 {p : Program} {l : Launch} {e : Env} {s : State} {m : MethodId} {args : Array Value} {below : List Frame} {meth : Method} {c : Code} {E : EE} {base : Nat} (C : Cx p E base s m args meth c cX5_search 11 RX5) (hr : meth.sig.returnType = none) {Q : St → Prop} {S : Nat → Int32 → Int32 → Int32 → St → (St → Prop) → Prop} {F Lo : Nat} (hS : ∀ (k2 : Nat) (x3 : Int32) (x4 : Int32) (x5 : Int32) (hk2 : Stg k2) (σ : St) (Q : St → Prop), S k2 x3 x4 x5 σ Q → Met l yX5_search (wy yX5_search cX5_search 11 none) ({ frames := F, cells := 0, slots := 0, locals := Lo }) (va_Pc [.ref (ga E 10), .ref (ga E 1), .ref (ga E k2), .int x3, .int x4, .int x5] (fun U => SW E base σ U)) (QV E base Q) 0 0 (fun q => base ≤ q)) {k2 : Nat} (hk2 : Stg k2) {K47 : Int32 → Int32 → Int32 → Nat → Int32 → St → Prop} (hK47 : ∀ (x3 : Int32) (x4 : Int32) (x5 : Int32) (q6 : Nat) (x7 : Int32) (σ : St) (hq6 : Stg q6) (H : Heap) (locs : List Loc) (ls : Array Slot), lv_has ls 11 [(0, .ref (ga E 10)), (1, .ref (ga E 1)), (2, .ref (ga E k2)), (3, .int x3), (4, .int x4), (5, .int x5), (6, .ref (ga E q6)), (7, .int x7)] → GW E base s σ H locs → K47 x3 x4 x5 q6 x7 σ → W p l e ({ frames := F + 20, cells := 0, slots := 0, locals := Lo + 600 } : Room) s m args below meth c H locs 0 0 (MQ below (QV E base Q) args s 0 0 (fun q => base ≤ q)) (F0 m 47 ls [])) : ∀ (x3 : Int32) (x4 : Int32) (x5 : Int32) (q6 : Nat) (x7 : Int32) (σ : St) (hq6 : Stg q6) (H : Heap) (locs : List Loc) (ls : Array Slot), lv_has ls 11 [(0, .ref (ga E 10)), (1, .ref (ga E 1)), (2, .ref (ga E k2)), (3, .int x3), (4, .int x4), (5, .int x5), (6, .ref (ga E q6)), (7, .int x7)] → GW E base s σ H locs → wX5_search_224 S k2 Q K47 x3 x4 x5 q6 x7 σ → W p l e ({ frames := F + 20, cells := 0, slots := 0, locals := Lo + 600 } : Room) s m args below meth c H locs 0 0 (MQ below (QV E base Q) args s 0 0 (fun q => base ≤ q)) (F0 m 224 ls []) := by
  intro x3 x4 x5 q6 x7 σ hq6 H locs ls hl g h
  obtain ⟨x7_1, ex7_1⟩ : ∃ y : Int32, y = x7 + 1 := ⟨_, rfl⟩
  have h := h x7_1 ex7_1
  refine lv_iinc (v := x7_1) (lv' := [(7, .int x7_1), (0, .ref (ga E 10)), (1, .ref (ga E 1)), (2, .ref (ga E k2)), (3, .int x3), (4, .int x4), (5, .int x5), (6, .ref (ga E q6))]) C.1 C.2.1 dX5_search_224 hl (k := 7) rfl (by rw [ex7_1]; rfl) (by decide) rfl (fun ls hl => ?_)
  refine lv_goto (tgt := 47) C.1 C.2.1 dX5_search_227 (by decide) ?_
  exact hK47 x3 x4 x5 q6 x7_1 _ hq6 _ _ _ (lv_sub hl [1, 2, 3, 4, 5, 6, 7, 0] rfl) g h
set_option maxHeartbeats 4000000 in
set_option maxRecDepth 100000 in
theorem tX5_search_183 {p : Program} {l : Launch} {e : Env} {s : State} {m : MethodId} {args : Array Value} {below : List Frame} {meth : Method} {c : Code} {E : EE} {base : Nat} (C : Cx p E base s m args meth c cX5_search 11 RX5) (hr : meth.sig.returnType = none) {Q : St → Prop} {S : Nat → Int32 → Int32 → Int32 → St → (St → Prop) → Prop} {F Lo : Nat} (hS : ∀ (k2 : Nat) (x3 : Int32) (x4 : Int32) (x5 : Int32) (hk2 : Stg k2) (σ : St) (Q : St → Prop), S k2 x3 x4 x5 σ Q → Met l yX5_search (wy yX5_search cX5_search 11 none) ({ frames := F, cells := 0, slots := 0, locals := Lo }) (va_Pc [.ref (ga E 10), .ref (ga E 1), .ref (ga E k2), .int x3, .int x4, .int x5] (fun U => SW E base σ U)) (QV E base Q) 0 0 (fun q => base ≤ q)) {k2 : Nat} (hk2 : Stg k2) {K47 : Int32 → Int32 → Int32 → Nat → Int32 → St → Prop} (hK47 : ∀ (x3 : Int32) (x4 : Int32) (x5 : Int32) (q6 : Nat) (x7 : Int32) (σ : St) (hq6 : Stg q6) (H : Heap) (locs : List Loc) (ls : Array Slot), lv_has ls 11 [(0, .ref (ga E 10)), (1, .ref (ga E 1)), (2, .ref (ga E k2)), (3, .int x3), (4, .int x4), (5, .int x5), (6, .ref (ga E q6)), (7, .int x7)] → GW E base s σ H locs → K47 x3 x4 x5 q6 x7 σ → W p l e ({ frames := F + 20, cells := 0, slots := 0, locals := Lo + 600 } : Room) s m args below meth c H locs 0 0 (MQ below (QV E base Q) args s 0 0 (fun q => base ≤ q)) (F0 m 47 ls [])) : ∀ (x3 : Int32) (x4 : Int32) (x5 : Int32) (q6 : Nat) (x7 : Int32) (x8 : Int32) (x9 : Int32) (xt0 : Int32) (σ : St) (hq6 : Stg q6) (H : Heap) (locs : List Loc) (ls : Array Slot), lv_has ls 11 [(0, .ref (ga E 10)), (1, .ref (ga E 1)), (2, .ref (ga E k2)), (3, .int x3), (4, .int x4), (5, .int x5), (6, .ref (ga E q6)), (7, .int x7), (8, .int x8), (9, .int x9)] → GW E base s σ H locs → wX5_search_183 S k2 Q K47 x3 x4 x5 q6 x7 x8 x9 xt0 σ → W p l e ({ frames := F + 20, cells := 0, slots := 0, locals := Lo + 600 } : Room) s m args below meth c H locs 0 0 (MQ below (QV E base Q) args s 0 0 (fun q => base ≤ q)) (F0 m 183 ls [.int xt0]) := by
  intro x3 x4 x5 q6 x7 x8 x9 xt0 σ hq6 H locs ls hl g h
  refine lv_istore (lv' := [(10, .int xt0), (0, .ref (ga E 10)), (1, .ref (ga E 1)), (2, .ref (ga E k2)), (3, .int x3), (4, .int x4), (5, .int x5), (6, .ref (ga E q6)), (7, .int x7), (8, .int x8), (9, .int x9)]) C.1 C.2.1 dX5_search_183 hl (by decide) rfl (fun ls hl => ?_)
  refine lv_iload C.1 C.2.1 dX5_search_185 (lv_at hl 9 rfl) ?_
  refine lv_aload_n C.1 C.2.1 dX5_search_187 rfl (lv_at hl 1 rfl) ?_
  refine gx_getI C g fl_X5_58 dX5_search_188 sh_10 rfl ?_
  refine lv_icmp_ge (tgt := 224) C.1 C.2.1 dX5_search_191 (by decide) (fun c1 => ?_) (fun c1 => ?_)
  · have h := h.1 c1
    exact tX5_search_224 C hr hS hk2 hK47 x3 x4 x5 q6 x7 _ hq6 _ _ _ (lv_sub hl [1, 2, 3, 4, 5, 6, 7, 8] rfl) g h
  · have h := h.2 c1
    refine lv_iload C.1 C.2.1 dX5_search_194 (lv_at hl 0 rfl) ?_
    refine lv_if_eq (tgt := 224) C.1 C.2.1 dX5_search_196 (by decide) (fun c2 => ?_) (fun c2 => ?_)
    · have h := h.1 c2
      exact tX5_search_224 C hr hS hk2 hK47 x3 x4 x5 q6 x7 _ hq6 _ _ _ (lv_sub hl [1, 2, 3, 4, 5, 6, 7, 8] rfl) g h
    · have h := h.2 c2
      refine lv_aload_n C.1 C.2.1 dX5_search_199 rfl (lv_at hl 2 rfl) ?_
      refine lv_aload C.1 C.2.1 dX5_search_200 (lv_at hl 7 rfl) ?_
      refine lv_iconst (v := 0) C.1 C.2.1 dX5_search_202 (by decide) ?_
      refine gx_calli0 g (gx_runV (k := 1) (rest := []) C g mb_X10_breach ml_X5_87 rfl sh_1 (mX10_breach q6 (0 : Int32) hq6 _ _ h) ⟨show 4 + 1 ≤ F + 20 by omega, show 8 + (7 + 11) + (92) ≤ Lo + 600 by omega⟩ ⟨Nat.le_refl _, Nat.le_refl _⟩ rfl hl.1 rfl (Nat.le_of_ble_eq_true rfl) dX5_search_203) rfl rfl (fun r3 σ4 H locs h g => ?_)
      refine lv_iconst (v := -1) C.1 C.2.1 dX5_search_206 (by decide) ?_
      refine lv_icmp_ne (tgt := 224) C.1 C.2.1 dX5_search_207 (by decide) (fun c5 => ?_) (fun c5 => ?_)
      · have h := h.2 c5
        exact tX5_search_224 C hr hS hk2 hK47 x3 x4 x5 q6 x7 _ hq6 _ _ _ (lv_sub hl [1, 2, 3, 4, 5, 6, 7, 8] rfl) g h
      · have h := h.1 c5
        refine lv_aload_n C.1 C.2.1 dX5_search_210 rfl (lv_at hl 1 rfl) ?_
        refine lv_aload_n C.1 C.2.1 dX5_search_211 rfl (lv_at hl 2 rfl) ?_
        refine lv_aload C.1 C.2.1 dX5_search_212 (lv_at hl 7 rfl) ?_
        refine lv_iload_n C.1 C.2.1 dX5_search_214 rfl (lv_at hl 4 rfl) ?_
        refine lv_iconst (v := 1) C.1 C.2.1 dX5_search_215 (by decide) ?_
        refine lv_iadd C.1 C.2.1 dX5_search_216 ?_
        refine lv_iload C.1 C.2.1 dX5_search_217 (lv_at hl 9 rfl) ?_
        refine lv_iload C.1 C.2.1 dX5_search_219 (lv_at hl 10 rfl) ?_
        refine gx_callv0 g (gx_runV (k := 10) (rest := []) C g mb_X5_search ml_X5_61 rfl sh_10 (hS q6 (x3 + (1 : Int32)) x8 x9 hq6 _ _ h) ⟨show F + 1 ≤ F + 20 by omega, show 8 + (11 + 11) + (Lo) ≤ Lo + 600 by omega⟩ ⟨Nat.le_refl _, Nat.le_refl _⟩ rfl hl.1 rfl (Nat.le_of_ble_eq_true rfl) dX5_search_221) rfl rfl (fun σ7 H locs h g => ?_)
        exact tX5_search_224 C hr hS hk2 hK47 x3 x4 x5 q6 x7 _ hq6 _ _ _ (lv_sub hl [1, 2, 3, 4, 5, 6, 7, 8] rfl) g h
set_option maxHeartbeats 4000000 in
set_option maxRecDepth 100000 in
theorem tX5_search_47 {p : Program} {l : Launch} {e : Env} {s : State} {m : MethodId} {args : Array Value} {below : List Frame} {meth : Method} {c : Code} {E : EE} {base : Nat} (C : Cx p E base s m args meth c cX5_search 11 RX5) (hr : meth.sig.returnType = none) {Q : St → Prop} {S : Nat → Int32 → Int32 → Int32 → St → (St → Prop) → Prop} {F Lo : Nat} (hS : ∀ (k2 : Nat) (x3 : Int32) (x4 : Int32) (x5 : Int32) (hk2 : Stg k2) (σ : St) (Q : St → Prop), S k2 x3 x4 x5 σ Q → Met l yX5_search (wy yX5_search cX5_search 11 none) ({ frames := F, cells := 0, slots := 0, locals := Lo }) (va_Pc [.ref (ga E 10), .ref (ga E 1), .ref (ga E k2), .int x3, .int x4, .int x5] (fun U => SW E base σ U)) (QV E base Q) 0 0 (fun q => base ≤ q)) {k2 : Nat} (hk2 : Stg k2) : ∀ (n : Nat) (x3 : Int32) (x4 : Int32) (x5 : Int32) (q6 : Nat) (x7 : Int32) (σ : St) (hq6 : Stg q6) (H : Heap) (locs : List Loc) (ls : Array Slot), lv_has ls 11 [(0, .ref (ga E 10)), (1, .ref (ga E 1)), (2, .ref (ga E k2)), (3, .int x3), (4, .int x4), (5, .int x5), (6, .ref (ga E q6)), (7, .int x7)] → GW E base s σ H locs → wX5_search_47 S k2 Q n x3 x4 x5 q6 x7 σ → W p l e ({ frames := F + 20, cells := 0, slots := 0, locals := Lo + 600 } : Room) s m args below meth c H locs 0 0 (MQ below (QV E base Q) args s 0 0 (fun q => base ≤ q)) (F0 m 47 ls []) := by
  intro n
  induction n with
  | zero => intro _ _ _ _ _; intros; exact False.elim (by assumption)
  | succ n ih =>
    intro x3 x4 x5 q6 x7 σ hq6 H locs ls hl g h
    refine lv_iload C.1 C.2.1 dX5_search_47 (lv_at hl 7 rfl) ?_
    refine lv_aload_n C.1 C.2.1 dX5_search_49 rfl (lv_at hl 0 rfl) ?_
    refine gx_getI C g fl_X5_52 dX5_search_50 sh_10 rfl ?_
    refine lv_icmp_gt (tgt := 230) C.1 C.2.1 dX5_search_53 (by decide) (fun c1 => ?_) (fun c1 => ?_)
    · have h := h.1 c1
      exact gx_vret C hr g dX5_search_230 h
    · have h := h.2 c1
      refine lv_iload C.1 C.2.1 dX5_search_56 (lv_at hl 4 rfl) ?_
      refine lv_aload_n C.1 C.2.1 dX5_search_58 rfl (lv_at hl 0 rfl) ?_
      refine gx_getI C g fl_X5_58 dX5_search_59 sh_10 rfl ?_
      refine lv_icmp_ge (tgt := 230) C.1 C.2.1 dX5_search_62 (by decide) (fun c2 => ?_) (fun c2 => ?_)
      · have h := h.1 c2
        exact gx_vret C hr g dX5_search_230 h
      · have h := h.2 c2
        refine lv_aload_n C.1 C.2.1 dX5_search_65 rfl (lv_at hl 0 rfl) ?_
        refine gx_getR C g fl_X5_25 dX5_search_66 sh_10 rfl (by decide) ?_
        refine lv_iload_n C.1 C.2.1 dX5_search_69 rfl (lv_at hl 3 rfl) ?_
        refine lv_iload C.1 C.2.1 dX5_search_70 (lv_at hl 7 rfl) ?_
        obtain ⟨i3, h⟩ := h
        refine gx_iast C g dX5_search_72 sh_46 i3 (fun H locs σ4 eσ4 g => ?_)
        have h := h σ4 eσ4
        refine lv_aload C.1 C.2.1 dX5_search_73 (lv_at hl 6 rfl) ?_
        refine lv_aload_n C.1 C.2.1 dX5_search_75 rfl (lv_at hl 2 rfl) ?_
        refine gx_callv0 g (gx_runV (k := q6) (rest := []) C g mb_X7_copy ml_X5_71 rfl (stg_obj hq6) (mX7_copy q6 k2 hq6 hk2 _ _ h) ⟨show 1 + 1 ≤ F + 20 by omega, show 8 + (3 + 11) + (40) ≤ Lo + 600 by omega⟩ ⟨Nat.le_refl _, Nat.le_refl _⟩ rfl hl.1 rfl (Nat.le_of_ble_eq_true rfl) dX5_search_76) rfl rfl (fun σ6 H locs h g => ?_)
        refine lv_aload_n C.1 C.2.1 dX5_search_79 rfl (lv_at hl 1 rfl) ?_
        refine lv_aload C.1 C.2.1 dX5_search_80 (lv_at hl 6 rfl) ?_
        refine gx_callv0 g (gx_runV (k := 1) (rest := []) C g mb_X10_enter ml_X5_75 rfl sh_1 (mX10_enter q6 hq6 _ _ h) ⟨show 1 + 1 ≤ F + 20 by omega, show 8 + (3 + 11) + (23) ≤ Lo + 600 by omega⟩ ⟨Nat.le_refl _, Nat.le_refl _⟩ rfl hl.1 rfl (Nat.le_of_ble_eq_true rfl) dX5_search_82) rfl rfl (fun σ8 H locs h g => ?_)
        refine lv_aload C.1 C.2.1 dX5_search_85 (lv_at hl 6 rfl) ?_
        refine gx_getR C g fl_X5_80 dX5_search_87 (stg_obj hq6) rfl (stg_ne hq6 1) ?_
        refine lv_iconst (v := 2) C.1 C.2.1 dX5_search_90 (by decide) ?_
        refine gx_aald (r := (q6 + 5)) C g dX5_search_91 (stg_row hq6) (Or.inr rfl) vi_2 rfl (stg_ne hq6 5) ?_
        refine lv_aload_n C.1 C.2.1 dX5_search_92 rfl (lv_at hl 0 rfl) ?_
        refine gx_getI C g fl_X5_32 dX5_search_93 sh_10 rfl ?_
        refine lv_iload C.1 C.2.1 dX5_search_96 (lv_at hl 7 rfl) ?_
        obtain ⟨i9, h⟩ := h
        refine gx_iast C g dX5_search_98 (stg_arr hq6 5 (by decide) (by decide)) i9 (fun H locs σ10 eσ10 g => ?_)
        have h := h σ10 eσ10
        refine lv_aload_n C.1 C.2.1 dX5_search_99 rfl (lv_at hl 1 rfl) ?_
        refine lv_aload C.1 C.2.1 dX5_search_100 (lv_at hl 6 rfl) ?_
        refine gx_callv0 g (gx_runV (k := 1) (rest := []) C g mb_X10_settle ml_X5_84 rfl sh_1 (mX10_settle q6 hq6 _ _ h) ⟨show 4 + 1 ≤ F + 20 by omega, show 8 + (10 + 11) + (95) ≤ Lo + 600 by omega⟩ ⟨Nat.le_refl _, Nat.le_refl _⟩ rfl hl.1 rfl (Nat.le_of_ble_eq_true rfl) dX5_search_102) rfl rfl (fun σ12 H locs h g => ?_)
        refine lv_iload C.1 C.2.1 dX5_search_105 (lv_at hl 4 rfl) ?_
        refine lv_aload C.1 C.2.1 dX5_search_107 (lv_at hl 6 rfl) ?_
        refine gx_getR C g fl_X5_80 dX5_search_109 (stg_obj hq6) rfl (stg_ne hq6 1) ?_
        refine lv_bipush (v := 7) C.1 C.2.1 dX5_search_112 (by decide) ?_
        refine gx_aald (r := (q6 + 10)) C g dX5_search_114 (stg_row hq6) (Or.inr rfl) vi_7 rfl (stg_ne hq6 10) ?_
        refine lv_aload_n C.1 C.2.1 dX5_search_115 rfl (lv_at hl 0 rfl) ?_
        refine gx_getI C g fl_X5_32 dX5_search_116 sh_10 rfl ?_
        obtain ⟨i13, h⟩ := h
        refine gx_iald C g dX5_search_119 (stg_arr hq6 10 (by decide) (by decide)) i13 ?_
        refine lv_iadd C.1 C.2.1 dX5_search_120 ?_
        refine lv_aload C.1 C.2.1 dX5_search_121 (lv_at hl 6 rfl) ?_
        refine gx_getR C g fl_X5_80 dX5_search_123 (stg_obj hq6) rfl (stg_ne hq6 1) ?_
        refine lv_bipush (v := 8) C.1 C.2.1 dX5_search_126 (by decide) ?_
        refine gx_aald (r := (q6 + 11)) C g dX5_search_128 (stg_row hq6) (Or.inr rfl) vi_8 rfl (stg_ne hq6 11) ?_
        refine lv_aload_n C.1 C.2.1 dX5_search_129 rfl (lv_at hl 0 rfl) ?_
        refine gx_getI C g fl_X5_32 dX5_search_130 sh_10 rfl ?_
        obtain ⟨i14, h⟩ := h
        refine gx_iald C g dX5_search_133 (stg_arr hq6 11 (by decide) (by decide)) i14 ?_
        refine lv_iadd C.1 C.2.1 dX5_search_134 ?_
        refine lv_topi (fun x8_15 ex8_15 => ?_)
        have h := h x8_15 ex8_15
        refine lv_istore (lv' := [(8, .int x8_15), (0, .ref (ga E 10)), (1, .ref (ga E 1)), (2, .ref (ga E k2)), (3, .int x3), (4, .int x4), (5, .int x5), (6, .ref (ga E q6)), (7, .int x7)]) C.1 C.2.1 dX5_search_135 hl (by decide) rfl (fun ls hl => ?_)
        refine lv_iload C.1 C.2.1 dX5_search_137 (lv_at hl 6 rfl) ?_
        refine lv_aload C.1 C.2.1 dX5_search_139 (lv_at hl 7 rfl) ?_
        refine gx_getR C g fl_X5_80 dX5_search_141 (stg_obj hq6) rfl (stg_ne hq6 1) ?_
        refine lv_bipush (v := 6) C.1 C.2.1 dX5_search_144 (by decide) ?_
        refine gx_aald (r := (q6 + 9)) C g dX5_search_146 (stg_row hq6) (Or.inr rfl) vi_6 rfl (stg_ne hq6 9) ?_
        refine lv_aload_n C.1 C.2.1 dX5_search_147 rfl (lv_at hl 1 rfl) ?_
        refine gx_getI C g fl_X5_32 dX5_search_148 sh_10 rfl ?_
        obtain ⟨i16, h⟩ := h
        refine gx_iald C g dX5_search_151 (stg_arr hq6 9 (by decide) (by decide)) i16 ?_
        refine lv_iadd C.1 C.2.1 dX5_search_152 ?_
        refine lv_topi (fun x9_17 ex9_17 => ?_)
        have h := h x9_17 ex9_17
        refine lv_istore (lv' := [(9, .int x9_17), (8, .int x8_15), (0, .ref (ga E 10)), (1, .ref (ga E 1)), (2, .ref (ga E k2)), (3, .int x3), (4, .int x4), (5, .int x5), (6, .ref (ga E q6)), (7, .int x7)]) C.1 C.2.1 dX5_search_153 hl (by decide) rfl (fun ls hl => ?_)
        refine lv_iload C.1 C.2.1 dX5_search_155 (lv_at hl 0 rfl) ?_
        refine lv_aload_n C.1 C.2.1 dX5_search_157 rfl (lv_at hl 2 rfl) ?_
        refine gx_getI C g fl_X5_47 dX5_search_158 sh_10 rfl ?_
        refine lv_aload_n C.1 C.2.1 dX5_search_161 rfl (lv_at hl 2 rfl) ?_
        refine gx_getI C g fl_X5_35 dX5_search_162 sh_10 rfl ?_
        refine lv_iload_n C.1 C.2.1 dX5_search_165 rfl (lv_at hl 5 rfl) ?_
        refine lv_isub C.1 C.2.1 dX5_search_166 ?_
        refine lv_iconst (v := 1) C.1 C.2.1 dX5_search_167 (by decide) ?_
        refine lv_isub C.1 C.2.1 dX5_search_168 ?_
        refine lv_imul C.1 C.2.1 dX5_search_169 ?_
        refine lv_iadd C.1 C.2.1 dX5_search_170 ?_
        refine lv_aload_n C.1 C.2.1 dX5_search_171 rfl (lv_at hl 2 rfl) ?_
        refine gx_getI C g fl_X5_38 dX5_search_172 sh_10 rfl ?_
        refine lv_icmp_lt (tgt := 182) C.1 C.2.1 dX5_search_175 (by decide) (fun c18 => ?_) (fun c18 => ?_)
        · have h := h.1 c18
          refine lv_iconst (v := 0) C.1 C.2.1 dX5_search_182 (by decide) ?_
          exact tX5_search_183 C hr hS hk2 ih x3 x4 x5 q6 x7 x8_15 x9_17 (0 : Int32) _ hq6 _ _ _ (lv_sub hl [2, 3, 4, 5, 6, 7, 8, 9, 1, 0] rfl) g h
        · have h := h.2 c18
          refine lv_iconst (v := 1) C.1 C.2.1 dX5_search_178 (by decide) ?_
          refine lv_goto (tgt := 183) C.1 C.2.1 dX5_search_179 (by decide) ?_
          exact tX5_search_183 C hr hS hk2 ih x3 x4 x5 q6 x7 x8_15 x9_17 (1 : Int32) _ hq6 _ _ _ (lv_sub hl [2, 3, 4, 5, 6, 7, 8, 9, 1, 0] rfl) g h
set_option maxHeartbeats 4000000 in
set_option maxRecDepth 100000 in
theorem tX5_search_e {p : Program} {l : Launch} {e : Env} {s : State} {m : MethodId} {args : Array Value} {below : List Frame} {meth : Method} {c : Code} {E : EE} {base : Nat} (C : Cx p E base s m args meth c cX5_search 11 RX5) (hr : meth.sig.returnType = none) {Q : St → Prop} {S : Nat → Int32 → Int32 → Int32 → St → (St → Prop) → Prop} {F Lo : Nat} (hS : ∀ (k2 : Nat) (x3 : Int32) (x4 : Int32) (x5 : Int32) (hk2 : Stg k2) (σ : St) (Q : St → Prop), S k2 x3 x4 x5 σ Q → Met l yX5_search (wy yX5_search cX5_search 11 none) ({ frames := F, cells := 0, slots := 0, locals := Lo }) (va_Pc [.ref (ga E 10), .ref (ga E 1), .ref (ga E k2), .int x3, .int x4, .int x5] (fun U => SW E base σ U)) (QV E base Q) 0 0 (fun q => base ≤ q)) {k2 : Nat} (hk2 : Stg k2) : ∀ (x3 : Int32) (x4 : Int32) (x5 : Int32) (σ : St) (H : Heap) (locs : List Loc) (ls : Array Slot), lv_has ls 11 [(0, .ref (ga E 10)), (1, .ref (ga E 1)), (2, .ref (ga E k2)), (3, .int x3), (4, .int x4), (5, .int x5)] → GW E base s σ H locs → wX5_search S k2 x3 x4 x5 σ Q → W p l e ({ frames := F + 20, cells := 0, slots := 0, locals := Lo + 600 } : Room) s m args below meth c H locs 0 0 (MQ below (QV E base Q) args s 0 0 (fun q => base ≤ q)) (F0 m 0 ls []) := by
  intro x3 x4 x5 σ H locs ls hl g h
  refine lv_iload_n C.1 C.2.1 dX5_search_0 rfl (lv_at hl 3 rfl) ?_
  refine lv_aload_n C.1 C.2.1 dX5_search_1 rfl (lv_at hl 0 rfl) ?_
  refine gx_getI C g fl_X5_35 dX5_search_2 sh_10 rfl ?_
  refine lv_icmp_ge (tgt := 14) C.1 C.2.1 dX5_search_5 (by decide) (fun c1 => ?_) (fun c1 => ?_)
  · have h := h.1 c1
    exact tX5_search_14 C hr hS hk2 x4 _ _ _ _ (lv_sub hl [0, 4] rfl) g h
  · have h := h.2 c1
    refine lv_iload_n C.1 C.2.1 dX5_search_8 rfl (lv_at hl 3 rfl) ?_
    refine lv_bipush (v := 6) C.1 C.2.1 dX5_search_9 (by decide) ?_
    refine lv_icmp_lt (tgt := 36) C.1 C.2.1 dX5_search_11 (by decide) (fun c2 => ?_) (fun c2 => ?_)
    · have h := h.1 c2
      refine lv_aload_n C.1 C.2.1 dX5_search_36 rfl (lv_at hl 0 rfl) ?_
      refine gx_getR C g fl_X5_21 dX5_search_37 sh_10 rfl (by decide) ?_
      refine lv_iload_n C.1 C.2.1 dX5_search_40 rfl (lv_at hl 3 rfl) ?_
      obtain ⟨i3, h⟩ := h
      refine gx_aald C g dX5_search_41 sh_45 (Or.inl rfl) i3 (stg_at i3) (stg_ne (stg_of i3) 0) ?_
      refine lv_astore (lv' := [(6, .ref (ga E (126 + 13 * x3.toNatClampNeg))), (0, .ref (ga E 10)), (1, .ref (ga E 1)), (2, .ref (ga E k2)), (3, .int x3), (4, .int x4), (5, .int x5)]) C.1 C.2.1 dX5_search_42 hl (by decide) rfl (fun ls hl => ?_)
      refine lv_iconst (v := 0) C.1 C.2.1 dX5_search_44 (by decide) ?_
      refine lv_istore (lv' := [(7, .int (0 : Int32)), (6, .ref (ga E (126 + 13 * x3.toNatClampNeg))), (0, .ref (ga E 10)), (1, .ref (ga E 1)), (2, .ref (ga E k2)), (3, .int x3), (4, .int x4), (5, .int x5)]) C.1 C.2.1 dX5_search_45 hl (by decide) rfl (fun ls hl => ?_)
      obtain ⟨j, h⟩ := h
      exact tX5_search_47 C hr hS hk2 j x3 x4 x5 (126 + 13 * x3.toNatClampNeg) (0 : Int32) _ (stg_of i3) _ _ _ (lv_sub hl [2, 3, 4, 5, 6, 7, 1, 0] rfl) g h
    · have h := h.2 c2
      exact tX5_search_14 C hr hS hk2 x4 _ _ _ _ (lv_sub hl [0, 4] rfl) g h
theorem mX5_search {l : Launch} {E : EE} {base : Nat} {S : Nat → Int32 → Int32 → Int32 → St → (St → Prop) → Prop} {F Lo : Nat} (hS : ∀ (k2 : Nat) (x3 : Int32) (x4 : Int32) (x5 : Int32) (hk2 : Stg k2) (σ : St) (Q : St → Prop), S k2 x3 x4 x5 σ Q → Met l yX5_search (wy yX5_search cX5_search 11 none) ({ frames := F, cells := 0, slots := 0, locals := Lo }) (va_Pc [.ref (ga E 10), .ref (ga E 1), .ref (ga E k2), .int x3, .int x4, .int x5] (fun U => SW E base σ U)) (QV E base Q) 0 0 (fun q => base ≤ q)) (k2 : Nat) (x3 : Int32) (x4 : Int32) (x5 : Int32) (hk2 : Stg k2) (σ : St) (Q : St → Prop) (h : wX5_search S k2 x3 x4 x5 σ Q) : Met l yX5_search (wy yX5_search cX5_search 11 none) ({ frames := F + 20, cells := 0, slots := 0, locals := Lo + 600 } : Room) (va_Pc [.ref (ga E 10), .ref (ga E 1), .ref (ga E k2), .int x3, .int x4, .int x5] (fun U => SW E base σ U)) (QV E base Q) (({ frames := F + 20, cells := 0, slots := 0, locals := Lo + 600 } : Room)).cells (({ frames := F + 20, cells := 0, slots := 0, locals := Lo + 600 } : Room)).slots (fun q => base ≤ q) :=
  met_of (by decide) (Nat.le_of_ble_eq_true rfl) (fun p e s m args below meth c C hr g ls hl => tX5_search_e C hr hS hk2 x3 x4 x5 _ _ _ _ hl g h)
def wX5_searchN : Nat → Nat → Int32 → Int32 → Int32 → St → (St → Prop) → Prop
  | 0 => fun _ _ _ _ _ _ => False
  | d + 1 => wX5_search (wX5_searchN d)
theorem mX5_searchN {l : Launch} {E : EE} {base : Nat} : ∀ (d : Nat) (k2 : Nat) (x3 x4 x5 : Int32) (hk2 : Stg k2) (σ : St) (Q : St → Prop) (h : wX5_searchN d k2 x3 x4 x5 σ Q), Met l yX5_search (wy yX5_search cX5_search 11 none) ({ frames := 20 * d, cells := 0, slots := 0, locals := 600 * d } : Room) (va_Pc [.ref (ga E 10), .ref (ga E 1), .ref (ga E k2), .int x3, .int x4, .int x5] (fun U => SW E base σ U)) (QV E base Q) 0 0 (fun q => base ≤ q) := by
  intro d
  induction d with
  | zero => intro _ _ _ _ _ _ _ h; exact False.elim h
  | succ d ih => intro k2 x3 x4 x5 hk2 σ Q h; exact mX5_search ih k2 x3 x4 x5 hk2 σ Q h
abbrev rmX5_find : Room := { frames := 161, cells := 0, slots := 0, locals := 4830 }
def wX5_find (k2 : Nat) (σ : St) (Q : Int32 → St → Prop) : Prop := wX5_searchN 8 k2 (0 : Int32) (0 : Int32) (0 : Int32) σ (fun (σ2 : St) => (((gv σ2 10 5) = (2147483647 : Int32) → Q (-1 : Int32) σ2) ∧ (¬ ((gv σ2 10 5) = (2147483647 : Int32)) → ∀ σ4 : St, σ4 = pa σ2 44 (gr σ2 47) → ∀ σ5 : St, σ5 = pv σ4 10 1 (gv σ4 10 7) → Q (gv σ5 10 5) σ5)))
set_option maxHeartbeats 4000000 in
set_option maxRecDepth 100000 in
theorem tX5_find_e {p : Program} {l : Launch} {e : Env} {s : State} {m : MethodId} {args : Array Value} {below : List Frame} {meth : Method} {c : Code} {E : EE} {base : Nat} (C : Cx p E base s m args meth c cX5_find 3 RX5) (hr : meth.sig.returnType = (some .int)) {Q : Int32 → St → Prop} {k2 : Nat} (hk2 : Stg k2) : ∀ (σ : St) (H : Heap) (locs : List Loc) (ls : Array Slot), lv_has ls 3 [(0, .ref (ga E 10)), (1, .ref (ga E 1)), (2, .ref (ga E k2))] → GW E base s σ H locs → wX5_find k2 σ Q → W p l e rmX5_find s m args below meth c H locs 0 0 (MQ below (QI E base Q) args s 0 0 (fun q => base ≤ q)) (F0 m 0 ls []) := by
  intro σ H locs ls hl g h
  refine lv_aload_n C.1 C.2.1 dX5_find_0 rfl (lv_at hl 0 rfl) ?_
  refine lv_aload_n C.1 C.2.1 dX5_find_1 rfl (lv_at hl 1 rfl) ?_
  refine lv_aload_n C.1 C.2.1 dX5_find_2 rfl (lv_at hl 2 rfl) ?_
  refine lv_iconst (v := 0) C.1 C.2.1 dX5_find_3 (by decide) ?_
  refine lv_iconst (v := 0) C.1 C.2.1 dX5_find_4 (by decide) ?_
  refine lv_iconst (v := 0) C.1 C.2.1 dX5_find_5 (by decide) ?_
  refine gx_callv0 g (gx_runV (k := 10) (rest := []) C g mb_X5_search ml_X5_61 rfl sh_10 (mX5_searchN 8 k2 (0 : Int32) (0 : Int32) (0 : Int32) hk2 _ _ h) ⟨Nat.le_of_ble_eq_true rfl, Nat.le_of_ble_eq_true rfl⟩ ⟨Nat.le_refl _, Nat.le_refl _⟩ rfl hl.1 rfl (Nat.le_of_ble_eq_true rfl) dX5_find_6) rfl rfl (fun σ2 H locs h g => ?_)
  refine lv_aload_n C.1 C.2.1 dX5_find_9 rfl (lv_at hl 0 rfl) ?_
  refine gx_getI C g fl_X5_58 dX5_find_10 sh_10 rfl ?_
  refine gx_ldc C ck_X5_57 dX5_find_13 ?_
  refine lv_icmp_ne (tgt := 20) C.1 C.2.1 dX5_find_15 (by decide) (fun c3 => ?_) (fun c3 => ?_)
  · have h := h.2 c3
    refine lv_aload_n C.1 C.2.1 dX5_find_20 rfl (lv_at hl 0 rfl) ?_
    refine gx_getR C g fl_X5_28 dX5_find_21 sh_10 rfl (by decide) ?_
    refine lv_iconst (v := 0) C.1 C.2.1 dX5_find_24 (by decide) ?_
    refine lv_aload_n C.1 C.2.1 dX5_find_25 rfl (lv_at hl 0 rfl) ?_
    refine gx_getR C g fl_X5_11 dX5_find_26 sh_10 rfl (by decide) ?_
    refine lv_iconst (v := 0) C.1 C.2.1 dX5_find_29 (by decide) ?_
    refine lv_bipush (v := 6) C.1 C.2.1 dX5_find_30 (by decide) ?_
    refine gx_copy (k0 := 47) (k1 := 44) (n := 6) (rest := []) C g al_X5_65 hl.1 (Nat.le_of_ble_eq_true rfl) (Nat.le_of_ble_eq_true rfl) sh_47 sh_44 rfl (by decide) dX5_find_32 (fun H locs σ4 eσ4 g => ?_)
    have h := h σ4 eσ4
    refine lv_aload_n C.1 C.2.1 dX5_find_35 rfl (lv_at hl 0 rfl) ?_
    refine lv_aload_n C.1 C.2.1 dX5_find_36 rfl (lv_at hl 0 rfl) ?_
    refine gx_getI C g fl_X5_35 dX5_find_37 sh_10 rfl ?_
    refine gx_putI C g fi_X5_15 dX5_find_40 sh_10 rfl (fun H locs σ5 eσ5 g => ?_)
    have h := h σ5 eσ5
    refine lv_aload_n C.1 C.2.1 dX5_find_43 rfl (lv_at hl 0 rfl) ?_
    refine gx_getI C g fl_X5_58 dX5_find_44 sh_10 rfl ?_
    exact gx_iret C hr g dX5_find_47 h
  · have h := h.1 c3
    refine lv_iconst (v := -1) C.1 C.2.1 dX5_find_18 (by decide) ?_
    exact gx_iret C hr g dX5_find_19 h
theorem mX5_find {l : Launch} {E : EE} {base : Nat} (k2 : Nat) (hk2 : Stg k2) (σ : St) (Q : Int32 → St → Prop) (h : wX5_find k2 σ Q) : Met l yX5_find (wy yX5_find cX5_find 3 (some .int)) rmX5_find (va_Pc [.ref (ga E 10), .ref (ga E 1), .ref (ga E k2)] (fun U => SW E base σ U)) (QI E base Q) (rmX5_find).cells (rmX5_find).slots (fun q => base ≤ q) :=
  met_of (by decide) (Nat.le_of_ble_eq_true rfl) (fun p e s m args below meth c C hr g ls hl => tX5_find_e C hr hk2  _ _ _ _ hl g h)
