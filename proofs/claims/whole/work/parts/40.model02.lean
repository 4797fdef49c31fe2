abbrev rmX12_plan : Room := { frames := 6, cells := 0, slots := 0, locals := 164 }
def wX12_plan_292 (Q : Int32 → St → Prop) (K71 : Int32 → Int32 → Int32 → Int32 → Int32 → St → Prop) : Nat → Int32 → Int32 → Int32 → Int32 → Int32 → Int32 → St → Prop
  | 0, _, _, _, _, _, _, _ => False
  | n + 1, x1, x2, x3, x4, x5, x8, σ => ((x2 ≤ x8 → K71 x1 x2 x3 x4 x5 σ) ∧ (¬ (x2 ≤ x8) → vp_in x8 6 ∧ vp_in x8 6 ∧ ∀ σ4 : St, σ4 = pv σ 95 x8.toNatClampNeg (gv σ 94 x8.toNatClampNeg) → ∀ x8_5 : Int32, x8_5 = x8 + 1 → wX12_plan_292 Q K71 n x1 x2 x3 x4 x5 x8_5 σ4))
def wX12_plan_229 (Q : Int32 → St → Prop) (K71 : Int32 → Int32 → Int32 → Int32 → Int32 → St → Prop) (x1 : Int32) (x2 : Int32) (x3 : Int32) (x4 : Int32) (x5 : Int32) (x6 : Int32) (σ : St) : Prop := wX12_isGood x6 σ (fun (r1 : Int32) (σ2 : St) => ((r1 = 0 → K71 x1 x2 x3 x4 x5 σ2) ∧ (¬ (r1 = 0) → ((x2 ≤ (x5 + (1 : Int32)) → vp_in x2 7 ∧ ((x3 ≤ (gv σ2 96 x2.toNatClampNeg) → vp_in x2 7 ∧ ∀ x4_8 : Int32, x4_8 = gv σ2 97 x2.toNatClampNeg → ∀ σ9 : St, σ9 = pv σ2 11 75 x2 → ∃ j : Nat, wX12_plan_292 Q K71 j x1 x2 x3 x4_8 x5 (0 : Int32) σ9) ∧ (¬ (x3 ≤ (gv σ2 96 x2.toNatClampNeg)) → K71 x1 x2 x3 x4 x5 σ2))) ∧ (¬ (x2 ≤ (x5 + (1 : Int32))) → ∀ x5_10 : Int32, x5_10 = x5 + 1 → vp_in x5_10 6 ∧ ∀ σ12 : St, σ12 = pv σ2 94 x5_10.toNatClampNeg (-1 : Int32) → K71 x1 x2 x3 x4 x5_10 σ12)))))
def wX12_plan_71 (Q : Int32 → St → Prop) : Nat → Int32 → Int32 → Int32 → Int32 → Int32 → St → Prop
  | 0, _, _, _, _, _, _ => False
  | n + 1, x1, x2, x3, x4, x5, σ => ((x5 < 0 → Q x4 σ) ∧ (¬ (x5 < 0) → vp_in x5 6 ∧ vp_in x5 6 ∧ ∀ σ4 : St, σ4 = pv σ 94 x5.toNatClampNeg ((gv σ 94 x5.toNatClampNeg) + (1 : Int32)) → vp_in x5 6 ∧ vp_in x1 7 ∧ (((gv σ4 94 x5.toNatClampNeg) ≤ (gv σ4 75 x1.toNatClampNeg) → ∀ x6_8 : Int32, x6_8 = (gv σ4 11 51) + x5 → vp_in x5 6 ∧ wX12_steps x6_8 x1 (gv σ4 94 x5.toNatClampNeg) σ4 (fun (σ11 : St) => ∀ x7_12 : Int32, x7_12 = (10 : Int32) * (((7 : Int32) * x6_8) + x1) → vp_in x5 7 ∧ vp_in (x7_12 + (6 : Int32)) 16800 ∧ vp_in (x5 + (1 : Int32)) 7 ∧ ∀ σ16 : St, σ16 = pv σ11 96 (x5 + (1 : Int32)).toNatClampNeg ((gv σ11 96 x5.toNatClampNeg) + (gv σ11 88 (x7_12 + (6 : Int32)).toNatClampNeg)) → vp_in x5 7 ∧ vp_in (x7_12 + (7 : Int32)) 16800 ∧ vp_in (x7_12 + (8 : Int32)) 16800 ∧ vp_in (x5 + (1 : Int32)) 7 ∧ ∀ σ21 : St, σ21 = pv σ16 97 (x5 + (1 : Int32)).toNatClampNeg (((gv σ16 97 x5.toNatClampNeg) + (gv σ16 88 (x7_12 + (7 : Int32)).toNatClampNeg)) + (gv σ16 88 (x7_12 + (8 : Int32)).toNatClampNeg)) → ((x4 = (-1 : Int32) → wX12_plan_229 Q (fun x1' x2' x3' x4' x5' σ' => wX12_plan_71 Q n x1' x2' x3' x4' x5' σ') x1 x2 x3 x4 x5 x6_8 σ21) ∧ (¬ (x4 = (-1 : Int32)) → vp_in (x5 + (1 : Int32)) 7 ∧ ((x4 ≤ (gv σ21 97 (x5 + (1 : Int32)).toNatClampNeg) → wX12_plan_71 Q n x1 x2 x3 x4 x5 σ21) ∧ (¬ (x4 ≤ (gv σ21 97 (x5 + (1 : Int32)).toNatClampNeg)) → wX12_plan_229 Q (fun x1' x2' x3' x4' x5' σ' => wX12_plan_71 Q n x1' x2' x3' x4' x5' σ') x1 x2 x3 x4 x5 x6_8 σ21)))))) ∧ (¬ ((gv σ4 94 x5.toNatClampNeg) ≤ (gv σ4 75 x1.toNatClampNeg)) → ∀ x5_25 : Int32, x5_25 = x5 + (-1) → wX12_plan_71 Q n x1 x2 x3 x4 x5_25 σ4))))
def wX12_plan (x1 : Int32) (x2 : Int32) (x3 : Int32) (σ : St) (Q : Int32 → St → Prop) : Prop := wX12_isMill x1 σ (fun (r1 : Int32) (σ2 : St) => ((r1 = 0 → Q (-2 : Int32) σ2) ∧ (¬ (r1 = 0) → ((x2 < (1 : Int32) → Q (-2 : Int32) σ2) ∧ (¬ (x2 < (1 : Int32)) → (((6 : Int32) < x2 → Q (-2 : Int32) σ2) ∧ (¬ ((6 : Int32) < x2) → (((240 : Int32) < ((gv σ2 11 51) + x2) → Q (-2 : Int32) σ2) ∧ (¬ ((240 : Int32) < ((gv σ2 11 51) + x2)) → ((x3 < 0 → Q (-2 : Int32) σ2) ∧ (¬ (x3 < 0) → ((x3 ≤ (10000 : Int32) → wX12_works (gv σ2 11 52) (-1 : Int32) σ2 (fun (σ10 : St) => wX12_changes σ10 (fun (σ12 : St) => vp_in (0 : Int32) 6 ∧ ∀ σ14 : St, σ14 = pv σ12 94 (0 : Int32).toNatClampNeg (-1 : Int32) → ∃ j : Nat, wX12_plan_71 Q j x1 x2 x3 (-1 : Int32) (0 : Int32) σ14))) ∧ (¬ (x3 ≤ (10000 : Int32)) → Q (-2 : Int32) σ2)))))))))))))
set_option maxHeartbeats 4000000 in
set_option maxRecDepth 100000 in
theorem tX12_plan_292 {p : Program} {l : Launch} {e : Env} {s : State} {m : MethodId} {args : Array Value} {below : List Frame} {meth : Method} {c : Code} {E : EE} {base : Nat} (C : Cx p E base s m args meth c cX12_plan 9 RX12) (hr : meth.sig.returnType = (some .int)) {Q : Int32 → St → Prop} {K71 : Int32 → Int32 → Int32 → Int32 → Int32 → St → Prop} (hK71 : ∀ (x1 : Int32) (x2 : Int32) (x3 : Int32) (x4 : Int32) (x5 : Int32) (σ : St) (H : Heap) (locs : List Loc) (ls : Array Slot), lv_has ls 9 [(0, .ref (ga E 11)), (1, .int x1), (2, .int x2), (3, .int x3), (4, .int x4), (5, .int x5)] → GW E base s σ H locs → K71 x1 x2 x3 x4 x5 σ → W p l e rmX12_plan s m args below meth c H locs 0 0 (MQ below (QI E base Q) args s 0 0 (fun q => base ≤ q)) (F0 m 71 ls [])) : ∀ (n : Nat) (x1 : Int32) (x2 : Int32) (x3 : Int32) (x4 : Int32) (x5 : Int32) (x8 : Int32) (σ : St) (H : Heap) (locs : List Loc) (ls : Array Slot), lv_has ls 9 [(0, .ref (ga E 11)), (1, .int x1), (2, .int x2), (3, .int x3), (4, .int x4), (5, .int x5), (8, .int x8)] → GW E base s σ H locs → wX12_plan_292 Q K71 n x1 x2 x3 x4 x5 x8 σ → W p l e rmX12_plan s m args below meth c H locs 0 0 (MQ below (QI E base Q) args s 0 0 (fun q => base ≤ q)) (F0 m 292 ls []) := by
  intro n
  induction n with
  | zero => intro _ _ _ _ _ _; intros; exact False.elim (by assumption)
  | succ n ih =>
    intro x1 x2 x3 x4 x5 x8 σ H locs ls hl g h
    refine lv_iload C.1 C.2.1 dX12_plan_292 (lv_at hl 6 rfl) ?_
    refine lv_iload_n C.1 C.2.1 dX12_plan_294 rfl (lv_at hl 2 rfl) ?_
    refine lv_icmp_ge (tgt := 318) C.1 C.2.1 dX12_plan_295 (by decide) (fun c1 => ?_) (fun c1 => ?_)
    · have h := h.1 c1
      refine lv_goto (tgt := 71) C.1 C.2.1 dX12_plan_318 (by decide) ?_
      exact hK71 x1 x2 x3 x4 x5 _ _ _ _ (lv_sub hl [0, 1, 2, 3, 4, 5] rfl) g h
    · have h := h.2 c1
      refine lv_aload_n C.1 C.2.1 dX12_plan_298 rfl (lv_at hl 0 rfl) ?_
      refine gx_getR C g fl_X12_167 dX12_plan_299 sh_11 rfl (by decide) ?_
      refine lv_iload C.1 C.2.1 dX12_plan_302 (lv_at hl 6 rfl) ?_
      refine lv_aload_n C.1 C.2.1 dX12_plan_304 rfl (lv_at hl 0 rfl) ?_
      refine gx_getR C g fl_X12_164 dX12_plan_305 sh_11 rfl (by decide) ?_
      refine lv_iload C.1 C.2.1 dX12_plan_308 (lv_at hl 6 rfl) ?_
      obtain ⟨i2, h⟩ := h
      refine gx_iald C g dX12_plan_310 sh_94 i2 ?_
      obtain ⟨i3, h⟩ := h
      refine gx_iast C g dX12_plan_311 sh_95 i3 (fun H locs σ4 eσ4 g => ?_)
      have h := h σ4 eσ4
      obtain ⟨x8_5, ex8_5⟩ : ∃ y : Int32, y = x8 + 1 := ⟨_, rfl⟩
      have h := h x8_5 ex8_5
      refine lv_iinc (v := x8_5) (lv' := [(8, .int x8_5), (0, .ref (ga E 11)), (1, .int x1), (2, .int x2), (3, .int x3), (4, .int x4), (5, .int x5)]) C.1 C.2.1 dX12_plan_312 hl (k := 6) rfl (by rw [ex8_5]; rfl) (by decide) rfl (fun ls hl => ?_)
      refine lv_goto (tgt := 292) C.1 C.2.1 dX12_plan_315 (by decide) ?_
      exact ih x1 x2 x3 x4 x5 x8_5 _ _ _ _ (lv_sub hl [1, 2, 3, 4, 5, 6, 0] rfl) g h
set_option maxHeartbeats 4000000 in
set_option maxRecDepth 100000 in
theorem tX12_plan_229 {p : Program} {l : Launch} {e : Env} {s : State} {m : MethodId} {args : Array Value} {below : List Frame} {meth : Method} {c : Code} {E : EE} {base : Nat} (C : Cx p E base s m args meth c cX12_plan 9 RX12) (hr : meth.sig.returnType = (some .int)) {Q : Int32 → St → Prop} {K71 : Int32 → Int32 → Int32 → Int32 → Int32 → St → Prop} (hK71 : ∀ (x1 : Int32) (x2 : Int32) (x3 : Int32) (x4 : Int32) (x5 : Int32) (σ : St) (H : Heap) (locs : List Loc) (ls : Array Slot), lv_has ls 9 [(0, .ref (ga E 11)), (1, .int x1), (2, .int x2), (3, .int x3), (4, .int x4), (5, .int x5)] → GW E base s σ H locs → K71 x1 x2 x3 x4 x5 σ → W p l e rmX12_plan s m args below meth c H locs 0 0 (MQ below (QI E base Q) args s 0 0 (fun q => base ≤ q)) (F0 m 71 ls [])) : ∀ (x1 : Int32) (x2 : Int32) (x3 : Int32) (x4 : Int32) (x5 : Int32) (x6 : Int32) (σ : St) (H : Heap) (locs : List Loc) (ls : Array Slot), lv_has ls 9 [(0, .ref (ga E 11)), (1, .int x1), (2, .int x2), (3, .int x3), (4, .int x4), (5, .int x5), (6, .int x6)] → GW E base s σ H locs → wX12_plan_229 Q K71 x1 x2 x3 x4 x5 x6 σ → W p l e rmX12_plan s m args below meth c H locs 0 0 (MQ below (QI E base Q) args s 0 0 (fun q => base ≤ q)) (F0 m 229 ls []) := by
  intro x1 x2 x3 x4 x5 x6 σ H locs ls hl g h
  refine lv_aload_n C.1 C.2.1 dX12_plan_229 rfl (lv_at hl 0 rfl) ?_
  refine lv_iload C.1 C.2.1 dX12_plan_230 (lv_at hl 6 rfl) ?_
  refine gx_calli0 g (gx_runV (k := 11) (rest := []) C g mb_X12_isGood ml_X12_374 rfl sh_11 (mX12_isGood x6 _ _ h) ⟨Nat.le_of_ble_eq_true rfl, Nat.le_of_ble_eq_true rfl⟩ ⟨Nat.le_refl _, Nat.le_refl _⟩ rfl hl.1 rfl (Nat.le_of_ble_eq_true rfl) dX12_plan_232) rfl rfl (fun r1 σ2 H locs h g => ?_)
  refine lv_if_ne (tgt := 241) C.1 C.2.1 dX12_plan_235 (by decide) (fun c3 => ?_) (fun c3 => ?_)
  · have h := h.2 c3
    refine lv_iload C.1 C.2.1 dX12_plan_241 (lv_at hl 5 rfl) ?_
    refine lv_iconst (v := 1) C.1 C.2.1 dX12_plan_243 (by decide) ?_
    refine lv_iadd C.1 C.2.1 dX12_plan_244 ?_
    refine lv_iload_n C.1 C.2.1 dX12_plan_245 rfl (lv_at hl 2 rfl) ?_
    refine lv_icmp_ge (tgt := 263) C.1 C.2.1 dX12_plan_246 (by decide) (fun c4 => ?_) (fun c4 => ?_)
    · have h := h.1 c4
      refine lv_aload_n C.1 C.2.1 dX12_plan_263 rfl (lv_at hl 0 rfl) ?_
      refine gx_getR C g fl_X12_170 dX12_plan_264 sh_11 rfl (by decide) ?_
      refine lv_iload_n C.1 C.2.1 dX12_plan_267 rfl (lv_at hl 2 rfl) ?_
      obtain ⟨i5, h⟩ := h
      refine gx_iald C g dX12_plan_268 sh_96 i5 ?_
      refine lv_iload_n C.1 C.2.1 dX12_plan_269 rfl (lv_at hl 3 rfl) ?_
      refine lv_icmp_ge (tgt := 276) C.1 C.2.1 dX12_plan_270 (by decide) (fun c6 => ?_) (fun c6 => ?_)
      · have h := h.1 c6
        refine lv_aload_n C.1 C.2.1 dX12_plan_276 rfl (lv_at hl 0 rfl) ?_
        refine gx_getR C g fl_X12_173 dX12_plan_277 sh_11 rfl (by decide) ?_
        refine lv_iload_n C.1 C.2.1 dX12_plan_280 rfl (lv_at hl 2 rfl) ?_
        obtain ⟨i7, h⟩ := h
        refine gx_iald C g dX12_plan_281 sh_97 i7 ?_
        refine lv_topi (fun x4_8 ex4_8 => ?_)
        have h := h x4_8 ex4_8
        refine lv_istore (lv' := [(4, .int x4_8), (0, .ref (ga E 11)), (1, .int x1), (2, .int x2), (3, .int x3), (5, .int x5), (6, .int x6)]) C.1 C.2.1 dX12_plan_282 hl (by decide) rfl (fun ls hl => ?_)
        refine lv_aload_n C.1 C.2.1 dX12_plan_284 rfl (lv_at hl 1 rfl) ?_
        refine lv_iload_n C.1 C.2.1 dX12_plan_285 rfl (lv_at hl 3 rfl) ?_
        refine gx_putI C g fi_X12_377 dX12_plan_286 sh_11 rfl (fun H locs σ9 eσ9 g => ?_)
        have h := h σ9 eσ9
        refine lv_iconst (v := 0) C.1 C.2.1 dX12_plan_289 (by decide) ?_
        refine lv_istore (lv' := [(8, .int (0 : Int32)), (4, .int x4_8), (0, .ref (ga E 11)), (1, .int x1), (2, .int x2), (3, .int x3), (5, .int x5), (6, .int x6)]) C.1 C.2.1 dX12_plan_290 hl (by decide) rfl (fun ls hl => ?_)
        obtain ⟨j, h⟩ := h
        exact tX12_plan_292 C hr hK71 j x1 x2 x3 x4_8 x5 (0 : Int32) _ _ _ _ (lv_sub hl [2, 3, 4, 5, 1, 6, 0] rfl) g h
      · have h := h.2 c6
        refine lv_goto (tgt := 71) C.1 C.2.1 dX12_plan_273 (by decide) ?_
        exact hK71 x1 x2 x3 x4 x5 _ _ _ _ (lv_sub hl [0, 1, 2, 3, 4, 5] rfl) g h
    · have h := h.2 c4
      obtain ⟨x5_10, ex5_10⟩ : ∃ y : Int32, y = x5 + 1 := ⟨_, rfl⟩
      have h := h x5_10 ex5_10
      refine lv_iinc (v := x5_10) (lv' := [(5, .int x5_10), (0, .ref (ga E 11)), (1, .int x1), (2, .int x2), (3, .int x3), (4, .int x4), (6, .int x6)]) C.1 C.2.1 dX12_plan_249 hl (k := 5) rfl (by rw [ex5_10]; rfl) (by decide) rfl (fun ls hl => ?_)
      refine lv_aload_n C.1 C.2.1 dX12_plan_252 rfl (lv_at hl 1 rfl) ?_
      refine gx_getR C g fl_X12_164 dX12_plan_253 sh_11 rfl (by decide) ?_
      refine lv_iload C.1 C.2.1 dX12_plan_256 (lv_at hl 0 rfl) ?_
      refine lv_iconst (v := -1) C.1 C.2.1 dX12_plan_258 (by decide) ?_
      obtain ⟨i11, h⟩ := h
      refine gx_iast C g dX12_plan_259 sh_94 i11 (fun H locs σ12 eσ12 g => ?_)
      have h := h σ12 eσ12
      refine lv_goto (tgt := 71) C.1 C.2.1 dX12_plan_260 (by decide) ?_
      exact hK71 x1 x2 x3 x4 x5_10 _ _ _ _ (lv_sub hl [1, 2, 3, 4, 5, 0] rfl) g h
  · have h := h.1 c3
    refine lv_goto (tgt := 71) C.1 C.2.1 dX12_plan_238 (by decide) ?_
    exact hK71 x1 x2 x3 x4 x5 _ _ _ _ (lv_sub hl [0, 1, 2, 3, 4, 5] rfl) g h
set_option maxHeartbeats 4000000 in
set_option maxRecDepth 100000 in
theorem tX12_plan_71 {p : Program} {l : Launch} {e : Env} {s : State} {m : MethodId} {args : Array Value} {below : List Frame} {meth : Method} {c : Code} {E : EE} {base : Nat} (C : Cx p E base s m args meth c cX12_plan 9 RX12) (hr : meth.sig.returnType = (some .int)) {Q : Int32 → St → Prop} : ∀ (n : Nat) (x1 : Int32) (x2 : Int32) (x3 : Int32) (x4 : Int32) (x5 : Int32) (σ : St) (H : Heap) (locs : List Loc) (ls : Array Slot), lv_has ls 9 [(0, .ref (ga E 11)), (1, .int x1), (2, .int x2), (3, .int x3), (4, .int x4), (5, .int x5)] → GW E base s σ H locs → wX12_plan_71 Q n x1 x2 x3 x4 x5 σ → W p l e rmX12_plan s m args below meth c H locs 0 0 (MQ below (QI E base Q) args s 0 0 (fun q => base ≤ q)) (F0 m 71 ls []) := by
  intro n
  induction n with
  | zero => intro _ _ _ _ _; intros; exact False.elim (by assumption)
  | succ n ih =>
    intro x1 x2 x3 x4 x5 σ H locs ls hl g h
    refine lv_iload C.1 C.2.1 dX12_plan_71 (lv_at hl 5 rfl) ?_
    refine lv_if_lt (tgt := 321) C.1 C.2.1 dX12_plan_73 (by decide) (fun c1 => ?_) (fun c1 => ?_)
    · have h := h.1 c1
      refine lv_iload C.1 C.2.1 dX12_plan_321 (lv_at hl 4 rfl) ?_
      exact gx_iret C hr g dX12_plan_323 h
    · have h := h.2 c1
      refine lv_aload_n C.1 C.2.1 dX12_plan_76 rfl (lv_at hl 0 rfl) ?_
      refine gx_getR C g fl_X12_164 dX12_plan_77 sh_11 rfl (by decide) ?_
      refine lv_iload C.1 C.2.1 dX12_plan_80 (lv_at hl 5 rfl) ?_
      refine lv_dup2_11 C.1 C.2.1 dX12_plan_82 rfl rfl ?_
      obtain ⟨i2, h⟩ := h
      refine gx_iald C g dX12_plan_83 sh_94 i2 ?_
      refine lv_iconst (v := 1) C.1 C.2.1 dX12_plan_84 (by decide) ?_
      refine lv_iadd C.1 C.2.1 dX12_plan_85 ?_
      obtain ⟨i3, h⟩ := h
      refine gx_iast C g dX12_plan_86 sh_94 i3 (fun H locs σ4 eσ4 g => ?_)
      have h := h σ4 eσ4
      refine lv_aload_n C.1 C.2.1 dX12_plan_87 rfl (lv_at hl 0 rfl) ?_
      refine gx_getR C g fl_X12_164 dX12_plan_88 sh_11 rfl (by decide) ?_
      refine lv_iload C.1 C.2.1 dX12_plan_91 (lv_at hl 5 rfl) ?_
      obtain ⟨i5, h⟩ := h
      refine gx_iald C g dX12_plan_93 sh_94 i5 ?_
      refine lv_aload_n C.1 C.2.1 dX12_plan_94 rfl (lv_at hl 0 rfl) ?_
      refine gx_getR C g fl_X12_101 dX12_plan_95 sh_11 rfl (by decide) ?_
      refine lv_iload_n C.1 C.2.1 dX12_plan_98 rfl (lv_at hl 1 rfl) ?_
      obtain ⟨i6, h⟩ := h
      refine gx_iald C g dX12_plan_99 sh_75 i6 ?_
      refine lv_icmp_le (tgt := 109) C.1 C.2.1 dX12_plan_100 (by decide) (fun c7 => ?_) (fun c7 => ?_)
      · have h := h.1 c7
        refine lv_aload_n C.1 C.2.1 dX12_plan_109 rfl (lv_at hl 0 rfl) ?_
        refine gx_getI C g fl_X12_310 dX12_plan_110 sh_11 rfl ?_
        refine lv_iload C.1 C.2.1 dX12_plan_113 (lv_at hl 5 rfl) ?_
        refine lv_iadd C.1 C.2.1 dX12_plan_115 ?_
        refine lv_topi (fun x6_8 ex6_8 => ?_)
        have h := h x6_8 ex6_8
        refine lv_istore (lv' := [(6, .int x6_8), (0, .ref (ga E 11)), (1, .int x1), (2, .int x2), (3, .int x3), (4, .int x4), (5, .int x5)]) C.1 C.2.1 dX12_plan_116 hl (by decide) rfl (fun ls hl => ?_)
        refine lv_aload_n C.1 C.2.1 dX12_plan_118 rfl (lv_at hl 1 rfl) ?_
        refine lv_iload C.1 C.2.1 dX12_plan_119 (lv_at hl 0 rfl) ?_
        refine lv_iload_n C.1 C.2.1 dX12_plan_121 rfl (lv_at hl 2 rfl) ?_
        refine lv_aload_n C.1 C.2.1 dX12_plan_122 rfl (lv_at hl 1 rfl) ?_
        refine gx_getR C g fl_X12_164 dX12_plan_123 sh_11 rfl (by decide) ?_
        refine lv_iload C.1 C.2.1 dX12_plan_126 (lv_at hl 6 rfl) ?_
        obtain ⟨i9, h⟩ := h
        refine gx_iald C g dX12_plan_128 sh_94 i9 ?_
        refine gx_callv0 g (gx_runV (k := 11) (rest := []) C g mb_X12_steps ml_X12_353 rfl sh_11 (mX12_steps x6_8 x1 (gv σ4 94 x5.toNatClampNeg) _ _ h) ⟨Nat.le_of_ble_eq_true rfl, Nat.le_of_ble_eq_true rfl⟩ ⟨Nat.le_refl _, Nat.le_refl _⟩ rfl hl.1 rfl (Nat.le_of_ble_eq_true rfl) dX12_plan_129) rfl rfl (fun σ11 H locs h g => ?_)
        refine lv_bipush (v := 10) C.1 C.2.1 dX12_plan_132 (by decide) ?_
        refine lv_bipush (v := 7) C.1 C.2.1 dX12_plan_134 (by decide) ?_
        refine lv_iload C.1 C.2.1 dX12_plan_136 (lv_at hl 0 rfl) ?_
        refine lv_imul C.1 C.2.1 dX12_plan_138 ?_
        refine lv_iload_n C.1 C.2.1 dX12_plan_139 rfl (lv_at hl 2 rfl) ?_
        refine lv_iadd C.1 C.2.1 dX12_plan_140 ?_
        refine lv_imul C.1 C.2.1 dX12_plan_141 ?_
        refine lv_topi (fun x7_12 ex7_12 => ?_)
        have h := h x7_12 ex7_12
        refine lv_istore (lv' := [(7, .int x7_12), (6, .int x6_8), (0, .ref (ga E 11)), (1, .int x1), (2, .int x2), (3, .int x3), (4, .int x4), (5, .int x5)]) C.1 C.2.1 dX12_plan_142 hl (by decide) rfl (fun ls hl => ?_)
        refine lv_aload_n C.1 C.2.1 dX12_plan_144 rfl (lv_at hl 2 rfl) ?_
        refine gx_getR C g fl_X12_170 dX12_plan_145 sh_11 rfl (by decide) ?_
        refine lv_iload C.1 C.2.1 dX12_plan_148 (lv_at hl 7 rfl) ?_
        refine lv_iconst (v := 1) C.1 C.2.1 dX12_plan_150 (by decide) ?_
        refine lv_iadd C.1 C.2.1 dX12_plan_151 ?_
        refine lv_aload_n C.1 C.2.1 dX12_plan_152 rfl (lv_at hl 2 rfl) ?_
        refine gx_getR C g fl_X12_170 dX12_plan_153 sh_11 rfl (by decide) ?_
        refine lv_iload C.1 C.2.1 dX12_plan_156 (lv_at hl 7 rfl) ?_
        obtain ⟨i13, h⟩ := h
        refine gx_iald C g dX12_plan_158 sh_96 i13 ?_
        refine lv_aload_n C.1 C.2.1 dX12_plan_159 rfl (lv_at hl 2 rfl) ?_
        refine gx_getR C g fl_X12_140 dX12_plan_160 sh_11 rfl (by decide) ?_
        refine lv_iload C.1 C.2.1 dX12_plan_163 (lv_at hl 0 rfl) ?_
        refine lv_bipush (v := 6) C.1 C.2.1 dX12_plan_165 (by decide) ?_
        refine lv_iadd C.1 C.2.1 dX12_plan_167 ?_
        obtain ⟨i14, h⟩ := h
        refine gx_iald C g dX12_plan_168 sh_88 i14 ?_
        refine lv_iadd C.1 C.2.1 dX12_plan_169 ?_
        obtain ⟨i15, h⟩ := h
        refine gx_iast C g dX12_plan_170 sh_96 i15 (fun H locs σ16 eσ16 g => ?_)
        have h := h σ16 eσ16
        refine lv_aload_n C.1 C.2.1 dX12_plan_171 rfl (lv_at hl 2 rfl) ?_
        refine gx_getR C g fl_X12_173 dX12_plan_172 sh_11 rfl (by decide) ?_
        refine lv_iload C.1 C.2.1 dX12_plan_175 (lv_at hl 7 rfl) ?_
        refine lv_iconst (v := 1) C.1 C.2.1 dX12_plan_177 (by decide) ?_
        refine lv_iadd C.1 C.2.1 dX12_plan_178 ?_
        refine lv_aload_n C.1 C.2.1 dX12_plan_179 rfl (lv_at hl 2 rfl) ?_
        refine gx_getR C g fl_X12_173 dX12_plan_180 sh_11 rfl (by decide) ?_
        refine lv_iload C.1 C.2.1 dX12_plan_183 (lv_at hl 7 rfl) ?_
        obtain ⟨i17, h⟩ := h
        refine gx_iald C g dX12_plan_185 sh_97 i17 ?_
        refine lv_aload_n C.1 C.2.1 dX12_plan_186 rfl (lv_at hl 2 rfl) ?_
        refine gx_getR C g fl_X12_140 dX12_plan_187 sh_11 rfl (by decide) ?_
        refine lv_iload C.1 C.2.1 dX12_plan_190 (lv_at hl 0 rfl) ?_
        refine lv_bipush (v := 7) C.1 C.2.1 dX12_plan_192 (by decide) ?_
        refine lv_iadd C.1 C.2.1 dX12_plan_194 ?_
        obtain ⟨i18, h⟩ := h
        refine gx_iald C g dX12_plan_195 sh_88 i18 ?_
        refine lv_iadd C.1 C.2.1 dX12_plan_196 ?_
        refine lv_aload_n C.1 C.2.1 dX12_plan_197 rfl (lv_at hl 2 rfl) ?_
        refine gx_getR C g fl_X12_140 dX12_plan_198 sh_11 rfl (by decide) ?_
        refine lv_iload C.1 C.2.1 dX12_plan_201 (lv_at hl 0 rfl) ?_
        refine lv_bipush (v := 8) C.1 C.2.1 dX12_plan_203 (by decide) ?_
        refine lv_iadd C.1 C.2.1 dX12_plan_205 ?_
        obtain ⟨i19, h⟩ := h
        refine gx_iald C g dX12_plan_206 sh_88 i19 ?_
        refine lv_iadd C.1 C.2.1 dX12_plan_207 ?_
        obtain ⟨i20, h⟩ := h
        refine gx_iast C g dX12_plan_208 sh_97 i20 (fun H locs σ21 eσ21 g => ?_)
        have h := h σ21 eσ21
        refine lv_iload C.1 C.2.1 dX12_plan_209 (lv_at hl 6 rfl) ?_
        refine lv_iconst (v := -1) C.1 C.2.1 dX12_plan_211 (by decide) ?_
        refine lv_icmp_eq (tgt := 229) C.1 C.2.1 dX12_plan_212 (by decide) (fun c22 => ?_) (fun c22 => ?_)
        · have h := h.1 c22
          exact tX12_plan_229 C hr ih x1 x2 x3 x4 x5 x6_8 _ _ _ _ (lv_sub hl [2, 3, 4, 5, 6, 7, 1] rfl) g h
        · have h := h.2 c22
          refine lv_aload_n C.1 C.2.1 dX12_plan_215 rfl (lv_at hl 2 rfl) ?_
          refine gx_getR C g fl_X12_173 dX12_plan_216 sh_11 rfl (by decide) ?_
          refine lv_iload C.1 C.2.1 dX12_plan_219 (lv_at hl 7 rfl) ?_
          refine lv_iconst (v := 1) C.1 C.2.1 dX12_plan_221 (by decide) ?_
          refine lv_iadd C.1 C.2.1 dX12_plan_222 ?_
          obtain ⟨i23, h⟩ := h
          refine gx_iald C g dX12_plan_223 sh_97 i23 ?_
          refine lv_iload C.1 C.2.1 dX12_plan_224 (lv_at hl 6 rfl) ?_
          refine lv_icmp_ge (tgt := 71) C.1 C.2.1 dX12_plan_226 (by decide) (fun c24 => ?_) (fun c24 => ?_)
          · have h := h.1 c24
            exact ih x1 x2 x3 x4 x5 _ _ _ _ (lv_sub hl [2, 3, 4, 5, 6, 7] rfl) g h
          · have h := h.2 c24
            exact tX12_plan_229 C hr ih x1 x2 x3 x4 x5 x6_8 _ _ _ _ (lv_sub hl [2, 3, 4, 5, 6, 7, 1] rfl) g h
      · have h := h.2 c7
        obtain ⟨x5_25, ex5_25⟩ : ∃ y : Int32, y = x5 + (-1) := ⟨_, rfl⟩
        have h := h x5_25 ex5_25
        refine lv_iinc (v := x5_25) (lv' := [(5, .int x5_25), (0, .ref (ga E 11)), (1, .int x1), (2, .int x2), (3, .int x3), (4, .int x4)]) C.1 C.2.1 dX12_plan_103 hl (k := 5) rfl (by rw [ex5_25]; rfl) (by decide) rfl (fun ls hl => ?_)
        refine lv_goto (tgt := 71) C.1 C.2.1 dX12_plan_106 (by decide) ?_
        exact ih x1 x2 x3 x4 x5_25 _ _ _ _ (lv_sub hl [1, 2, 3, 4, 5, 0] rfl) g h
set_option maxHeartbeats 4000000 in
set_option maxRecDepth 100000 in
theorem tX12_plan_e {p : Program} {l : Launch} {e : Env} {s : State} {m : MethodId} {args : Array Value} {below : List Frame} {meth : Method} {c : Code} {E : EE} {base : Nat} (C : Cx p E base s m args meth c cX12_plan 9 RX12) (hr : meth.sig.returnType = (some .int)) {Q : Int32 → St → Prop} : ∀ (x1 : Int32) (x2 : Int32) (x3 : Int32) (σ : St) (H : Heap) (locs : List Loc) (ls : Array Slot), lv_has ls 9 [(0, .ref (ga E 11)), (1, .int x1), (2, .int x2), (3, .int x3)] → GW E base s σ H locs → wX12_plan x1 x2 x3 σ Q → W p l e rmX12_plan s m args below meth c H locs 0 0 (MQ below (QI E base Q) args s 0 0 (fun q => base ≤ q)) (F0 m 0 ls []) := by
  intro x1 x2 x3 σ H locs ls hl g h
  refine lv_aload_n C.1 C.2.1 dX12_plan_0 rfl (lv_at hl 0 rfl) ?_
  refine lv_iload_n C.1 C.2.1 dX12_plan_1 rfl (lv_at hl 1 rfl) ?_
  refine gx_calli0 g (gx_runV (k := 11) (rest := []) C g mb_X12_isMill ml_X12_319 rfl sh_11 (mX12_isMill x1 _ _ h) ⟨Nat.le_of_ble_eq_true rfl, Nat.le_of_ble_eq_true rfl⟩ ⟨Nat.le_refl _, Nat.le_refl _⟩ rfl hl.1 rfl (Nat.le_of_ble_eq_true rfl) dX12_plan_2) rfl rfl (fun r1 σ2 H locs h g => ?_)
  refine lv_if_eq (tgt := 42) C.1 C.2.1 dX12_plan_5 (by decide) (fun c3 => ?_) (fun c3 => ?_)
  · have h := h.1 c3
    refine lv_bipush (v := -2) C.1 C.2.1 dX12_plan_42 (by decide) ?_
    exact gx_iret C hr g dX12_plan_44 h
  · have h := h.2 c3
    refine lv_iload_n C.1 C.2.1 dX12_plan_8 rfl (lv_at hl 2 rfl) ?_
    refine lv_iconst (v := 1) C.1 C.2.1 dX12_plan_9 (by decide) ?_
    refine lv_icmp_lt (tgt := 42) C.1 C.2.1 dX12_plan_10 (by decide) (fun c4 => ?_) (fun c4 => ?_)
    · have h := h.1 c4
      refine lv_bipush (v := -2) C.1 C.2.1 dX12_plan_42 (by decide) ?_
      exact gx_iret C hr g dX12_plan_44 h
    · have h := h.2 c4
      refine lv_iload_n C.1 C.2.1 dX12_plan_13 rfl (lv_at hl 2 rfl) ?_
      refine lv_bipush (v := 6) C.1 C.2.1 dX12_plan_14 (by decide) ?_
      refine lv_icmp_gt (tgt := 42) C.1 C.2.1 dX12_plan_16 (by decide) (fun c5 => ?_) (fun c5 => ?_)
      · have h := h.1 c5
        refine lv_bipush (v := -2) C.1 C.2.1 dX12_plan_42 (by decide) ?_
        exact gx_iret C hr g dX12_plan_44 h
      · have h := h.2 c5
        refine lv_aload_n C.1 C.2.1 dX12_plan_19 rfl (lv_at hl 0 rfl) ?_
        refine gx_getI C g fl_X12_310 dX12_plan_20 sh_11 rfl ?_
        refine lv_iload_n C.1 C.2.1 dX12_plan_23 rfl (lv_at hl 2 rfl) ?_
        refine lv_iadd C.1 C.2.1 dX12_plan_24 ?_
        refine lv_sipush (v := 240) C.1 C.2.1 dX12_plan_25 (by decide) ?_
        refine lv_icmp_gt (tgt := 42) C.1 C.2.1 dX12_plan_28 (by decide) (fun c6 => ?_) (fun c6 => ?_)
        · have h := h.1 c6
          refine lv_bipush (v := -2) C.1 C.2.1 dX12_plan_42 (by decide) ?_
          exact gx_iret C hr g dX12_plan_44 h
        · have h := h.2 c6
          refine lv_iload_n C.1 C.2.1 dX12_plan_31 rfl (lv_at hl 3 rfl) ?_
          refine lv_if_lt (tgt := 42) C.1 C.2.1 dX12_plan_32 (by decide) (fun c7 => ?_) (fun c7 => ?_)
          · have h := h.1 c7
            refine lv_bipush (v := -2) C.1 C.2.1 dX12_plan_42 (by decide) ?_
            exact gx_iret C hr g dX12_plan_44 h
          · have h := h.2 c7
            refine lv_iload_n C.1 C.2.1 dX12_plan_35 rfl (lv_at hl 3 rfl) ?_
            refine lv_sipush (v := 10000) C.1 C.2.1 dX12_plan_36 (by decide) ?_
            refine lv_icmp_le (tgt := 45) C.1 C.2.1 dX12_plan_39 (by decide) (fun c8 => ?_) (fun c8 => ?_)
            · have h := h.1 c8
              refine lv_aload_n C.1 C.2.1 dX12_plan_45 rfl (lv_at hl 0 rfl) ?_
              refine lv_aload_n C.1 C.2.1 dX12_plan_46 rfl (lv_at hl 0 rfl) ?_
              refine gx_getI C g fl_X12_316 dX12_plan_47 sh_11 rfl ?_
              refine lv_iconst (v := -1) C.1 C.2.1 dX12_plan_50 (by decide) ?_
              refine gx_callv0 g (gx_runV (k := 11) (rest := []) C g mb_X12_works ml_X12_361 rfl sh_11 (mX12_works (gv σ2 11 52) (-1 : Int32) _ _ h) ⟨Nat.le_of_ble_eq_true rfl, Nat.le_of_ble_eq_true rfl⟩ ⟨Nat.le_refl _, Nat.le_refl _⟩ rfl hl.1 rfl (Nat.le_of_ble_eq_true rfl) dX12_plan_51) rfl rfl (fun σ10 H locs h g => ?_)
              refine lv_aload_n C.1 C.2.1 dX12_plan_54 rfl (lv_at hl 0 rfl) ?_
              refine gx_callv0 g (gx_runV (k := 11) (rest := []) C g mb_X12_changes ml_X12_278 rfl sh_11 (mX12_changes _ _ h) ⟨Nat.le_of_ble_eq_true rfl, Nat.le_of_ble_eq_true rfl⟩ ⟨Nat.le_refl _, Nat.le_refl _⟩ rfl hl.1 rfl (Nat.le_of_ble_eq_true rfl) dX12_plan_55) rfl rfl (fun σ12 H locs h g => ?_)
              refine lv_iconst (v := -1) C.1 C.2.1 dX12_plan_58 (by decide) ?_
              refine lv_istore (lv' := [(4, .int (-1 : Int32)), (0, .ref (ga E 11)), (1, .int x1), (2, .int x2), (3, .int x3)]) C.1 C.2.1 dX12_plan_59 hl (by decide) rfl (fun ls hl => ?_)
              refine lv_iconst (v := 0) C.1 C.2.1 dX12_plan_61 (by decide) ?_
              refine lv_istore (lv' := [(5, .int (0 : Int32)), (4, .int (-1 : Int32)), (0, .ref (ga E 11)), (1, .int x1), (2, .int x2), (3, .int x3)]) C.1 C.2.1 dX12_plan_62 hl (by decide) rfl (fun ls hl => ?_)
              refine lv_aload_n C.1 C.2.1 dX12_plan_64 rfl (lv_at hl 2 rfl) ?_
              refine gx_getR C g fl_X12_164 dX12_plan_65 sh_11 rfl (by decide) ?_
              refine lv_iconst (v := 0) C.1 C.2.1 dX12_plan_68 (by decide) ?_
              refine lv_iconst (v := -1) C.1 C.2.1 dX12_plan_69 (by decide) ?_
              obtain ⟨i13, h⟩ := h
              refine gx_iast C g dX12_plan_70 sh_94 i13 (fun H locs σ14 eσ14 g => ?_)
              have h := h σ14 eσ14
              obtain ⟨j, h⟩ := h
              exact tX12_plan_71 C hr j x1 x2 x3 (-1 : Int32) (0 : Int32) _ _ _ _ (lv_sub hl [2, 3, 4, 5, 1, 0] rfl) g h
            · have h := h.2 c8
              refine lv_bipush (v := -2) C.1 C.2.1 dX12_plan_42 (by decide) ?_
              exact gx_iret C hr g dX12_plan_44 h
theorem mX12_plan {l : Launch} {E : EE} {base : Nat} (x1 : Int32) (x2 : Int32) (x3 : Int32) (σ : St) (Q : Int32 → St → Prop) (h : wX12_plan x1 x2 x3 σ Q) : Met l yX12_plan (wy yX12_plan cX12_plan 9 (some .int)) rmX12_plan (va_Pc [.ref (ga E 11), .int x1, .int x2, .int x3] (fun U => SW E base σ U)) (QI E base Q) (rmX12_plan).cells (rmX12_plan).slots (fun q => base ≤ q) :=
  met_of (by decide) (Nat.le_of_ble_eq_true rfl) (fun p e s m args below meth c C hr g ls hl => tX12_plan_e C hr x1 x2 x3 _ _ _ _ hl g h)
abbrev rmX12_planned : Room := { frames := 0, cells := 0, slots := 0, locals := 0 }
def wX12_planned_12 (Q : Int32 → St → Prop) (σ : St) : Prop := Q (-1 : Int32) σ
def wX12_planned (x1 : Int32) (σ : St) (Q : Int32 → St → Prop) : Prop := ((x1 < 0 → wX12_planned_12 Q σ) ∧ (¬ (x1 < 0) → ((x1 < (gv σ 11 75) → vp_in x1 6 ∧ Q (gv σ 95 x1.toNatClampNeg) σ) ∧ (¬ (x1 < (gv σ 11 75)) → wX12_planned_12 Q σ))))
set_option maxHeartbeats 4000000 in
set_option maxRecDepth 100000 in
theorem tX12_planned_12 {p : Program} {l : Launch} {e : Env} {s : State} {m : MethodId} {args : Array Value} {below : List Frame} {meth : Method} {c : Code} {E : EE} {base : Nat} (C : Cx p E base s m args meth c cX12_planned 2 RX12) (hr : meth.sig.returnType = (some .int)) {Q : Int32 → St → Prop} : ∀ (σ : St) (H : Heap) (locs : List Loc) (ls : Array Slot), lv_has ls 2 [] → GW E base s σ H locs → wX12_planned_12 Q σ → W p l e rmX12_planned s m args below meth c H locs 0 0 (MQ below (QI E base Q) args s 0 0 (fun q => base ≤ q)) (F0 m 12 ls []) := by
  intro σ H locs ls hl g h
  refine lv_iconst (v := -1) C.1 C.2.1 dX12_planned_12 (by decide) ?_
  refine lv_goto (tgt := 22) C.1 C.2.1 dX12_planned_13 (by decide) ?_
  exact gx_iret C hr g dX12_planned_22 h
set_option maxHeartbeats 4000000 in
set_option maxRecDepth 100000 in
theorem tX12_planned_e {p : Program} {l : Launch} {e : Env} {s : State} {m : MethodId} {args : Array Value} {below : List Frame} {meth : Method} {c : Code} {E : EE} {base : Nat} (C : Cx p E base s m args meth c cX12_planned 2 RX12) (hr : meth.sig.returnType = (some .int)) {Q : Int32 → St → Prop} : ∀ (x1 : Int32) (σ : St) (H : Heap) (locs : List Loc) (ls : Array Slot), lv_has ls 2 [(0, .ref (ga E 11)), (1, .int x1)] → GW E base s σ H locs → wX12_planned x1 σ Q → W p l e rmX12_planned s m args below meth c H locs 0 0 (MQ below (QI E base Q) args s 0 0 (fun q => base ≤ q)) (F0 m 0 ls []) := by
  intro x1 σ H locs ls hl g h
  refine lv_iload_n C.1 C.2.1 dX12_planned_0 rfl (lv_at hl 1 rfl) ?_
  refine lv_if_lt (tgt := 12) C.1 C.2.1 dX12_planned_1 (by decide) (fun c1 => ?_) (fun c1 => ?_)
  · have h := h.1 c1
    exact tX12_planned_12 C hr _ _ _ _ (lv_sub hl [] rfl) g h
  · have h := h.2 c1
    refine lv_iload_n C.1 C.2.1 dX12_planned_4 rfl (lv_at hl 1 rfl) ?_
    refine lv_aload_n C.1 C.2.1 dX12_planned_5 rfl (lv_at hl 0 rfl) ?_
    refine gx_getI C g fl_X12_377 dX12_planned_6 sh_11 rfl ?_
    refine lv_icmp_lt (tgt := 16) C.1 C.2.1 dX12_planned_9 (by decide) (fun c2 => ?_) (fun c2 => ?_)
    · have h := h.1 c2
      refine lv_aload_n C.1 C.2.1 dX12_planned_16 rfl (lv_at hl 0 rfl) ?_
      refine gx_getR C g fl_X12_167 dX12_planned_17 sh_11 rfl (by decide) ?_
      refine lv_iload_n C.1 C.2.1 dX12_planned_20 rfl (lv_at hl 1 rfl) ?_
      obtain ⟨i3, h⟩ := h
      refine gx_iald C g dX12_planned_21 sh_95 i3 ?_
      exact gx_iret C hr g dX12_planned_22 h
    · have h := h.2 c2
      exact tX12_planned_12 C hr _ _ _ _ (lv_sub hl [] rfl) g h
theorem mX12_planned {l : Launch} {E : EE} {base : Nat} (x1 : Int32) (σ : St) (Q : Int32 → St → Prop) (h : wX12_planned x1 σ Q) : Met l yX12_planned (wy yX12_planned cX12_planned 2 (some .int)) rmX12_planned (va_Pc [.ref (ga E 11), .int x1] (fun U => SW E base σ U)) (QI E base Q) (rmX12_planned).cells (rmX12_planned).slots (fun q => base ≤ q) :=
  met_of (by decide) (Nat.le_of_ble_eq_true rfl) (fun p e s m args below meth c C hr g ls hl => tX12_planned_e C hr x1 _ _ _ _ hl g h)
abbrev rmX12_grinds : Room := { frames := 6, cells := 0, slots := 0, locals := 164 }
def wX12_grinds_224 (Q : St → Prop) (K38 : Int32 → Int32 → St → Prop) (K46 : Int32 → Int32 → Int32 → St → Prop) (x2 : Int32) (x3 : Int32) (x4 : Int32) (σ : St) : Prop := ∀ x4_1 : Int32, x4_1 = x4 + 1 → K46 x2 x3 x4_1 σ
def wX12_grinds_218 (Q : St → Prop) (K38 : Int32 → Int32 → St → Prop) (K46 : Int32 → Int32 → Int32 → St → Prop) (K78 : Int32 → Int32 → Int32 → Int32 → Int32 → St → Prop) (x2 : Int32) (x3 : Int32) (x4 : Int32) (x5 : Int32) (x6 : Int32) (σ : St) : Prop := ∀ x6_1 : Int32, x6_1 = x6 + 1 → K78 x2 x3 x4 x5 x6_1 σ
def wX12_grinds_172 (Q : St → Prop) (K38 : Int32 → Int32 → St → Prop) (K46 : Int32 → Int32 → Int32 → St → Prop) (K78 : Int32 → Int32 → Int32 → Int32 → Int32 → St → Prop) (x2 : Int32) (x3 : Int32) (x4 : Int32) (x5 : Int32) (x6 : Int32) (xt0 : Int32) (σ : St) : Prop := vp_in x6 60 ∧ vp_in x6 60 ∧ ∀ σ3 : St, σ3 = pv σ 98 x6.toNatClampNeg ((gv σ 98 x6.toNatClampNeg) + xt0) → ∀ x5_4 : Int32, x5_4 = x5 - xt0 → vp_in x6 60 ∧ vp_in x6 60 ∧ (((gv σ3 98 x6.toNatClampNeg) = (gv σ3 86 x6.toNatClampNeg) → vp_in x6 60 ∧ ∀ σ9 : St, σ9 = pv σ3 99 x6.toNatClampNeg x3 → wX12_grinds_218 Q K38 K46 K78 x2 x3 x4 x5_4 x6 σ9) ∧ (¬ ((gv σ3 98 x6.toNatClampNeg) = (gv σ3 86 x6.toNatClampNeg)) → wX12_grinds_218 Q K38 K46 K78 x2 x3 x4 x5_4 x6 σ3))
def wX12_grinds_78 (Q : St → Prop) (K38 : Int32 → Int32 → St → Prop) (K46 : Int32 → Int32 → Int32 → St → Prop) : Nat → Int32 → Int32 → Int32 → Int32 → Int32 → St → Prop
  | 0, _, _, _, _, _, _ => False
  | n + 1, x2, x3, x4, x5, x6, σ => (((gv σ 11 61) ≤ x6 → wX12_grinds_224 Q K38 K46 x2 x3 x4 σ) ∧ (¬ ((gv σ 11 61) ≤ x6) → ((x5 ≤ 0 → wX12_grinds_224 Q K38 K46 x2 x3 x4 σ) ∧ (¬ (x5 ≤ 0) → vp_in x6 60 ∧ (((gv σ 85 x6.toNatClampNeg) = x4 → vp_in x6 60 ∧ (((gv σ 99 x6.toNatClampNeg) = (-1 : Int32) → vp_in x6 60 ∧ (((gv σ 87 x6.toNatClampNeg) ≤ x3 → vp_in x6 60 ∧ vp_in x6 60 ∧ ((x5 ≤ ((gv σ 86 x6.toNatClampNeg) - (gv σ 98 x6.toNatClampNeg)) → wX12_grinds_172 Q K38 K46 (fun x2' x3' x4' x5' x6' σ' => wX12_grinds_78 Q K38 K46 n x2' x3' x4' x5' x6' σ') x2 x3 x4 x5 x6 x5 σ) ∧ (¬ (x5 ≤ ((gv σ 86 x6.toNatClampNeg) - (gv σ 98 x6.toNatClampNeg))) → vp_in x6 60 ∧ vp_in x6 60 ∧ wX12_grinds_172 Q K38 K46 (fun x2' x3' x4' x5' x6' σ' => wX12_grinds_78 Q K38 K46 n x2' x3' x4' x5' x6' σ') x2 x3 x4 x5 x6 ((gv σ 86 x6.toNatClampNeg) - (gv σ 98 x6.toNatClampNeg)) σ))) ∧ (¬ ((gv σ 87 x6.toNatClampNeg) ≤ x3) → wX12_grinds_224 Q K38 K46 x2 x3 x4 σ))) ∧ (¬ ((gv σ 99 x6.toNatClampNeg) = (-1 : Int32)) → wX12_grinds_218 Q K38 K46 (fun x2' x3' x4' x5' x6' σ' => wX12_grinds_78 Q K38 K46 n x2' x3' x4' x5' x6' σ') x2 x3 x4 x5 x6 σ))) ∧ (¬ ((gv σ 85 x6.toNatClampNeg) = x4) → wX12_grinds_218 Q K38 K46 (fun x2' x3' x4' x5' x6' σ' => wX12_grinds_78 Q K38 K46 n x2' x3' x4' x5' x6' σ') x2 x3 x4 x5 x6 σ))))))
def wX12_grinds_46 (Q : St → Prop) (K38 : Int32 → Int32 → St → Prop) : Nat → Int32 → Int32 → Int32 → St → Prop
  | 0, _, _, _, _ => False
  | n + 1, x2, x3, x4, σ => (((gv σ 11 43) ≤ x4 → ∀ x3_2 : Int32, x3_2 = x3 + 1 → K38 x2 x3_2 σ) ∧ (¬ ((gv σ 11 43) ≤ x4) → vp_in (((10 : Int32) * (((7 : Int32) * x3) + x4)) + (6 : Int32)) 16800 ∧ ∀ x5_4 : Int32, x5_4 = gv σ 88 (((10 : Int32) * (((7 : Int32) * x3) + x4)) + (6 : Int32)).toNatClampNeg → ∃ j : Nat, wX12_grinds_78 Q K38 (fun x2' x3' x4' σ' => wX12_grinds_46 Q K38 n x2' x3' x4' σ') j x2 x3 x4 x5_4 (0 : Int32) σ))
def wX12_grinds_38 (Q : St → Prop) : Nat → Int32 → Int32 → St → Prop
  | 0, _, _, _ => False
  | n + 1, x2, x3, σ => ((x2 ≤ x3 → Q σ) ∧ (¬ (x2 ≤ x3) → ∃ j : Nat, wX12_grinds_46 Q (fun x2' x3' σ' => wX12_grinds_38 Q n x2' x3' σ') j x2 x3 (0 : Int32) σ))
def wX12_grinds_8 (Q : St → Prop) : Nat → Int32 → Int32 → St → Prop
  | 0, _, _, _ => False
  | n + 1, x2, x3, σ => (((gv σ 11 61) ≤ x3 → ∃ j : Nat, wX12_grinds_38 Q j x2 (0 : Int32) σ) ∧ (¬ ((gv σ 11 61) ≤ x3) → vp_in x3 60 ∧ ∀ σ3 : St, σ3 = pv σ 98 x3.toNatClampNeg (0 : Int32) → vp_in x3 60 ∧ ∀ σ5 : St, σ5 = pv σ3 99 x3.toNatClampNeg (-1 : Int32) → ∀ x3_6 : Int32, x3_6 = x3 + 1 → wX12_grinds_8 Q n x2 x3_6 σ5))
def wX12_grinds (x1 : Int32) (x2 : Int32) (σ : St) (Q : St → Prop) : Prop := wX12_works x1 (-1 : Int32) σ (fun (σ2 : St) => ∃ j : Nat, wX12_grinds_8 Q j x2 (0 : Int32) σ2)
set_option maxHeartbeats 4000000 in
set_option maxRecDepth 100000 in
theorem tX12_grinds_224 {p : Program} {l : Launch} {e : Env} {s : State} {m : MethodId} {args : Array Value} {below : List Frame} {meth : Method} {c : Code} {E : EE} {base : Nat} (C : Cx p E base s m args meth c cX12_grinds 8 RX12) (hr : meth.sig.returnType = none) {Q : St → Prop} {K38 : Int32 → Int32 → St → Prop} (hK38 : ∀ (x2 : Int32) (x3 : Int32) (σ : St) (H : Heap) (locs : List Loc) (ls : Array Slot), lv_has ls 8 [(0, .ref (ga E 11)), (2, .int x2), (3, .int x3)] → GW E base s σ H locs → K38 x2 x3 σ → W p l e rmX12_grinds s m args below meth c H locs 0 0 (MQ below (QV E base Q) args s 0 0 (fun q => base ≤ q)) (F0 m 38 ls [])) {K46 : Int32 → Int32 → Int32 → St → Prop} (hK46 : ∀ (x2 : Int32) (x3 : Int32) (x4 : Int32) (σ : St) (H : Heap) (locs : List Loc) (ls : Array Slot), lv_has ls 8 [(0, .ref (ga E 11)), (2, .int x2), (3, .int x3), (4, .int x4)] → GW E base s σ H locs → K46 x2 x3 x4 σ → W p l e rmX12_grinds s m args below meth c H locs 0 0 (MQ below (QV E base Q) args s 0 0 (fun q => base ≤ q)) (F0 m 46 ls [])) : ∀ (x2 : Int32) (x3 : Int32) (x4 : Int32) (σ : St) (H : Heap) (locs : List Loc) (ls : Array Slot), lv_has ls 8 [(0, .ref (ga E 11)), (2, .int x2), (3, .int x3), (4, .int x4)] → GW E base s σ H locs → wX12_grinds_224 Q K38 K46 x2 x3 x4 σ → W p l e rmX12_grinds s m args below meth c H locs 0 0 (MQ below (QV E base Q) args s 0 0 (fun q => base ≤ q)) (F0 m 224 ls []) := by
  intro x2 x3 x4 σ H locs ls hl g h
  obtain ⟨x4_1, ex4_1⟩ : ∃ y : Int32, y = x4 + 1 := ⟨_, rfl⟩
  have h := h x4_1 ex4_1
  refine lv_iinc (v := x4_1) (lv' := [(4, .int x4_1), (0, .ref (ga E 11)), (2, .int x2), (3, .int x3)]) C.1 C.2.1 dX12_grinds_224 hl (k := 3) rfl (by rw [ex4_1]; rfl) (by decide) rfl (fun ls hl => ?_)
  refine lv_goto (tgt := 46) C.1 C.2.1 dX12_grinds_227 (by decide) ?_
  exact hK46 x2 x3 x4_1 _ _ _ _ (lv_sub hl [1, 2, 3, 0] rfl) g h
set_option maxHeartbeats 4000000 in
set_option maxRecDepth 100000 in
theorem tX12_grinds_218 {p : Program} {l : Launch} {e : Env} {s : State} {m : MethodId} {args : Array Value} {below : List Frame} {meth : Method} {c : Code} {E : EE} {base : Nat} (C : Cx p E base s m args meth c cX12_grinds 8 RX12) (hr : meth.sig.returnType = none) {Q : St → Prop} {K38 : Int32 → Int32 → St → Prop} (hK38 : ∀ (x2 : Int32) (x3 : Int32) (σ : St) (H : Heap) (locs : List Loc) (ls : Array Slot), lv_has ls 8 [(0, .ref (ga E 11)), (2, .int x2), (3, .int x3)] → GW E base s σ H locs → K38 x2 x3 σ → W p l e rmX12_grinds s m args below meth c H locs 0 0 (MQ below (QV E base Q) args s 0 0 (fun q => base ≤ q)) (F0 m 38 ls [])) {K46 : Int32 → Int32 → Int32 → St → Prop} (hK46 : ∀ (x2 : Int32) (x3 : Int32) (x4 : Int32) (σ : St) (H : Heap) (locs : List Loc) (ls : Array Slot), lv_has ls 8 [(0, .ref (ga E 11)), (2, .int x2), (3, .int x3), (4, .int x4)] → GW E base s σ H locs → K46 x2 x3 x4 σ → W p l e rmX12_grinds s m args below meth c H locs 0 0 (MQ below (QV E base Q) args s 0 0 (fun q => base ≤ q)) (F0 m 46 ls [])) {K78 : Int32 → Int32 → Int32 → Int32 → Int32 → St → Prop} (hK78 : ∀ (x2 : Int32) (x3 : Int32) (x4 : Int32) (x5 : Int32) (x6 : Int32) (σ : St) (H : Heap) (locs : List Loc) (ls : Array Slot), lv_has ls 8 [(0, .ref (ga E 11)), (2, .int x2), (3, .int x3), (4, .int x4), (5, .int x5), (6, .int x6)] → GW E base s σ H locs → K78 x2 x3 x4 x5 x6 σ → W p l e rmX12_grinds s m args below meth c H locs 0 0 (MQ below (QV E base Q) args s 0 0 (fun q => base ≤ q)) (F0 m 78 ls [])) : ∀ (x2 : Int32) (x3 : Int32) (x4 : Int32) (x5 : Int32) (x6 : Int32) (σ : St) (H : Heap) (locs : List Loc) (ls : Array Slot), lv_has ls 8 [(0, .ref (ga E 11)), (2, .int x2), (3, .int x3), (4, .int x4), (5, .int x5), (6, .int x6)] → GW E base s σ H locs → wX12_grinds_218 Q K38 K46 K78 x2 x3 x4 x5 x6 σ → W p l e rmX12_grinds s m args below meth c H locs 0 0 (MQ below (QV E base Q) args s 0 0 (fun q => base ≤ q)) (F0 m 218 ls []) := by
  intro x2 x3 x4 x5 x6 σ H locs ls hl g h
  obtain ⟨x6_1, ex6_1⟩ : ∃ y : Int32, y = x6 + 1 := ⟨_, rfl⟩
  have h := h x6_1 ex6_1
  refine lv_iinc (v := x6_1) (lv' := [(6, .int x6_1), (0, .ref (ga E 11)), (2, .int x2), (3, .int x3), (4, .int x4), (5, .int x5)]) C.1 C.2.1 dX12_grinds_218 hl (k := 5) rfl (by rw [ex6_1]; rfl) (by decide) rfl (fun ls hl => ?_)
  refine lv_goto (tgt := 78) C.1 C.2.1 dX12_grinds_221 (by decide) ?_
  exact hK78 x2 x3 x4 x5 x6_1 _ _ _ _ (lv_sub hl [1, 2, 3, 4, 5, 0] rfl) g h
set_option maxHeartbeats 4000000 in
set_option maxRecDepth 100000 in
theorem tX12_grinds_172 {p : Program} {l : Launch} {e : Env} {s : State} {m : MethodId} {args : Array Value} {below : List Frame} {meth : Method} {c : Code} {E : EE} {base : Nat} (C : Cx p E base s m args meth c cX12_grinds 8 RX12) (hr : meth.sig.returnType = none) {Q : St → Prop} {K38 : Int32 → Int32 → St → Prop} (hK38 : ∀ (x2 : Int32) (x3 : Int32) (σ : St) (H : Heap) (locs : List Loc) (ls : Array Slot), lv_has ls 8 [(0, .ref (ga E 11)), (2, .int x2), (3, .int x3)] → GW E base s σ H locs → K38 x2 x3 σ → W p l e rmX12_grinds s m args below meth c H locs 0 0 (MQ below (QV E base Q) args s 0 0 (fun q => base ≤ q)) (F0 m 38 ls [])) {K46 : Int32 → Int32 → Int32 → St → Prop} (hK46 : ∀ (x2 : Int32) (x3 : Int32) (x4 : Int32) (σ : St) (H : Heap) (locs : List Loc) (ls : Array Slot), lv_has ls 8 [(0, .ref (ga E 11)), (2, .int x2), (3, .int x3), (4, .int x4)] → GW E base s σ H locs → K46 x2 x3 x4 σ → W p l e rmX12_grinds s m args below meth c H locs 0 0 (MQ below (QV E base Q) args s 0 0 (fun q => base ≤ q)) (F0 m 46 ls [])) {K78 : Int32 → Int32 → Int32 → Int32 → Int32 → St → Prop} (hK78 : ∀ (x2 : Int32) (x3 : Int32) (x4 : Int32) (x5 : Int32) (x6 : Int32) (σ : St) (H : Heap) (locs : List Loc) (ls : Array Slot), lv_has ls 8 [(0, .ref (ga E 11)), (2, .int x2), (3, .int x3), (4, .int x4), (5, .int x5), (6, .int x6)] → GW E base s σ H locs → K78 x2 x3 x4 x5 x6 σ → W p l e rmX12_grinds s m args below meth c H locs 0 0 (MQ below (QV E base Q) args s 0 0 (fun q => base ≤ q)) (F0 m 78 ls [])) : ∀ (x2 : Int32) (x3 : Int32) (x4 : Int32) (x5 : Int32) (x6 : Int32) (xt0 : Int32) (σ : St) (H : Heap) (locs : List Loc) (ls : Array Slot), lv_has ls 8 [(0, .ref (ga E 11)), (2, .int x2), (3, .int x3), (4, .int x4), (5, .int x5), (6, .int x6)] → GW E base s σ H locs → wX12_grinds_172 Q K38 K46 K78 x2 x3 x4 x5 x6 xt0 σ → W p l e rmX12_grinds s m args below meth c H locs 0 0 (MQ below (QV E base Q) args s 0 0 (fun q => base ≤ q)) (F0 m 172 ls [.int xt0]) := by
  intro x2 x3 x4 x5 x6 xt0 σ H locs ls hl g h
  refine lv_istore (lv' := [(7, .int xt0), (0, .ref (ga E 11)), (2, .int x2), (3, .int x3), (4, .int x4), (5, .int x5), (6, .int x6)]) C.1 C.2.1 dX12_grinds_172 hl (by decide) rfl (fun ls hl => ?_)
  refine lv_aload_n C.1 C.2.1 dX12_grinds_174 rfl (lv_at hl 1 rfl) ?_
  refine gx_getR C g fl_X12_176 dX12_grinds_175 sh_11 rfl (by decide) ?_
  refine lv_iload C.1 C.2.1 dX12_grinds_178 (lv_at hl 6 rfl) ?_
  refine lv_dup2_11 C.1 C.2.1 dX12_grinds_180 rfl rfl ?_
  obtain ⟨i1, h⟩ := h
  refine gx_iald C g dX12_grinds_181 sh_98 i1 ?_
  refine lv_iload C.1 C.2.1 dX12_grinds_182 (lv_at hl 0 rfl) ?_
  refine lv_iadd C.1 C.2.1 dX12_grinds_184 ?_
  obtain ⟨i2, h⟩ := h
  refine gx_iast C g dX12_grinds_185 sh_98 i2 (fun H locs σ3 eσ3 g => ?_)
  have h := h σ3 eσ3
  refine lv_iload C.1 C.2.1 dX12_grinds_186 (lv_at hl 5 rfl) ?_
  refine lv_iload C.1 C.2.1 dX12_grinds_188 (lv_at hl 0 rfl) ?_
  refine lv_isub C.1 C.2.1 dX12_grinds_190 ?_
  refine lv_topi (fun x5_4 ex5_4 => ?_)
  have h := h x5_4 ex5_4
  refine lv_istore (lv' := [(5, .int x5_4), (7, .int xt0), (0, .ref (ga E 11)), (2, .int x2), (3, .int x3), (4, .int x4), (6, .int x6)]) C.1 C.2.1 dX12_grinds_191 hl (by decide) rfl (fun ls hl => ?_)
  refine lv_aload_n C.1 C.2.1 dX12_grinds_193 rfl (lv_at hl 2 rfl) ?_
  refine gx_getR C g fl_X12_176 dX12_grinds_194 sh_11 rfl (by decide) ?_
  refine lv_iload C.1 C.2.1 dX12_grinds_197 (lv_at hl 6 rfl) ?_
  obtain ⟨i5, h⟩ := h
  refine gx_iald C g dX12_grinds_199 sh_98 i5 ?_
  refine lv_aload_n C.1 C.2.1 dX12_grinds_200 rfl (lv_at hl 2 rfl) ?_
  refine gx_getR C g fl_X12_134 dX12_grinds_201 sh_11 rfl (by decide) ?_
  refine lv_iload C.1 C.2.1 dX12_grinds_204 (lv_at hl 6 rfl) ?_
  obtain ⟨i6, h⟩ := h
  refine gx_iald C g dX12_grinds_206 sh_86 i6 ?_
  refine lv_icmp_ne (tgt := 218) C.1 C.2.1 dX12_grinds_207 (by decide) (fun c7 => ?_) (fun c7 => ?_)
  · have h := h.2 c7
    exact tX12_grinds_218 C hr hK38 hK46 hK78 x2 x3 x4 x5_4 x6 _ _ _ _ (lv_sub hl [2, 3, 4, 5, 0, 6] rfl) g h
  · have h := h.1 c7
    refine lv_aload_n C.1 C.2.1 dX12_grinds_210 rfl (lv_at hl 2 rfl) ?_
    refine gx_getR C g fl_X12_179 dX12_grinds_211 sh_11 rfl (by decide) ?_
    refine lv_iload C.1 C.2.1 dX12_grinds_214 (lv_at hl 6 rfl) ?_
    refine lv_iload_n C.1 C.2.1 dX12_grinds_216 rfl (lv_at hl 4 rfl) ?_
    obtain ⟨i8, h⟩ := h
    refine gx_iast C g dX12_grinds_217 sh_99 i8 (fun H locs σ9 eσ9 g => ?_)
    have h := h σ9 eσ9
    exact tX12_grinds_218 C hr hK38 hK46 hK78 x2 x3 x4 x5_4 x6 _ _ _ _ (lv_sub hl [2, 3, 4, 5, 0, 6] rfl) g h
set_option maxHeartbeats 4000000 in
set_option maxRecDepth 100000 in
theorem tX12_grinds_78 {p : Program} {l : Launch} {e : Env} {s : State} {m : MethodId} {args : Array Value} {below : List Frame} {meth : Method} {c : Code} {E : EE} {base : Nat} (C : Cx p E base s m args meth c cX12_grinds 8 RX12) (hr : meth.sig.returnType = none) {Q : St → Prop} {K38 : Int32 → Int32 → St → Prop} (hK38 : ∀ (x2 : Int32) (x3 : Int32) (σ : St) (H : Heap) (locs : List Loc) (ls : Array Slot), lv_has ls 8 [(0, .ref (ga E 11)), (2, .int x2), (3, .int x3)] → GW E base s σ H locs → K38 x2 x3 σ → W p l e rmX12_grinds s m args below meth c H locs 0 0 (MQ below (QV E base Q) args s 0 0 (fun q => base ≤ q)) (F0 m 38 ls [])) {K46 : Int32 → Int32 → Int32 → St → Prop} (hK46 : ∀ (x2 : Int32) (x3 : Int32) (x4 : Int32) (σ : St) (H : Heap) (locs : List Loc) (ls : Array Slot), lv_has ls 8 [(0, .ref (ga E 11)), (2, .int x2), (3, .int x3), (4, .int x4)] → GW E base s σ H locs → K46 x2 x3 x4 σ → W p l e rmX12_grinds s m args below meth c H locs 0 0 (MQ below (QV E base Q) args s 0 0 (fun q => base ≤ q)) (F0 m 46 ls [])) : ∀ (n : Nat) (x2 : Int32) (x3 : Int32) (x4 : Int32) (x5 : Int32) (x6 : Int32) (σ : St) (H : Heap) (locs : List Loc) (ls : Array Slot), lv_has ls 8 [(0, .ref (ga E 11)), (2, .int x2), (3, .int x3), (4, .int x4), (5, .int x5), (6, .int x6)] → GW E base s σ H locs → wX12_grinds_78 Q K38 K46 n x2 x3 x4 x5 x6 σ → W p l e rmX12_grinds s m args below meth c H locs 0 0 (MQ below (QV E base Q) args s 0 0 (fun q => base ≤ q)) (F0 m 78 ls []) := by
  intro n
  induction n with
  | zero => intro _ _ _ _ _; intros; exact False.elim (by assumption)
  | succ n ih =>
    intro x2 x3 x4 x5 x6 σ H locs ls hl g h
    refine lv_iload C.1 C.2.1 dX12_grinds_78 (lv_at hl 5 rfl) ?_
    refine lv_aload_n C.1 C.2.1 dX12_grinds_80 rfl (lv_at hl 0 rfl) ?_
    refine gx_getI C g fl_X12_325 dX12_grinds_81 sh_11 rfl ?_
    refine lv_icmp_ge (tgt := 224) C.1 C.2.1 dX12_grinds_84 (by decide) (fun c1 => ?_) (fun c1 => ?_)
    · have h := h.1 c1
      exact tX12_grinds_224 C hr hK38 hK46 x2 x3 x4 _ _ _ _ (lv_sub hl [0, 1, 2, 3] rfl) g h
    · have h := h.2 c1
      refine lv_iload C.1 C.2.1 dX12_grinds_87 (lv_at hl 4 rfl) ?_
      refine lv_if_le (tgt := 224) C.1 C.2.1 dX12_grinds_89 (by decide) (fun c2 => ?_) (fun c2 => ?_)
      · have h := h.1 c2
        exact tX12_grinds_224 C hr hK38 hK46 x2 x3 x4 _ _ _ _ (lv_sub hl [0, 1, 2, 3] rfl) g h
      · have h := h.2 c2
        refine lv_aload_n C.1 C.2.1 dX12_grinds_92 rfl (lv_at hl 0 rfl) ?_
        refine gx_getR C g fl_X12_131 dX12_grinds_93 sh_11 rfl (by decide) ?_
        refine lv_iload C.1 C.2.1 dX12_grinds_96 (lv_at hl 5 rfl) ?_
        obtain ⟨i3, h⟩ := h
        refine gx_iald C g dX12_grinds_98 sh_85 i3 ?_
        refine lv_iload C.1 C.2.1 dX12_grinds_99 (lv_at hl 3 rfl) ?_
        refine lv_icmp_ne (tgt := 218) C.1 C.2.1 dX12_grinds_101 (by decide) (fun c4 => ?_) (fun c4 => ?_)
        · have h := h.2 c4
          exact tX12_grinds_218 C hr hK38 hK46 ih x2 x3 x4 x5 x6 _ _ _ _ (lv_sub hl [0, 1, 2, 3, 4, 5] rfl) g h
        · have h := h.1 c4
          refine lv_aload_n C.1 C.2.1 dX12_grinds_104 rfl (lv_at hl 0 rfl) ?_
          refine gx_getR C g fl_X12_179 dX12_grinds_105 sh_11 rfl (by decide) ?_
          refine lv_iload C.1 C.2.1 dX12_grinds_108 (lv_at hl 5 rfl) ?_
          obtain ⟨i5, h⟩ := h
          refine gx_iald C g dX12_grinds_110 sh_99 i5 ?_
          refine lv_iconst (v := -1) C.1 C.2.1 dX12_grinds_111 (by decide) ?_
          refine lv_icmp_eq (tgt := 118) C.1 C.2.1 dX12_grinds_112 (by decide) (fun c6 => ?_) (fun c6 => ?_)
          · have h := h.1 c6
            refine lv_aload_n C.1 C.2.1 dX12_grinds_118 rfl (lv_at hl 0 rfl) ?_
            refine gx_getR C g fl_X12_137 dX12_grinds_119 sh_11 rfl (by decide) ?_
            refine lv_iload C.1 C.2.1 dX12_grinds_122 (lv_at hl 5 rfl) ?_
            obtain ⟨i7, h⟩ := h
            refine gx_iald C g dX12_grinds_124 sh_87 i7 ?_
            refine lv_iload_n C.1 C.2.1 dX12_grinds_125 rfl (lv_at hl 2 rfl) ?_
            refine lv_icmp_le (tgt := 132) C.1 C.2.1 dX12_grinds_126 (by decide) (fun c8 => ?_) (fun c8 => ?_)
            · have h := h.1 c8
              refine lv_aload_n C.1 C.2.1 dX12_grinds_132 rfl (lv_at hl 0 rfl) ?_
              refine gx_getR C g fl_X12_134 dX12_grinds_133 sh_11 rfl (by decide) ?_
              refine lv_iload C.1 C.2.1 dX12_grinds_136 (lv_at hl 5 rfl) ?_
              obtain ⟨i9, h⟩ := h
              refine gx_iald C g dX12_grinds_138 sh_86 i9 ?_
              refine lv_aload_n C.1 C.2.1 dX12_grinds_139 rfl (lv_at hl 0 rfl) ?_
              refine gx_getR C g fl_X12_176 dX12_grinds_140 sh_11 rfl (by decide) ?_
              refine lv_iload C.1 C.2.1 dX12_grinds_143 (lv_at hl 5 rfl) ?_
              obtain ⟨i10, h⟩ := h
              refine gx_iald C g dX12_grinds_145 sh_98 i10 ?_
              refine lv_isub C.1 C.2.1 dX12_grinds_146 ?_
              refine lv_iload C.1 C.2.1 dX12_grinds_147 (lv_at hl 4 rfl) ?_
              refine lv_icmp_ge (tgt := 170) C.1 C.2.1 dX12_grinds_149 (by decide) (fun c11 => ?_) (fun c11 => ?_)
              · have h := h.1 c11
                refine lv_iload C.1 C.2.1 dX12_grinds_170 (lv_at hl 4 rfl) ?_
                exact tX12_grinds_172 C hr hK38 hK46 ih x2 x3 x4 x5 x6 x5 _ _ _ _ (lv_sub hl [0, 1, 2, 3, 4, 5] rfl) g h
              · have h := h.2 c11
                refine lv_aload_n C.1 C.2.1 dX12_grinds_152 rfl (lv_at hl 0 rfl) ?_
                refine gx_getR C g fl_X12_134 dX12_grinds_153 sh_11 rfl (by decide) ?_
                refine lv_iload C.1 C.2.1 dX12_grinds_156 (lv_at hl 5 rfl) ?_
                obtain ⟨i12, h⟩ := h
                refine gx_iald C g dX12_grinds_158 sh_86 i12 ?_
                refine lv_aload_n C.1 C.2.1 dX12_grinds_159 rfl (lv_at hl 0 rfl) ?_
                refine gx_getR C g fl_X12_176 dX12_grinds_160 sh_11 rfl (by decide) ?_
                refine lv_iload C.1 C.2.1 dX12_grinds_163 (lv_at hl 5 rfl) ?_
                obtain ⟨i13, h⟩ := h
                refine gx_iald C g dX12_grinds_165 sh_98 i13 ?_
                refine lv_isub C.1 C.2.1 dX12_grinds_166 ?_
                refine lv_goto (tgt := 172) C.1 C.2.1 dX12_grinds_167 (by decide) ?_
                exact tX12_grinds_172 C hr hK38 hK46 ih x2 x3 x4 x5 x6 ((gv σ 86 x6.toNatClampNeg) - (gv σ 98 x6.toNatClampNeg)) _ _ _ _ (lv_sub hl [0, 1, 2, 3, 4, 5] rfl) g h
            · have h := h.2 c8
              refine lv_goto (tgt := 224) C.1 C.2.1 dX12_grinds_129 (by decide) ?_
              exact tX12_grinds_224 C hr hK38 hK46 x2 x3 x4 _ _ _ _ (lv_sub hl [0, 1, 2, 3] rfl) g h
          · have h := h.2 c6
            refine lv_goto (tgt := 218) C.1 C.2.1 dX12_grinds_115 (by decide) ?_
            exact tX12_grinds_218 C hr hK38 hK46 ih x2 x3 x4 x5 x6 _ _ _ _ (lv_sub hl [0, 1, 2, 3, 4, 5] rfl) g h
set_option maxHeartbeats 4000000 in
set_option maxRecDepth 100000 in
theorem tX12_grinds_46 {p : Program} {l : Launch} {e : Env} {s : State} {m : MethodId} {args : Array Value} {below : List Frame} {meth : Method} {c : Code} {E : EE} {base : Nat} (C : Cx p E base s m args meth c cX12_grinds 8 RX12) (hr : meth.sig.returnType = none) {Q : St → Prop} {K38 : Int32 → Int32 → St → Prop} (hK38 : ∀ (x2 : Int32) (x3 : Int32) (σ : St) (H : Heap) (locs : List Loc) (ls : Array Slot), lv_has ls 8 [(0, .ref (ga E 11)), (2, .int x2), (3, .int x3)] → GW E base s σ H locs → K38 x2 x3 σ → W p l e rmX12_grinds s m args below meth c H locs 0 0 (MQ below (QV E base Q) args s 0 0 (fun q => base ≤ q)) (F0 m 38 ls [])) : ∀ (n : Nat) (x2 : Int32) (x3 : Int32) (x4 : Int32) (σ : St) (H : Heap) (locs : List Loc) (ls : Array Slot), lv_has ls 8 [(0, .ref (ga E 11)), (2, .int x2), (3, .int x3), (4, .int x4)] → GW E base s σ H locs → wX12_grinds_46 Q K38 n x2 x3 x4 σ → W p l e rmX12_grinds s m args below meth c H locs 0 0 (MQ below (QV E base Q) args s 0 0 (fun q => base ≤ q)) (F0 m 46 ls []) := by
  intro n
  induction n with
  | zero => intro _ _ _; intros; exact False.elim (by assumption)
  | succ n ih =>
    intro x2 x3 x4 σ H locs ls hl g h
    refine lv_iload C.1 C.2.1 dX12_grinds_46 (lv_at hl 3 rfl) ?_
    refine lv_aload_n C.1 C.2.1 dX12_grinds_48 rfl (lv_at hl 0 rfl) ?_
    refine gx_getI C g fl_X12_307 dX12_grinds_49 sh_11 rfl ?_
    refine lv_icmp_ge (tgt := 230) C.1 C.2.1 dX12_grinds_52 (by decide) (fun c1 => ?_) (fun c1 => ?_)
    · have h := h.1 c1
      obtain ⟨x3_2, ex3_2⟩ : ∃ y : Int32, y = x3 + 1 := ⟨_, rfl⟩
      have h := h x3_2 ex3_2
      refine lv_iinc (v := x3_2) (lv' := [(3, .int x3_2), (0, .ref (ga E 11)), (2, .int x2), (4, .int x4)]) C.1 C.2.1 dX12_grinds_230 hl (k := 2) rfl (by rw [ex3_2]; rfl) (by decide) rfl (fun ls hl => ?_)
      refine lv_goto (tgt := 38) C.1 C.2.1 dX12_grinds_233 (by decide) ?_
      exact hK38 x2 x3_2 _ _ _ _ (lv_sub hl [1, 2, 0] rfl) g h
    · have h := h.2 c1
      refine lv_aload_n C.1 C.2.1 dX12_grinds_55 rfl (lv_at hl 0 rfl) ?_
      refine gx_getR C g fl_X12_140 dX12_grinds_56 sh_11 rfl (by decide) ?_
      refine lv_bipush (v := 10) C.1 C.2.1 dX12_grinds_59 (by decide) ?_
      refine lv_bipush (v := 7) C.1 C.2.1 dX12_grinds_61 (by decide) ?_
      refine lv_iload_n C.1 C.2.1 dX12_grinds_63 rfl (lv_at hl 2 rfl) ?_
      refine lv_imul C.1 C.2.1 dX12_grinds_64 ?_
      refine lv_iload C.1 C.2.1 dX12_grinds_65 (lv_at hl 3 rfl) ?_
      refine lv_iadd C.1 C.2.1 dX12_grinds_67 ?_
      refine lv_imul C.1 C.2.1 dX12_grinds_68 ?_
      refine lv_bipush (v := 6) C.1 C.2.1 dX12_grinds_69 (by decide) ?_
      refine lv_iadd C.1 C.2.1 dX12_grinds_71 ?_
      obtain ⟨i3, h⟩ := h
      refine gx_iald C g dX12_grinds_72 sh_88 i3 ?_
      refine lv_topi (fun x5_4 ex5_4 => ?_)
      have h := h x5_4 ex5_4
      refine lv_istore (lv' := [(5, .int x5_4), (0, .ref (ga E 11)), (2, .int x2), (3, .int x3), (4, .int x4)]) C.1 C.2.1 dX12_grinds_73 hl (by decide) rfl (fun ls hl => ?_)
      refine lv_iconst (v := 0) C.1 C.2.1 dX12_grinds_75 (by decide) ?_
      refine lv_istore (lv' := [(6, .int (0 : Int32)), (5, .int x5_4), (0, .ref (ga E 11)), (2, .int x2), (3, .int x3), (4, .int x4)]) C.1 C.2.1 dX12_grinds_76 hl (by decide) rfl (fun ls hl => ?_)
      obtain ⟨j, h⟩ := h
      exact tX12_grinds_78 C hr hK38 ih j x2 x3 x4 x5_4 (0 : Int32) _ _ _ _ (lv_sub hl [2, 3, 4, 5, 1, 0] rfl) g h
set_option maxHeartbeats 4000000 in
set_option maxRecDepth 100000 in
theorem tX12_grinds_38 {p : Program} {l : Launch} {e : Env} {s : State} {m : MethodId} {args : Array Value} {below : List Frame} {meth : Method} {c : Code} {E : EE} {base : Nat} (C : Cx p E base s m args meth c cX12_grinds 8 RX12) (hr : meth.sig.returnType = none) {Q : St → Prop} : ∀ (n : Nat) (x2 : Int32) (x3 : Int32) (σ : St) (H : Heap) (locs : List Loc) (ls : Array Slot), lv_has ls 8 [(0, .ref (ga E 11)), (2, .int x2), (3, .int x3)] → GW E base s σ H locs → wX12_grinds_38 Q n x2 x3 σ → W p l e rmX12_grinds s m args below meth c H locs 0 0 (MQ below (QV E base Q) args s 0 0 (fun q => base ≤ q)) (F0 m 38 ls []) := by
  intro n
  induction n with
  | zero => intro _ _; intros; exact False.elim (by assumption)
  | succ n ih =>
    intro x2 x3 σ H locs ls hl g h
    refine lv_iload_n C.1 C.2.1 dX12_grinds_38 rfl (lv_at hl 2 rfl) ?_
    refine lv_iload_n C.1 C.2.1 dX12_grinds_39 rfl (lv_at hl 1 rfl) ?_
    refine lv_icmp_ge (tgt := 236) C.1 C.2.1 dX12_grinds_40 (by decide) (fun c1 => ?_) (fun c1 => ?_)
    · have h := h.1 c1
      exact gx_vret C hr g dX12_grinds_236 h
    · have h := h.2 c1
      refine lv_iconst (v := 0) C.1 C.2.1 dX12_grinds_43 (by decide) ?_
      refine lv_istore (lv' := [(4, .int (0 : Int32)), (0, .ref (ga E 11)), (2, .int x2), (3, .int x3)]) C.1 C.2.1 dX12_grinds_44 hl (by decide) rfl (fun ls hl => ?_)
      obtain ⟨j, h⟩ := h
      exact tX12_grinds_46 C hr ih j x2 x3 (0 : Int32) _ _ _ _ (lv_sub hl [1, 2, 3, 0] rfl) g h
set_option maxHeartbeats 4000000 in
set_option maxRecDepth 100000 in
theorem tX12_grinds_8 {p : Program} {l : Launch} {e : Env} {s : State} {m : MethodId} {args : Array Value} {below : List Frame} {meth : Method} {c : Code} {E : EE} {base : Nat} (C : Cx p E base s m args meth c cX12_grinds 8 RX12) (hr : meth.sig.returnType = none) {Q : St → Prop} : ∀ (n : Nat) (x2 : Int32) (x3 : Int32) (σ : St) (H : Heap) (locs : List Loc) (ls : Array Slot), lv_has ls 8 [(0, .ref (ga E 11)), (2, .int x2), (3, .int x3)] → GW E base s σ H locs → wX12_grinds_8 Q n x2 x3 σ → W p l e rmX12_grinds s m args below meth c H locs 0 0 (MQ below (QV E base Q) args s 0 0 (fun q => base ≤ q)) (F0 m 8 ls []) := by
  intro n
  induction n with
  | zero => intro _ _; intros; exact False.elim (by assumption)
  | succ n ih =>
    intro x2 x3 σ H locs ls hl g h
    refine lv_iload_n C.1 C.2.1 dX12_grinds_8 rfl (lv_at hl 2 rfl) ?_
    refine lv_aload_n C.1 C.2.1 dX12_grinds_9 rfl (lv_at hl 0 rfl) ?_
    refine gx_getI C g fl_X12_325 dX12_grinds_10 sh_11 rfl ?_
    refine lv_icmp_ge (tgt := 36) C.1 C.2.1 dX12_grinds_13 (by decide) (fun c1 => ?_) (fun c1 => ?_)
    · have h := h.1 c1
      refine lv_iconst (v := 0) C.1 C.2.1 dX12_grinds_36 (by decide) ?_
      refine lv_istore_n (lv' := [(3, .int (0 : Int32)), (0, .ref (ga E 11)), (2, .int x2)]) C.1 C.2.1 dX12_grinds_37 rfl hl (by decide) rfl (fun ls hl => ?_)
      obtain ⟨j, h⟩ := h
      exact tX12_grinds_38 C hr j x2 (0 : Int32) _ _ _ _ (lv_sub hl [1, 2, 0] rfl) g h
    · have h := h.2 c1
      refine lv_aload_n C.1 C.2.1 dX12_grinds_16 rfl (lv_at hl 0 rfl) ?_
      refine gx_getR C g fl_X12_176 dX12_grinds_17 sh_11 rfl (by decide) ?_
      refine lv_iload_n C.1 C.2.1 dX12_grinds_20 rfl (lv_at hl 2 rfl) ?_
      refine lv_iconst (v := 0) C.1 C.2.1 dX12_grinds_21 (by decide) ?_
      obtain ⟨i2, h⟩ := h
      refine gx_iast C g dX12_grinds_22 sh_98 i2 (fun H locs σ3 eσ3 g => ?_)
      have h := h σ3 eσ3
      refine lv_aload_n C.1 C.2.1 dX12_grinds_23 rfl (lv_at hl 0 rfl) ?_
      refine gx_getR C g fl_X12_179 dX12_grinds_24 sh_11 rfl (by decide) ?_
      refine lv_iload_n C.1 C.2.1 dX12_grinds_27 rfl (lv_at hl 2 rfl) ?_
      refine lv_iconst (v := -1) C.1 C.2.1 dX12_grinds_28 (by decide) ?_
      obtain ⟨i4, h⟩ := h
      refine gx_iast C g dX12_grinds_29 sh_99 i4 (fun H locs σ5 eσ5 g => ?_)
      have h := h σ5 eσ5
      obtain ⟨x3_6, ex3_6⟩ : ∃ y : Int32, y = x3 + 1 := ⟨_, rfl⟩
      have h := h x3_6 ex3_6
      refine lv_iinc (v := x3_6) (lv' := [(3, .int x3_6), (0, .ref (ga E 11)), (2, .int x2)]) C.1 C.2.1 dX12_grinds_30 hl (k := 2) rfl (by rw [ex3_6]; rfl) (by decide) rfl (fun ls hl => ?_)
      refine lv_goto (tgt := 8) C.1 C.2.1 dX12_grinds_33 (by decide) ?_
      exact ih x2 x3_6 _ _ _ _ (lv_sub hl [1, 2, 0] rfl) g h
set_option maxHeartbeats 4000000 in
set_option maxRecDepth 100000 in
theorem tX12_grinds_e {p : Program} {l : Launch} {e : Env} {s : State} {m : MethodId} {args : Array Value} {below : List Frame} {meth : Method} {c : Code} {E : EE} {base : Nat} (C : Cx p E base s m args meth c cX12_grinds 8 RX12) (hr : meth.sig.returnType = none) {Q : St → Prop} : ∀ (x1 : Int32) (x2 : Int32) (σ : St) (H : Heap) (locs : List Loc) (ls : Array Slot), lv_has ls 8 [(0, .ref (ga E 11)), (1, .int x1), (2, .int x2)] → GW E base s σ H locs → wX12_grinds x1 x2 σ Q → W p l e rmX12_grinds s m args below meth c H locs 0 0 (MQ below (QV E base Q) args s 0 0 (fun q => base ≤ q)) (F0 m 0 ls []) := by
  intro x1 x2 σ H locs ls hl g h
  refine lv_aload_n C.1 C.2.1 dX12_grinds_0 rfl (lv_at hl 0 rfl) ?_
  refine lv_iload_n C.1 C.2.1 dX12_grinds_1 rfl (lv_at hl 1 rfl) ?_
  refine lv_iconst (v := -1) C.1 C.2.1 dX12_grinds_2 (by decide) ?_
  refine gx_callv0 g (gx_runV (k := 11) (rest := []) C g mb_X12_works ml_X12_361 rfl sh_11 (mX12_works x1 (-1 : Int32) _ _ h) ⟨Nat.le_of_ble_eq_true rfl, Nat.le_of_ble_eq_true rfl⟩ ⟨Nat.le_refl _, Nat.le_refl _⟩ rfl hl.1 rfl (Nat.le_of_ble_eq_true rfl) dX12_grinds_3) rfl rfl (fun σ2 H locs h g => ?_)
  refine lv_iconst (v := 0) C.1 C.2.1 dX12_grinds_6 (by decide) ?_
  refine lv_istore_n (lv' := [(3, .int (0 : Int32)), (0, .ref (ga E 11)), (1, .int x1), (2, .int x2)]) C.1 C.2.1 dX12_grinds_7 rfl hl (by decide) rfl (fun ls hl => ?_)
  obtain ⟨j, h⟩ := h
  exact tX12_grinds_8 C hr j x2 (0 : Int32) _ _ _ _ (lv_sub hl [1, 3, 0] rfl) g h
theorem mX12_grinds {l : Launch} {E : EE} {base : Nat} (x1 : Int32) (x2 : Int32) (σ : St) (Q : St → Prop) (h : wX12_grinds x1 x2 σ Q) : Met l yX12_grinds (wy yX12_grinds cX12_grinds 8 none) rmX12_grinds (va_Pc [.ref (ga E 11), .int x1, .int x2] (fun U => SW E base σ U)) (QV E base Q) (rmX12_grinds).cells (rmX12_grinds).slots (fun q => base ≤ q) :=
  met_of (by decide) (Nat.le_of_ble_eq_true rfl) (fun p e s m args below meth c C hr g ls hl => tX12_grinds_e C hr x1 x2 _ _ _ _ hl g h)
abbrev rmX12_told : Room := { frames := 7, cells := 0, slots := 0, locals := 191 }
def wX12_told (x1 : Int32) (x2 : Int32) (x3 : Int32) (σ : St) (Q : Int32 → St → Prop) : Prop := ((x1 < 0 → Q (-1 : Int32) σ) ∧ (¬ (x1 < 0) → (((gv σ 11 61) ≤ x1 → Q (-1 : Int32) σ) ∧ (¬ ((gv σ 11 61) ≤ x1) → wX12_isKnown x2 σ (fun (r3 : Int32) (σ4 : St) => ((r3 = 0 → Q (-1 : Int32) σ4) ∧ (¬ (r3 = 0) → ((x3 = 0 → vp_in x1 60 ∧ Q (gv σ4 85 x1.toNatClampNeg) σ4) ∧ (¬ (x3 = 0) → ((x3 = 1 → vp_in x1 60 ∧ Q (gv σ4 86 x1.toNatClampNeg) σ4) ∧ (¬ (x3 = 1) → ((x3 = 2 → vp_in x1 60 ∧ Q (gv σ4 87 x1.toNatClampNeg) σ4) ∧ (¬ (x3 = 2) → ((x3 = 3 → wX12_grinds x2 (240 : Int32) σ4 (fun (σ14 : St) => vp_in x1 60 ∧ Q (gv σ14 99 x1.toNatClampNeg) σ14)) ∧ (¬ (x3 = 3) → ((x3 = 4 → wX12_grinds x2 (gv σ4 11 51) σ4 (fun (σ18 : St) => vp_in x1 60 ∧ Q (gv σ18 98 x1.toNatClampNeg) σ18)) ∧ (¬ (x3 = 4) → Q (-1 : Int32) σ4)))))))))))))))))
set_option maxHeartbeats 4000000 in
set_option maxRecDepth 100000 in
theorem tX12_told_e {p : Program} {l : Launch} {e : Env} {s : State} {m : MethodId} {args : Array Value} {below : List Frame} {meth : Method} {c : Code} {E : EE} {base : Nat} (C : Cx p E base s m args meth c cX12_told 4 RX12) (hr : meth.sig.returnType = (some .int)) {Q : Int32 → St → Prop} : ∀ (x1 : Int32) (x2 : Int32) (x3 : Int32) (σ : St) (H : Heap) (locs : List Loc) (ls : Array Slot), lv_has ls 4 [(0, .ref (ga E 11)), (1, .int x1), (2, .int x2), (3, .int x3)] → GW E base s σ H locs → wX12_told x1 x2 x3 σ Q → W p l e rmX12_told s m args below meth c H locs 0 0 (MQ below (QI E base Q) args s 0 0 (fun q => base ≤ q)) (F0 m 0 ls []) := by
  intro x1 x2 x3 σ H locs ls hl g h
  refine lv_iload_n C.1 C.2.1 dX12_told_0 rfl (lv_at hl 1 rfl) ?_
  refine lv_if_lt (tgt := 20) C.1 C.2.1 dX12_told_1 (by decide) (fun c1 => ?_) (fun c1 => ?_)
  · have h := h.1 c1
    refine lv_iconst (v := -1) C.1 C.2.1 dX12_told_20 (by decide) ?_
    exact gx_iret C hr g dX12_told_21 h
  · have h := h.2 c1
    refine lv_iload_n C.1 C.2.1 dX12_told_4 rfl (lv_at hl 1 rfl) ?_
    refine lv_aload_n C.1 C.2.1 dX12_told_5 rfl (lv_at hl 0 rfl) ?_
    refine gx_getI C g fl_X12_325 dX12_told_6 sh_11 rfl ?_
    refine lv_icmp_ge (tgt := 20) C.1 C.2.1 dX12_told_9 (by decide) (fun c2 => ?_) (fun c2 => ?_)
    · have h := h.1 c2
      refine lv_iconst (v := -1) C.1 C.2.1 dX12_told_20 (by decide) ?_
      exact gx_iret C hr g dX12_told_21 h
    · have h := h.2 c2
      refine lv_aload_n C.1 C.2.1 dX12_told_12 rfl (lv_at hl 0 rfl) ?_
      refine lv_iload_n C.1 C.2.1 dX12_told_13 rfl (lv_at hl 2 rfl) ?_
      refine gx_calli0 g (gx_runV (k := 11) (rest := []) C g mb_X12_isKnown ml_X12_357 rfl sh_11 (mX12_isKnown x2 _ _ h) ⟨Nat.le_of_ble_eq_true rfl, Nat.le_of_ble_eq_true rfl⟩ ⟨Nat.le_refl _, Nat.le_refl _⟩ rfl hl.1 rfl (Nat.le_of_ble_eq_true rfl) dX12_told_14) rfl rfl (fun r3 σ4 H locs h g => ?_)
      refine lv_if_ne (tgt := 22) C.1 C.2.1 dX12_told_17 (by decide) (fun c5 => ?_) (fun c5 => ?_)
      · have h := h.2 c5
        refine lv_iload_n C.1 C.2.1 dX12_told_22 rfl (lv_at hl 3 rfl) ?_
        by_cases c6 : x3 = 0
        · have h := h.1 c6
          refine gx_tabI (tgt := 56) C.1 C.2.1 dX12_told_23 (off := 33) (k := 0) c6 (by decide +kernel) (by decide) ?_
          refine lv_aload_n C.1 C.2.1 dX12_told_56 rfl (lv_at hl 0 rfl) ?_
          refine gx_getR C g fl_X12_131 dX12_told_57 sh_11 rfl (by decide) ?_
          refine lv_iload_n C.1 C.2.1 dX12_told_60 rfl (lv_at hl 1 rfl) ?_
          obtain ⟨i7, h⟩ := h
          refine gx_iald C g dX12_told_61 sh_85 i7 ?_
          exact gx_iret C hr g dX12_told_62 h
        · have h := h.2 c6
          by_cases c8 : x3 = 1
          · have h := h.1 c8
            refine gx_tabI (tgt := 63) C.1 C.2.1 dX12_told_23 (off := 40) (k := 1) c8 (by decide +kernel) (by decide) ?_
            refine lv_aload_n C.1 C.2.1 dX12_told_63 rfl (lv_at hl 0 rfl) ?_
            refine gx_getR C g fl_X12_134 dX12_told_64 sh_11 rfl (by decide) ?_
            refine lv_iload_n C.1 C.2.1 dX12_told_67 rfl (lv_at hl 1 rfl) ?_
            obtain ⟨i9, h⟩ := h
            refine gx_iald C g dX12_told_68 sh_86 i9 ?_
            exact gx_iret C hr g dX12_told_69 h
          · have h := h.2 c8
            by_cases c10 : x3 = 2
            · have h := h.1 c10
              refine gx_tabI (tgt := 70) C.1 C.2.1 dX12_told_23 (off := 47) (k := 2) c10 (by decide +kernel) (by decide) ?_
              refine lv_aload_n C.1 C.2.1 dX12_told_70 rfl (lv_at hl 0 rfl) ?_
              refine gx_getR C g fl_X12_137 dX12_told_71 sh_11 rfl (by decide) ?_
              refine lv_iload_n C.1 C.2.1 dX12_told_74 rfl (lv_at hl 1 rfl) ?_
              obtain ⟨i11, h⟩ := h
              refine gx_iald C g dX12_told_75 sh_87 i11 ?_
              exact gx_iret C hr g dX12_told_76 h
            · have h := h.2 c10
              by_cases c12 : x3 = 3
              · have h := h.1 c12
                refine gx_tabI (tgt := 77) C.1 C.2.1 dX12_told_23 (off := 54) (k := 3) c12 (by decide +kernel) (by decide) ?_
                refine lv_aload_n C.1 C.2.1 dX12_told_77 rfl (lv_at hl 0 rfl) ?_
                refine lv_iload_n C.1 C.2.1 dX12_told_78 rfl (lv_at hl 2 rfl) ?_
                refine lv_sipush (v := 240) C.1 C.2.1 dX12_told_79 (by decide) ?_
                refine gx_callv0 g (gx_runV (k := 11) (rest := []) C g mb_X12_grinds ml_X12_380 rfl sh_11 (mX12_grinds x2 (240 : Int32) _ _ h) ⟨Nat.le_of_ble_eq_true rfl, Nat.le_of_ble_eq_true rfl⟩ ⟨Nat.le_refl _, Nat.le_refl _⟩ rfl hl.1 rfl (Nat.le_of_ble_eq_true rfl) dX12_told_82) rfl rfl (fun σ14 H locs h g => ?_)
                refine lv_aload_n C.1 C.2.1 dX12_told_85 rfl (lv_at hl 0 rfl) ?_
                refine gx_getR C g fl_X12_179 dX12_told_86 sh_11 rfl (by decide) ?_
                refine lv_iload_n C.1 C.2.1 dX12_told_89 rfl (lv_at hl 1 rfl) ?_
                obtain ⟨i15, h⟩ := h
                refine gx_iald C g dX12_told_90 sh_99 i15 ?_
                exact gx_iret C hr g dX12_told_91 h
              · have h := h.2 c12
                by_cases c16 : x3 = 4
                · have h := h.1 c16
                  refine gx_tabI (tgt := 92) C.1 C.2.1 dX12_told_23 (off := 69) (k := 4) c16 (by decide +kernel) (by decide) ?_
                  refine lv_aload_n C.1 C.2.1 dX12_told_92 rfl (lv_at hl 0 rfl) ?_
                  refine lv_iload_n C.1 C.2.1 dX12_told_93 rfl (lv_at hl 2 rfl) ?_
                  refine lv_aload_n C.1 C.2.1 dX12_told_94 rfl (lv_at hl 0 rfl) ?_
                  refine gx_getI C g fl_X12_310 dX12_told_95 sh_11 rfl ?_
                  refine gx_callv0 g (gx_runV (k := 11) (rest := []) C g mb_X12_grinds ml_X12_380 rfl sh_11 (mX12_grinds x2 (gv σ4 11 51) _ _ h) ⟨Nat.le_of_ble_eq_true rfl, Nat.le_of_ble_eq_true rfl⟩ ⟨Nat.le_refl _, Nat.le_refl _⟩ rfl hl.1 rfl (Nat.le_of_ble_eq_true rfl) dX12_told_98) rfl rfl (fun σ18 H locs h g => ?_)
                  refine lv_aload_n C.1 C.2.1 dX12_told_101 rfl (lv_at hl 0 rfl) ?_
                  refine gx_getR C g fl_X12_176 dX12_told_102 sh_11 rfl (by decide) ?_
                  refine lv_iload_n C.1 C.2.1 dX12_told_105 rfl (lv_at hl 1 rfl) ?_
                  obtain ⟨i19, h⟩ := h
                  refine gx_iald C g dX12_told_106 sh_98 i19 ?_
                  exact gx_iret C hr g dX12_told_107 h
                · have h := h.2 c16
                  refine gx_tabD (tgt := 108) C.1 C.2.1 dX12_told_23 [0, 1, 2, 3, 4] (List.forall_mem_cons.mpr ⟨c6, List.forall_mem_cons.mpr ⟨c8, List.forall_mem_cons.mpr ⟨c10, List.forall_mem_cons.mpr ⟨c12, List.forall_mem_cons.mpr ⟨c16, fun _ z => by cases z⟩⟩⟩⟩⟩) (by decide +kernel) (by decide +kernel) (by decide) ?_
                  refine lv_iconst (v := -1) C.1 C.2.1 dX12_told_108 (by decide) ?_
                  exact gx_iret C hr g dX12_told_109 h
      · have h := h.1 c5
        refine lv_iconst (v := -1) C.1 C.2.1 dX12_told_20 (by decide) ?_
        exact gx_iret C hr g dX12_told_21 h
theorem mX12_told {l : Launch} {E : EE} {base : Nat} (x1 : Int32) (x2 : Int32) (x3 : Int32) (σ : St) (Q : Int32 → St → Prop) (h : wX12_told x1 x2 x3 σ Q) : Met l yX12_told (wy yX12_told cX12_told 4 (some .int)) rmX12_told (va_Pc [.ref (ga E 11), .int x1, .int x2, .int x3] (fun U => SW E base σ U)) (QI E base Q) (rmX12_told).cells (rmX12_told).slots (fun q => base ≤ q) :=
  met_of (by decide) (Nat.le_of_ble_eq_true rfl) (fun p e s m args below meth c C hr g ls hl => tX12_told_e C hr x1 x2 x3 _ _ _ _ hl g h)
abbrev rmX12_tolls : Room := { frames := 7, cells := 0, slots := 0, locals := 191 }
def wX12_tolls_83 (Q : Int32 → St → Prop) (K37 : Int32 → Int32 → Int32 → St → Prop) (x1 : Int32) (x4 : Int32) (x5 : Int32) (σ : St) : Prop := ∀ x5_1 : Int32, x5_1 = x5 + 1 → K37 x1 x4 x5_1 σ
def wX12_tolls_37 (Q : Int32 → St → Prop) : Nat → Int32 → Int32 → Int32 → St → Prop
  | 0, _, _, _, _ => False
  | n + 1, x1, x4, x5, σ => (((gv σ 11 61) ≤ x5 → Q x4 σ) ∧ (¬ ((gv σ 11 61) ≤ x5) → vp_in x5 60 ∧ (((gv σ 85 x5.toNatClampNeg) = x1 → vp_in x5 60 ∧ (((gv σ 99 x5.toNatClampNeg) = (-1 : Int32) → wX12_tolls_83 Q (fun x1' x4' x5' σ' => wX12_tolls_37 Q n x1' x4' x5' σ') x1 x4 x5 σ) ∧ (¬ ((gv σ 99 x5.toNatClampNeg) = (-1 : Int32)) → vp_in x5 60 ∧ ∀ x4_7 : Int32, x4_7 = x4 + ((gv σ 86 x5.toNatClampNeg) / (16 : Int32)) → wX12_tolls_83 Q (fun x1' x4' x5' σ' => wX12_tolls_37 Q n x1' x4' x5' σ') x1 x4_7 x5 σ))) ∧ (¬ ((gv σ 85 x5.toNatClampNeg) = x1) → wX12_tolls_83 Q (fun x1' x4' x5' σ' => wX12_tolls_37 Q n x1' x4' x5' σ') x1 x4 x5 σ))))
def wX12_tolls (x1 : Int32) (x2 : Int32) (x3 : Int32) (σ : St) (Q : Int32 → St → Prop) : Prop := wX12_isMill x1 σ (fun (r1 : Int32) (σ2 : St) => ((r1 = 0 → Q (-1 : Int32) σ2) ∧ (¬ (r1 = 0) → wX12_isEnd x2 σ2 (fun (r4 : Int32) (σ5 : St) => ((r4 = 0 → Q (-1 : Int32) σ5) ∧ (¬ (r4 = 0) → wX12_isKnown x3 σ5 (fun (r7 : Int32) (σ8 : St) => ((r7 = 0 → Q (-1 : Int32) σ8) ∧ (¬ (r7 = 0) → wX12_grinds x3 x2 σ8 (fun (σ11 : St) => ∃ j : Nat, wX12_tolls_37 Q j x1 (0 : Int32) (0 : Int32) σ11))))))))))
set_option maxHeartbeats 4000000 in
set_option maxRecDepth 100000 in
theorem tX12_tolls_83 {p : Program} {l : Launch} {e : Env} {s : State} {m : MethodId} {args : Array Value} {below : List Frame} {meth : Method} {c : Code} {E : EE} {base : Nat} (C : Cx p E base s m args meth c cX12_tolls 6 RX12) (hr : meth.sig.returnType = (some .int)) {Q : Int32 → St → Prop} {K37 : Int32 → Int32 → Int32 → St → Prop} (hK37 : ∀ (x1 : Int32) (x4 : Int32) (x5 : Int32) (σ : St) (H : Heap) (locs : List Loc) (ls : Array Slot), lv_has ls 6 [(0, .ref (ga E 11)), (1, .int x1), (4, .int x4), (5, .int x5)] → GW E base s σ H locs → K37 x1 x4 x5 σ → W p l e rmX12_tolls s m args below meth c H locs 0 0 (MQ below (QI E base Q) args s 0 0 (fun q => base ≤ q)) (F0 m 37 ls [])) : ∀ (x1 : Int32) (x4 : Int32) (x5 : Int32) (σ : St) (H : Heap) (locs : List Loc) (ls : Array Slot), lv_has ls 6 [(0, .ref (ga E 11)), (1, .int x1), (4, .int x4), (5, .int x5)] → GW E base s σ H locs → wX12_tolls_83 Q K37 x1 x4 x5 σ → W p l e rmX12_tolls s m args below meth c H locs 0 0 (MQ below (QI E base Q) args s 0 0 (fun q => base ≤ q)) (F0 m 83 ls []) := by
  intro x1 x4 x5 σ H locs ls hl g h
  obtain ⟨x5_1, ex5_1⟩ : ∃ y : Int32, y = x5 + 1 := ⟨_, rfl⟩
  have h := h x5_1 ex5_1
  refine lv_iinc (v := x5_1) (lv' := [(5, .int x5_1), (0, .ref (ga E 11)), (1, .int x1), (4, .int x4)]) C.1 C.2.1 dX12_tolls_83 hl (k := 3) rfl (by rw [ex5_1]; rfl) (by decide) rfl (fun ls hl => ?_)
  refine lv_goto (tgt := 37) C.1 C.2.1 dX12_tolls_86 (by decide) ?_
  exact hK37 x1 x4 x5_1 _ _ _ _ (lv_sub hl [1, 2, 3, 0] rfl) g h
set_option maxHeartbeats 4000000 in
set_option maxRecDepth 100000 in
theorem tX12_tolls_37 {p : Program} {l : Launch} {e : Env} {s : State} {m : MethodId} {args : Array Value} {below : List Frame} {meth : Method} {c : Code} {E : EE} {base : Nat} (C : Cx p E base s m args meth c cX12_tolls 6 RX12) (hr : meth.sig.returnType = (some .int)) {Q : Int32 → St → Prop} : ∀ (n : Nat) (x1 : Int32) (x4 : Int32) (x5 : Int32) (σ : St) (H : Heap) (locs : List Loc) (ls : Array Slot), lv_has ls 6 [(0, .ref (ga E 11)), (1, .int x1), (4, .int x4), (5, .int x5)] → GW E base s σ H locs → wX12_tolls_37 Q n x1 x4 x5 σ → W p l e rmX12_tolls s m args below meth c H locs 0 0 (MQ below (QI E base Q) args s 0 0 (fun q => base ≤ q)) (F0 m 37 ls []) := by
  intro n
  induction n with
  | zero => intro _ _ _; intros; exact False.elim (by assumption)
  | succ n ih =>
    intro x1 x4 x5 σ H locs ls hl g h
    refine lv_iload C.1 C.2.1 dX12_tolls_37 (lv_at hl 3 rfl) ?_
    refine lv_aload_n C.1 C.2.1 dX12_tolls_39 rfl (lv_at hl 0 rfl) ?_
    refine gx_getI C g fl_X12_325 dX12_tolls_40 sh_11 rfl ?_
    refine lv_icmp_ge (tgt := 89) C.1 C.2.1 dX12_tolls_43 (by decide) (fun c1 => ?_) (fun c1 => ?_)
    · have h := h.1 c1
      refine lv_iload C.1 C.2.1 dX12_tolls_89 (lv_at hl 2 rfl) ?_
      exact gx_iret C hr g dX12_tolls_91 h
    · have h := h.2 c1
      refine lv_aload_n C.1 C.2.1 dX12_tolls_46 rfl (lv_at hl 0 rfl) ?_
      refine gx_getR C g fl_X12_131 dX12_tolls_47 sh_11 rfl (by decide) ?_
      refine lv_iload C.1 C.2.1 dX12_tolls_50 (lv_at hl 3 rfl) ?_
      obtain ⟨i2, h⟩ := h
      refine gx_iald C g dX12_tolls_52 sh_85 i2 ?_
      refine lv_iload_n C.1 C.2.1 dX12_tolls_53 rfl (lv_at hl 1 rfl) ?_
      refine lv_icmp_ne (tgt := 83) C.1 C.2.1 dX12_tolls_54 (by decide) (fun c3 => ?_) (fun c3 => ?_)
      · have h := h.2 c3
        exact tX12_tolls_83 C hr ih x1 x4 x5 _ _ _ _ (lv_sub hl [0, 1, 2, 3] rfl) g h
      · have h := h.1 c3
        refine lv_aload_n C.1 C.2.1 dX12_tolls_57 rfl (lv_at hl 0 rfl) ?_
        refine gx_getR C g fl_X12_179 dX12_tolls_58 sh_11 rfl (by decide) ?_
        refine lv_iload C.1 C.2.1 dX12_tolls_61 (lv_at hl 3 rfl) ?_
        obtain ⟨i4, h⟩ := h
        refine gx_iald C g dX12_tolls_63 sh_99 i4 ?_
        refine lv_iconst (v := -1) C.1 C.2.1 dX12_tolls_64 (by decide) ?_
        refine lv_icmp_eq (tgt := 83) C.1 C.2.1 dX12_tolls_65 (by decide) (fun c5 => ?_) (fun c5 => ?_)
        · have h := h.1 c5
          exact tX12_tolls_83 C hr ih x1 x4 x5 _ _ _ _ (lv_sub hl [0, 1, 2, 3] rfl) g h
        · have h := h.2 c5
          refine lv_iload C.1 C.2.1 dX12_tolls_68 (lv_at hl 2 rfl) ?_
          refine lv_aload_n C.1 C.2.1 dX12_tolls_70 rfl (lv_at hl 0 rfl) ?_
          refine gx_getR C g fl_X12_134 dX12_tolls_71 sh_11 rfl (by decide) ?_
          refine lv_iload C.1 C.2.1 dX12_tolls_74 (lv_at hl 3 rfl) ?_
          obtain ⟨i6, h⟩ := h
          refine gx_iald C g dX12_tolls_76 sh_86 i6 ?_
          refine lv_bipush (v := 16) C.1 C.2.1 dX12_tolls_77 (by decide) ?_
          refine lv_idiv C.1 C.2.1 dX12_tolls_79 (by decide) ?_
          refine lv_iadd C.1 C.2.1 dX12_tolls_80 ?_
          refine lv_topi (fun x4_7 ex4_7 => ?_)
          have h := h x4_7 ex4_7
          refine lv_istore (lv' := [(4, .int x4_7), (0, .ref (ga E 11)), (1, .int x1), (5, .int x5)]) C.1 C.2.1 dX12_tolls_81 hl (by decide) rfl (fun ls hl => ?_)
          exact tX12_tolls_83 C hr ih x1 x4_7 x5 _ _ _ _ (lv_sub hl [1, 2, 0, 3] rfl) g h
set_option maxHeartbeats 4000000 in
set_option maxRecDepth 100000 in
theorem tX12_tolls_e {p : Program} {l : Launch} {e : Env} {s : State} {m : MethodId} {args : Array Value} {below : List Frame} {meth : Method} {c : Code} {E : EE} {base : Nat} (C : Cx p E base s m args meth c cX12_tolls 6 RX12) (hr : meth.sig.returnType = (some .int)) {Q : Int32 → St → Prop} : ∀ (x1 : Int32) (x2 : Int32) (x3 : Int32) (σ : St) (H : Heap) (locs : List Loc) (ls : Array Slot), lv_has ls 6 [(0, .ref (ga E 11)), (1, .int x1), (2, .int x2), (3, .int x3)] → GW E base s σ H locs → wX12_tolls x1 x2 x3 σ Q → W p l e rmX12_tolls s m args below meth c H locs 0 0 (MQ below (QI E base Q) args s 0 0 (fun q => base ≤ q)) (F0 m 0 ls []) := by
  intro x1 x2 x3 σ H locs ls hl g h
  refine lv_aload_n C.1 C.2.1 dX12_tolls_0 rfl (lv_at hl 0 rfl) ?_
  refine lv_iload_n C.1 C.2.1 dX12_tolls_1 rfl (lv_at hl 1 rfl) ?_
  refine gx_calli0 g (gx_runV (k := 11) (rest := []) C g mb_X12_isMill ml_X12_319 rfl sh_11 (mX12_isMill x1 _ _ h) ⟨Nat.le_of_ble_eq_true rfl, Nat.le_of_ble_eq_true rfl⟩ ⟨Nat.le_refl _, Nat.le_refl _⟩ rfl hl.1 rfl (Nat.le_of_ble_eq_true rfl) dX12_tolls_2) rfl rfl (fun r1 σ2 H locs h g => ?_)
  refine lv_if_eq (tgt := 23) C.1 C.2.1 dX12_tolls_5 (by decide) (fun c3 => ?_) (fun c3 => ?_)
  · have h := h.1 c3
    refine lv_iconst (v := -1) C.1 C.2.1 dX12_tolls_23 (by decide) ?_
    exact gx_iret C hr g dX12_tolls_24 h
  · have h := h.2 c3
    refine lv_iload_n C.1 C.2.1 dX12_tolls_8 rfl (lv_at hl 2 rfl) ?_
    refine gx_calli0 g (gx_runS (rest := []) C g ms_X12_isEnd ml_X12_364 (mX12_isEnd x2 _ _ h) ⟨Nat.le_of_ble_eq_true rfl, Nat.le_of_ble_eq_true rfl⟩ ⟨Nat.le_refl _, Nat.le_refl _⟩ rfl hl.1 rfl (Nat.le_of_ble_eq_true rfl) dX12_tolls_9) rfl rfl (fun r4 σ5 H locs h g => ?_)
    refine lv_if_eq (tgt := 23) C.1 C.2.1 dX12_tolls_12 (by decide) (fun c6 => ?_) (fun c6 => ?_)
    · have h := h.1 c6
      refine lv_iconst (v := -1) C.1 C.2.1 dX12_tolls_23 (by decide) ?_
      exact gx_iret C hr g dX12_tolls_24 h
    · have h := h.2 c6
      refine lv_aload_n C.1 C.2.1 dX12_tolls_15 rfl (lv_at hl 0 rfl) ?_
      refine lv_iload_n C.1 C.2.1 dX12_tolls_16 rfl (lv_at hl 3 rfl) ?_
      refine gx_calli0 g (gx_runV (k := 11) (rest := []) C g mb_X12_isKnown ml_X12_357 rfl sh_11 (mX12_isKnown x3 _ _ h) ⟨Nat.le_of_ble_eq_true rfl, Nat.le_of_ble_eq_true rfl⟩ ⟨Nat.le_refl _, Nat.le_refl _⟩ rfl hl.1 rfl (Nat.le_of_ble_eq_true rfl) dX12_tolls_17) rfl rfl (fun r7 σ8 H locs h g => ?_)
      refine lv_if_ne (tgt := 25) C.1 C.2.1 dX12_tolls_20 (by decide) (fun c9 => ?_) (fun c9 => ?_)
      · have h := h.2 c9
        refine lv_aload_n C.1 C.2.1 dX12_tolls_25 rfl (lv_at hl 0 rfl) ?_
        refine lv_iload_n C.1 C.2.1 dX12_tolls_26 rfl (lv_at hl 3 rfl) ?_
        refine lv_iload_n C.1 C.2.1 dX12_tolls_27 rfl (lv_at hl 2 rfl) ?_
        refine gx_callv0 g (gx_runV (k := 11) (rest := []) C g mb_X12_grinds ml_X12_380 rfl sh_11 (mX12_grinds x3 x2 _ _ h) ⟨Nat.le_of_ble_eq_true rfl, Nat.le_of_ble_eq_true rfl⟩ ⟨Nat.le_refl _, Nat.le_refl _⟩ rfl hl.1 rfl (Nat.le_of_ble_eq_true rfl) dX12_tolls_28) rfl rfl (fun σ11 H locs h g => ?_)
        refine lv_iconst (v := 0) C.1 C.2.1 dX12_tolls_31 (by decide) ?_
        refine lv_istore (lv' := [(4, .int (0 : Int32)), (0, .ref (ga E 11)), (1, .int x1), (2, .int x2), (3, .int x3)]) C.1 C.2.1 dX12_tolls_32 hl (by decide) rfl (fun ls hl => ?_)
        refine lv_iconst (v := 0) C.1 C.2.1 dX12_tolls_34 (by decide) ?_
        refine lv_istore (lv' := [(5, .int (0 : Int32)), (4, .int (0 : Int32)), (0, .ref (ga E 11)), (1, .int x1), (2, .int x2), (3, .int x3)]) C.1 C.2.1 dX12_tolls_35 hl (by decide) rfl (fun ls hl => ?_)
        obtain ⟨j, h⟩ := h
        exact tX12_tolls_37 C hr j x1 (0 : Int32) (0 : Int32) _ _ _ _ (lv_sub hl [2, 3, 1, 0] rfl) g h
      · have h := h.1 c9
        refine lv_iconst (v := -1) C.1 C.2.1 dX12_tolls_23 (by decide) ?_
        exact gx_iret C hr g dX12_tolls_24 h
theorem mX12_tolls {l : Launch} {E : EE} {base : Nat} (x1 : Int32) (x2 : Int32) (x3 : Int32) (σ : St) (Q : Int32 → St → Prop) (h : wX12_tolls x1 x2 x3 σ Q) : Met l yX12_tolls (wy yX12_tolls cX12_tolls 6 (some .int)) rmX12_tolls (va_Pc [.ref (ga E 11), .int x1, .int x2, .int x3] (fun U => SW E base σ U)) (QI E base Q) (rmX12_tolls).cells (rmX12_tolls).slots (fun q => base ≤ q) :=
  met_of (by decide) (Nat.le_of_ble_eq_true rfl) (fun p e s m args below meth c C hr g ls hl => tX12_tolls_e C hr x1 x2 x3 _ _ _ _ hl g h)
abbrev rmX12_count : Room := { frames := 0, cells := 0, slots := 0, locals := 0 }
def wX12_count (x1 : Int32) (σ : St) (Q : Int32 → St → Prop) : Prop := ((x1 = 0 → Q (gv σ 11 43) σ) ∧ (¬ (x1 = 0) → ((x1 = 1 → Q (gv σ 11 52) σ) ∧ (¬ (x1 = 1) → ((x1 = 2 → Q (gv σ 11 56) σ) ∧ (¬ (x1 = 2) → ((x1 = 3 → Q (gv σ 11 61) σ) ∧ (¬ (x1 = 3) → ((x1 = 4 → Q (gv σ 11 18) σ) ∧ (¬ (x1 = 4) → ((x1 = 5 → Q (gv σ 11 23) σ) ∧ (¬ (x1 = 5) → ((x1 = 6 → Q (gv σ 11 51) σ) ∧ (¬ (x1 = 6) → ((x1 = 7 → Q (gv σ 11 49) σ) ∧ (¬ (x1 = 7) → ((x1 = 8 → Q (gv σ 11 2) σ) ∧ (¬ (x1 = 8) → Q (-1 : Int32) σ))))))))))))))))))
set_option maxHeartbeats 4000000 in
set_option maxRecDepth 100000 in
theorem tX12_count_e {p : Program} {l : Launch} {e : Env} {s : State} {m : MethodId} {args : Array Value} {below : List Frame} {meth : Method} {c : Code} {E : EE} {base : Nat} (C : Cx p E base s m args meth c cX12_count 2 RX12) (hr : meth.sig.returnType = (some .int)) {Q : Int32 → St → Prop} : ∀ (x1 : Int32) (σ : St) (H : Heap) (locs : List Loc) (ls : Array Slot), lv_has ls 2 [(0, .ref (ga E 11)), (1, .int x1)] → GW E base s σ H locs → wX12_count x1 σ Q → W p l e rmX12_count s m args below meth c H locs 0 0 (MQ below (QI E base Q) args s 0 0 (fun q => base ≤ q)) (F0 m 0 ls []) := by
  intro x1 σ H locs ls hl g h
  refine lv_iload_n C.1 C.2.1 dX12_count_0 rfl (lv_at hl 1 rfl) ?_
  by_cases c1 : x1 = 0
  · have h := h.1 c1
    refine gx_tabI (tgt := 52) C.1 C.2.1 dX12_count_1 (off := 51) (k := 0) c1 (by decide +kernel) (by decide) ?_
    refine lv_aload_n C.1 C.2.1 dX12_count_52 rfl (lv_at hl 0 rfl) ?_
    refine gx_getI C g fl_X12_307 dX12_count_53 sh_11 rfl ?_
    exact gx_iret C hr g dX12_count_56 h
  · have h := h.2 c1
    by_cases c2 : x1 = 1
    · have h := h.1 c2
      refine gx_tabI (tgt := 57) C.1 C.2.1 dX12_count_1 (off := 56) (k := 1) c2 (by decide +kernel) (by decide) ?_
      refine lv_aload_n C.1 C.2.1 dX12_count_57 rfl (lv_at hl 0 rfl) ?_
      refine gx_getI C g fl_X12_316 dX12_count_58 sh_11 rfl ?_
      exact gx_iret C hr g dX12_count_61 h
    · have h := h.2 c2
      by_cases c3 : x1 = 2
      · have h := h.1 c3
        refine gx_tabI (tgt := 62) C.1 C.2.1 dX12_count_1 (off := 61) (k := 2) c3 (by decide +kernel) (by decide) ?_
        refine lv_aload_n C.1 C.2.1 dX12_count_62 rfl (lv_at hl 0 rfl) ?_
        refine gx_getI C g fl_X12_322 dX12_count_63 sh_11 rfl ?_
        exact gx_iret C hr g dX12_count_66 h
      · have h := h.2 c3
        by_cases c4 : x1 = 3
        · have h := h.1 c4
          refine gx_tabI (tgt := 67) C.1 C.2.1 dX12_count_1 (off := 66) (k := 3) c4 (by decide +kernel) (by decide) ?_
          refine lv_aload_n C.1 C.2.1 dX12_count_67 rfl (lv_at hl 0 rfl) ?_
          refine gx_getI C g fl_X12_325 dX12_count_68 sh_11 rfl ?_
          exact gx_iret C hr g dX12_count_71 h
        · have h := h.2 c4
          by_cases c5 : x1 = 4
          · have h := h.1 c5
            refine gx_tabI (tgt := 72) C.1 C.2.1 dX12_count_1 (off := 71) (k := 4) c5 (by decide +kernel) (by decide) ?_
            refine lv_aload_n C.1 C.2.1 dX12_count_72 rfl (lv_at hl 0 rfl) ?_
            refine gx_getI C g fl_X12_257 dX12_count_73 sh_11 rfl ?_
            exact gx_iret C hr g dX12_count_76 h
          · have h := h.2 c5
            by_cases c6 : x1 = 5
            · have h := h.1 c6
              refine gx_tabI (tgt := 77) C.1 C.2.1 dX12_count_1 (off := 76) (k := 5) c6 (by decide +kernel) (by decide) ?_
              refine lv_aload_n C.1 C.2.1 dX12_count_77 rfl (lv_at hl 0 rfl) ?_
              refine gx_getI C g fl_X12_263 dX12_count_78 sh_11 rfl ?_
              exact gx_iret C hr g dX12_count_81 h
            · have h := h.2 c6
              by_cases c7 : x1 = 6
              · have h := h.1 c7
                refine gx_tabI (tgt := 82) C.1 C.2.1 dX12_count_1 (off := 81) (k := 6) c7 (by decide +kernel) (by decide) ?_
                refine lv_aload_n C.1 C.2.1 dX12_count_82 rfl (lv_at hl 0 rfl) ?_
                refine gx_getI C g fl_X12_310 dX12_count_83 sh_11 rfl ?_
                exact gx_iret C hr g dX12_count_86 h
              · have h := h.2 c7
                by_cases c8 : x1 = 7
                · have h := h.1 c8
                  refine gx_tabI (tgt := 87) C.1 C.2.1 dX12_count_1 (off := 86) (k := 7) c8 (by decide +kernel) (by decide) ?_
                  refine lv_aload_n C.1 C.2.1 dX12_count_87 rfl (lv_at hl 0 rfl) ?_
                  refine gx_getI C g fl_X12_186 dX12_count_88 sh_11 rfl ?_
                  exact gx_iret C hr g dX12_count_91 h
                · have h := h.2 c8
                  by_cases c9 : x1 = 8
                  · have h := h.1 c9
                    refine gx_tabI (tgt := 92) C.1 C.2.1 dX12_count_1 (off := 91) (k := 8) c9 (by decide +kernel) (by decide) ?_
                    refine lv_aload_n C.1 C.2.1 dX12_count_92 rfl (lv_at hl 0 rfl) ?_
                    refine gx_getI C g fl_X12_189 dX12_count_93 sh_11 rfl ?_
                    exact gx_iret C hr g dX12_count_96 h
                  · have h := h.2 c9
                    refine gx_tabD (tgt := 97) C.1 C.2.1 dX12_count_1 [0, 1, 2, 3, 4, 5, 6, 7, 8] (List.forall_mem_cons.mpr ⟨c1, List.forall_mem_cons.mpr ⟨c2, List.forall_mem_cons.mpr ⟨c3, List.forall_mem_cons.mpr ⟨c4, List.forall_mem_cons.mpr ⟨c5, List.forall_mem_cons.mpr ⟨c6, List.forall_mem_cons.mpr ⟨c7, List.forall_mem_cons.mpr ⟨c8, List.forall_mem_cons.mpr ⟨c9, fun _ z => by cases z⟩⟩⟩⟩⟩⟩⟩⟩⟩) (by decide +kernel) (by decide +kernel) (by decide) ?_
                    refine lv_iconst (v := -1) C.1 C.2.1 dX12_count_97 (by decide) ?_
                    exact gx_iret C hr g dX12_count_98 h
theorem mX12_count {l : Launch} {E : EE} {base : Nat} (x1 : Int32) (σ : St) (Q : Int32 → St → Prop) (h : wX12_count x1 σ Q) : Met l yX12_count (wy yX12_count cX12_count 2 (some .int)) rmX12_count (va_Pc [.ref (ga E 11), .int x1] (fun U => SW E base σ U)) (QI E base Q) (rmX12_count).cells (rmX12_count).slots (fun q => base ≤ q) :=
  met_of (by decide) (Nat.le_of_ble_eq_true rfl) (fun p e s m args below meth c C hr g ls hl => tX12_count_e C hr x1 _ _ _ _ hl g h)
