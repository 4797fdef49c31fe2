def wL_law_1005 (xs : Nat → Int32) (L : Nat) (K18 : Int32 → St → Prop) (x3 : Int32) (σ : St) : Prop := ∀ x3_1 : Int32, x3_1 = x3 + 6 → K18 x3_1 σ
set_option maxHeartbeats 4000000 in
set_option maxRecDepth 100000 in
theorem tL_law_1005 {p : Program} {l : Launch} {e : Env} {s : State} {m : MethodId} {below : List Frame} {meth : Method} {c : Code} {E : EE} {b L : Nat} {xs : Nat → Int32} (C : Cx p E s.heap.size s m #[Value.ref b] meth c code 4 RL) (hX : va_X b L xs s s.heap) (hbl : b < s.heap.size) (hbA : ¬ (fun q => s.heap.size ≤ q) b) (hr : meth.sig.returnType = ret) (n : Nat) {K18 : Int32 → St → Prop} (hK18 : ∀ (x3 : Int32) (σ : St) (H : Heap) (locs : List Loc) (ls : Array Slot) (cells slots : Nat), cells + n ≤ 600000 → slots + 7000 * n ≤ 7302249 → lv_has ls 4 [(0, .ref b), (1, .ref (ga E 0)), (2, .ref (ga E 11)), (3, .int x3)] → GW E s.heap.size s σ H locs → K18 x3 σ → W p l e room_1 s m #[Value.ref b] below meth c H locs cells slots (lw_Z below #[Value.ref b] s) (F0 m 18 ls [])) : ∀ (x3 : Int32) (σ : St) (H : Heap) (locs : List Loc) (ls : Array Slot) (cells slots : Nat), cells + n ≤ 600000 → slots + 7000 * n ≤ 7302249 → lv_has ls 4 [(0, .ref b), (1, .ref (ga E 0)), (2, .ref (ga E 11)), (3, .int x3)] → GW E s.heap.size s σ H locs → wL_law_1005 xs L K18 x3 σ → W p l e room_1 s m #[Value.ref b] below meth c H locs cells slots (lw_Z below #[Value.ref b] s) (F0 m 1005 ls []) := by
  intro x3 σ H locs ls cells slots hcc hss hl g h
  obtain ⟨x3_1, ex3_1⟩ : ∃ y : Int32, y = x3 + 6 := ⟨_, rfl⟩
  have h := h x3_1 ex3_1
  refine lv_iinc (v := x3_1) (lv' := [(3, .int x3_1), (0, .ref b), (1, .ref (ga E 0)), (2, .ref (ga E 11))]) C.1 C.2.1 dL_law_1005 hl (k := 3) rfl (by rw [ex3_1]; rfl) (by decide) rfl (fun ls hl => ?_)
  refine lv_goto (tgt := 18) C.1 C.2.1 dL_law_1008 (by decide) ?_
  exact hK18 x3_1 _ _ _ _ _ _ (by omega) (by omega) (lv_sub hl [1, 2, 3, 0] rfl) g h
def wL_law_496 (xs : Nat → Int32) (L : Nat) (K18 : Int32 → St → Prop) (x3 : Int32) (xt0 : Int32) (xt2 : Int32) (xt3 : Int32) (σ : St) : Prop := vp_in (x3 + (3 : Int32)) L ∧ wX12_order xt2 xt3 (xs (x3 + (3 : Int32)).toNatClampNeg) σ (fun (r2 : Int32) (σ3 : St) => ((xt0 = r2 → wL_law_1005 xs L K18 x3 σ3) ∧ (¬ (xt0 = r2) → False)))
set_option maxHeartbeats 4000000 in
set_option maxRecDepth 100000 in
theorem tL_law_496 {p : Program} {l : Launch} {e : Env} {s : State} {m : MethodId} {below : List Frame} {meth : Method} {c : Code} {E : EE} {b L : Nat} {xs : Nat → Int32} (C : Cx p E s.heap.size s m #[Value.ref b] meth c code 4 RL) (hX : va_X b L xs s s.heap) (hbl : b < s.heap.size) (hbA : ¬ (fun q => s.heap.size ≤ q) b) (hr : meth.sig.returnType = ret) (n : Nat) {K18 : Int32 → St → Prop} (hK18 : ∀ (x3 : Int32) (σ : St) (H : Heap) (locs : List Loc) (ls : Array Slot) (cells slots : Nat), cells + n ≤ 600000 → slots + 7000 * n ≤ 7302249 → lv_has ls 4 [(0, .ref b), (1, .ref (ga E 0)), (2, .ref (ga E 11)), (3, .int x3)] → GW E s.heap.size s σ H locs → K18 x3 σ → W p l e room_1 s m #[Value.ref b] below meth c H locs cells slots (lw_Z below #[Value.ref b] s) (F0 m 18 ls [])) : ∀ (x3 : Int32) (xt0 : Int32) (xt2 : Int32) (xt3 : Int32) (σ : St) (H : Heap) (locs : List Loc) (ls : Array Slot) (cells slots : Nat), cells + n ≤ 600000 → slots + 7000 * n ≤ 7302249 → lv_has ls 4 [(0, .ref b), (1, .ref (ga E 0)), (2, .ref (ga E 11)), (3, .int x3)] → GW E s.heap.size s σ H locs → wL_law_496 xs L K18 x3 xt0 xt2 xt3 σ → W p l e room_1 s m #[Value.ref b] below meth c H locs cells slots (lw_Z below #[Value.ref b] s) (F0 m 496 ls [.int xt3, .int xt2, .ref (ga E 11), .int xt0]) := by
  intro x3 xt0 xt2 xt3 σ H locs ls cells slots hcc hss hl g h
  refine lv_aload_n C.1 C.2.1 dL_law_496 rfl (lv_at hl 0 rfl) ?_
  refine lv_iload_n C.1 C.2.1 dL_law_497 rfl (lv_at hl 3 rfl) ?_
  refine lv_iconst (v := 3) C.1 C.2.1 dL_law_498 (by decide) ?_
  refine lv_iadd C.1 C.2.1 dL_law_499 ?_
  obtain ⟨i1, h⟩ := h
  refine va_sld C.1 C.2.1 hX hbl hbA g.2.2 i1 dL_law_500 ?_
  refine gx_calli0 g (gx_runV (k := 11) (rest := [.int xt0]) C g mb_X12_order ml_L_64 rfl sh_11 (mX12_order xt2 xt3 (xs (x3 + (3 : Int32)).toNatClampNeg) _ _ h) ⟨Nat.le_of_ble_eq_true rfl, Nat.le_of_ble_eq_true rfl⟩ ⟨by show cells + 0 ≤ 600000; omega, by show slots + 0 ≤ 7302249; omega⟩ rfl hl.1 rfl (Nat.le_of_ble_eq_true rfl) dL_law_501) rfl rfl (fun r2 σ3 H locs h g => ?_)
  refine lv_icmp_eq (tgt := 1005) C.1 C.2.1 dL_law_504 (by decide) (fun c4 => ?_) (fun c4 => ?_)
  · have h := h.1 c4
    exact tL_law_1005 C hX hbl hbA hr n (K18 := K18) hK18 x3 _ _ _ _ _ _ (by omega) (by omega) (lv_sub hl [0, 1, 2, 3] rfl) g h
  · have h := h.2 c4
    refine lv_iconst (v := 0) C.1 C.2.1 dL_law_507 (by decide) ?_
    exact False.elim h
def wL_law_469 (xs : Nat → Int32) (L : Nat) (K18 : Int32 → St → Prop) (x3 : Int32) (xt1 : Int32) (xt2 : Int32) (σ : St) : Prop := vp_in (x3 + (3 : Int32)) L ∧ wX11_order xt1 xt2 (xs (x3 + (3 : Int32)).toNatClampNeg) σ (fun (r2 : Int32) (σ3 : St) => vp_in (x3 + (1 : Int32)) L ∧ vp_in (x3 + (2 : Int32)) L ∧ (((xs (x3 + (2 : Int32)).toNatClampNeg) = 0 → wL_law_496 xs L K18 x3 r2 (xs (x3 + (1 : Int32)).toNatClampNeg) (0 : Int32) σ3) ∧ (¬ ((xs (x3 + (2 : Int32)).toNatClampNeg) = 0) → wL_law_496 xs L K18 x3 r2 (xs (x3 + (1 : Int32)).toNatClampNeg) (1 : Int32) σ3)))
set_option maxHeartbeats 4000000 in
set_option maxRecDepth 100000 in
theorem tL_law_469 {p : Program} {l : Launch} {e : Env} {s : State} {m : MethodId} {below : List Frame} {meth : Method} {c : Code} {E : EE} {b L : Nat} {xs : Nat → Int32} (C : Cx p E s.heap.size s m #[Value.ref b] meth c code 4 RL) (hX : va_X b L xs s s.heap) (hbl : b < s.heap.size) (hbA : ¬ (fun q => s.heap.size ≤ q) b) (hr : meth.sig.returnType = ret) (n : Nat) {K18 : Int32 → St → Prop} (hK18 : ∀ (x3 : Int32) (σ : St) (H : Heap) (locs : List Loc) (ls : Array Slot) (cells slots : Nat), cells + n ≤ 600000 → slots + 7000 * n ≤ 7302249 → lv_has ls 4 [(0, .ref b), (1, .ref (ga E 0)), (2, .ref (ga E 11)), (3, .int x3)] → GW E s.heap.size s σ H locs → K18 x3 σ → W p l e room_1 s m #[Value.ref b] below meth c H locs cells slots (lw_Z below #[Value.ref b] s) (F0 m 18 ls [])) : ∀ (x3 : Int32) (xt1 : Int32) (xt2 : Int32) (σ : St) (H : Heap) (locs : List Loc) (ls : Array Slot) (cells slots : Nat), cells + n ≤ 600000 → slots + 7000 * n ≤ 7302249 → lv_has ls 4 [(0, .ref b), (1, .ref (ga E 0)), (2, .ref (ga E 11)), (3, .int x3)] → GW E s.heap.size s σ H locs → wL_law_469 xs L K18 x3 xt1 xt2 σ → W p l e room_1 s m #[Value.ref b] below meth c H locs cells slots (lw_Z below #[Value.ref b] s) (F0 m 469 ls [.int xt2, .int xt1, .ref (ga E 0)]) := by
  intro x3 xt1 xt2 σ H locs ls cells slots hcc hss hl g h
  refine lv_aload_n C.1 C.2.1 dL_law_469 rfl (lv_at hl 0 rfl) ?_
  refine lv_iload_n C.1 C.2.1 dL_law_470 rfl (lv_at hl 3 rfl) ?_
  refine lv_iconst (v := 3) C.1 C.2.1 dL_law_471 (by decide) ?_
  refine lv_iadd C.1 C.2.1 dL_law_472 ?_
  obtain ⟨i1, h⟩ := h
  refine va_sld C.1 C.2.1 hX hbl hbA g.2.2 i1 dL_law_473 ?_
  refine gx_calli0 g (gx_runV (k := 0) (rest := []) C g mb_X11_order ml_L_60 rfl sh_0 (mX11_order xt1 xt2 (xs (x3 + (3 : Int32)).toNatClampNeg) _ _ h) ⟨Nat.le_of_ble_eq_true rfl, Nat.le_of_ble_eq_true rfl⟩ ⟨by show cells + 0 ≤ 600000; omega, by show slots + 0 ≤ 7302249; omega⟩ rfl hl.1 rfl (Nat.le_of_ble_eq_true rfl) dL_law_474) rfl rfl (fun r2 σ3 H locs h g => ?_)
  refine lv_aload_n C.1 C.2.1 dL_law_477 rfl (lv_at hl 2 rfl) ?_
  refine lv_aload_n C.1 C.2.1 dL_law_478 rfl (lv_at hl 0 rfl) ?_
  refine lv_iload_n C.1 C.2.1 dL_law_479 rfl (lv_at hl 3 rfl) ?_
  refine lv_iconst (v := 1) C.1 C.2.1 dL_law_480 (by decide) ?_
  refine lv_iadd C.1 C.2.1 dL_law_481 ?_
  obtain ⟨i4, h⟩ := h
  refine va_sld C.1 C.2.1 hX hbl hbA g.2.2 i4 dL_law_482 ?_
  refine lv_aload_n C.1 C.2.1 dL_law_483 rfl (lv_at hl 0 rfl) ?_
  refine lv_iload_n C.1 C.2.1 dL_law_484 rfl (lv_at hl 3 rfl) ?_
  refine lv_iconst (v := 2) C.1 C.2.1 dL_law_485 (by decide) ?_
  refine lv_iadd C.1 C.2.1 dL_law_486 ?_
  obtain ⟨i5, h⟩ := h
  refine va_sld C.1 C.2.1 hX hbl hbA g.2.2 i5 dL_law_487 ?_
  refine lv_if_eq (tgt := 495) C.1 C.2.1 dL_law_488 (by decide) (fun c6 => ?_) (fun c6 => ?_)
  · have h := h.1 c6
    refine lv_iconst (v := 0) C.1 C.2.1 dL_law_495 (by decide) ?_
    exact tL_law_496 C hX hbl hbA hr n (K18 := K18) hK18 x3 r2 (xs (x3 + (1 : Int32)).toNatClampNeg) (0 : Int32) _ _ _ _ _ _ (by omega) (by omega) (lv_sub hl [0, 1, 2, 3] rfl) g h
  · have h := h.2 c6
    refine lv_iconst (v := 1) C.1 C.2.1 dL_law_491 (by decide) ?_
    refine lv_goto (tgt := 496) C.1 C.2.1 dL_law_492 (by decide) ?_
    exact tL_law_496 C hX hbl hbA hr n (K18 := K18) hK18 x3 r2 (xs (x3 + (1 : Int32)).toNatClampNeg) (1 : Int32) _ _ _ _ _ _ (by omega) (by omega) (lv_sub hl [0, 1, 2, 3] rfl) g h
def wL_law_18 (xs : Nat → Int32) (L : Nat) : Nat → Int32 → St → Prop
  | 0, _, _ => False
  | n + 1, x3, σ => ((((nI L) - (6 : Int32)) < x3 → True) ∧ (¬ (((nI L) - (6 : Int32)) < x3) → vp_in x3 L ∧ ((((xs x3.toNatClampNeg) &&& (31 : Int32)) = 0 → vp_in (x3 + (1 : Int32)) L ∧ vp_in (x3 + (2 : Int32)) L ∧ vp_in (x3 + (3 : Int32)) L ∧ vp_in (x3 + (4 : Int32)) L ∧ vp_in (x3 + (5 : Int32)) L ∧ wX11_feed (xs (x3 + (1 : Int32)).toNatClampNeg) (xs (x3 + (2 : Int32)).toNatClampNeg) (xs (x3 + (3 : Int32)).toNatClampNeg) (xs (x3 + (4 : Int32)).toNatClampNeg) (xs (x3 + (5 : Int32)).toNatClampNeg) σ (fun (r9 : Int32) (σ10 : St) => vp_in (x3 + (1 : Int32)) L ∧ vp_in (x3 + (2 : Int32)) L ∧ vp_in (x3 + (3 : Int32)) L ∧ vp_in (x3 + (4 : Int32)) L ∧ vp_in (x3 + (5 : Int32)) L ∧ wX12_feed (xs (x3 + (1 : Int32)).toNatClampNeg) (xs (x3 + (2 : Int32)).toNatClampNeg) (xs (x3 + (3 : Int32)).toNatClampNeg) (xs (x3 + (4 : Int32)).toNatClampNeg) (xs (x3 + (5 : Int32)).toNatClampNeg) σ10 (fun (r16 : Int32) (σ17 : St) => ((r9 = r16 → wL_law_1005 xs L (fun x3' σ' => wL_law_18 xs L n x3' σ') x3 σ17) ∧ (¬ (r9 = r16) → False))))) ∧ (¬ (((xs x3.toNatClampNeg) &&& (31 : Int32)) = 0) → ((((xs x3.toNatClampNeg) &&& (31 : Int32)) = 1 → vp_in (x3 + (1 : Int32)) L ∧ wX11_back (xs (x3 + (1 : Int32)).toNatClampNeg) σ (fun (r21 : Int32) (σ22 : St) => vp_in (x3 + (1 : Int32)) L ∧ wX12_back (xs (x3 + (1 : Int32)).toNatClampNeg) σ22 (fun (r24 : Int32) (σ25 : St) => ((r21 = r24 → wL_law_1005 xs L (fun x3' σ' => wL_law_18 xs L n x3' σ') x3 σ25) ∧ (¬ (r21 = r24) → False))))) ∧ (¬ (((xs x3.toNatClampNeg) &&& (31 : Int32)) = 1) → ((((xs x3.toNatClampNeg) &&& (31 : Int32)) = 2 → wX11_read σ (fun (r28 : Int32) (σ29 : St) => wX12_read σ29 (fun (r30 : Int32) (σ31 : St) => ((r28 = r30 → wL_law_1005 xs L (fun x3' σ' => wL_law_18 xs L n x3' σ') x3 σ31) ∧ (¬ (r28 = r30) → False))))) ∧ (¬ (((xs x3.toNatClampNeg) &&& (31 : Int32)) = 2) → ((((xs x3.toNatClampNeg) &&& (31 : Int32)) = 3 → wX11_place σ (fun (r34 : Int32) (σ35 : St) => wX12_place σ35 (fun (r36 : Int32) (σ37 : St) => ((r34 = r36 → wL_law_1005 xs L (fun x3' σ' => wL_law_18 xs L n x3' σ') x3 σ37) ∧ (¬ (r34 = r36) → False))))) ∧ (¬ (((xs x3.toNatClampNeg) &&& (31 : Int32)) = 3) → ((((xs x3.toNatClampNeg) &&& (31 : Int32)) = 4 → vp_in (x3 + (1 : Int32)) L ∧ vp_in (x3 + (2 : Int32)) L ∧ vp_in (x3 + (3 : Int32)) L ∧ vp_in (x3 + (4 : Int32)) L ∧ wX11_mill (xs (x3 + (1 : Int32)).toNatClampNeg) (xs (x3 + (2 : Int32)).toNatClampNeg) (xs (x3 + (3 : Int32)).toNatClampNeg) (xs (x3 + (4 : Int32)).toNatClampNeg) σ (fun (r44 : Int32) (σ45 : St) => vp_in (x3 + (1 : Int32)) L ∧ vp_in (x3 + (2 : Int32)) L ∧ vp_in (x3 + (3 : Int32)) L ∧ vp_in (x3 + (4 : Int32)) L ∧ wX12_mill (xs (x3 + (1 : Int32)).toNatClampNeg) (xs (x3 + (2 : Int32)).toNatClampNeg) (xs (x3 + (3 : Int32)).toNatClampNeg) (xs (x3 + (4 : Int32)).toNatClampNeg) σ45 (fun (r50 : Int32) (σ51 : St) => ((r44 = r50 → wL_law_1005 xs L (fun x3' σ' => wL_law_18 xs L n x3' σ') x3 σ51) ∧ (¬ (r44 = r50) → False))))) ∧ (¬ (((xs x3.toNatClampNeg) &&& (31 : Int32)) = 4) → ((((xs x3.toNatClampNeg) &&& (31 : Int32)) = 5 → vp_in (x3 + (1 : Int32)) L ∧ wX11_spring (xs (x3 + (1 : Int32)).toNatClampNeg) σ (fun (r55 : Int32) (σ56 : St) => vp_in (x3 + (1 : Int32)) L ∧ wX12_spring (xs (x3 + (1 : Int32)).toNatClampNeg) σ56 (fun (r58 : Int32) (σ59 : St) => ((r55 = r58 → wL_law_1005 xs L (fun x3' σ' => wL_law_18 xs L n x3' σ') x3 σ59) ∧ (¬ (r55 = r58) → False))))) ∧ (¬ (((xs x3.toNatClampNeg) &&& (31 : Int32)) = 5) → ((((xs x3.toNatClampNeg) &&& (31 : Int32)) = 6 → vp_in (x3 + (1 : Int32)) L ∧ wX11_factors (xs (x3 + (1 : Int32)).toNatClampNeg) σ (fun (r63 : Int32) (σ64 : St) => vp_in (x3 + (1 : Int32)) L ∧ wX12_factors (xs (x3 + (1 : Int32)).toNatClampNeg) σ64 (fun (r66 : Int32) (σ67 : St) => ((r63 = r66 → wL_law_1005 xs L (fun x3' σ' => wL_law_18 xs L n x3' σ') x3 σ67) ∧ (¬ (r63 = r66) → False))))) ∧ (¬ (((xs x3.toNatClampNeg) &&& (31 : Int32)) = 6) → ((((xs x3.toNatClampNeg) &&& (31 : Int32)) = 7 → vp_in (x3 + (1 : Int32)) L ∧ vp_in (x3 + (2 : Int32)) L ∧ wX11_factor (xs (x3 + (1 : Int32)).toNatClampNeg) (xs (x3 + (2 : Int32)).toNatClampNeg) σ (fun (r72 : Int32) (σ73 : St) => vp_in (x3 + (1 : Int32)) L ∧ vp_in (x3 + (2 : Int32)) L ∧ wX12_factor (xs (x3 + (1 : Int32)).toNatClampNeg) (xs (x3 + (2 : Int32)).toNatClampNeg) σ73 (fun (r76 : Int32) (σ77 : St) => ((r72 = r76 → wL_law_1005 xs L (fun x3' σ' => wL_law_18 xs L n x3' σ') x3 σ77) ∧ (¬ (r72 = r76) → False))))) ∧ (¬ (((xs x3.toNatClampNeg) &&& (31 : Int32)) = 7) → ((((xs x3.toNatClampNeg) &&& (31 : Int32)) = 8 → vp_in (x3 + (1 : Int32)) L ∧ wX11_clock (xs (x3 + (1 : Int32)).toNatClampNeg) σ (fun (r81 : Int32) (σ82 : St) => vp_in (x3 + (1 : Int32)) L ∧ wX12_clock (xs (x3 + (1 : Int32)).toNatClampNeg) σ82 (fun (r84 : Int32) (σ85 : St) => ((r81 = r84 → wL_law_1005 xs L (fun x3' σ' => wL_law_18 xs L n x3' σ') x3 σ85) ∧ (¬ (r81 = r84) → False))))) ∧ (¬ (((xs x3.toNatClampNeg) &&& (31 : Int32)) = 8) → ((((xs x3.toNatClampNeg) &&& (31 : Int32)) = 9 → vp_in (x3 + (1 : Int32)) L ∧ vp_in (x3 + (2 : Int32)) L ∧ vp_in (x3 + (3 : Int32)) L ∧ wX11_rain (xs (x3 + (1 : Int32)).toNatClampNeg) (xs (x3 + (2 : Int32)).toNatClampNeg) (xs (x3 + (3 : Int32)).toNatClampNeg) σ (fun (r91 : Int32) (σ92 : St) => vp_in (x3 + (1 : Int32)) L ∧ vp_in (x3 + (2 : Int32)) L ∧ vp_in (x3 + (3 : Int32)) L ∧ wX12_rain (xs (x3 + (1 : Int32)).toNatClampNeg) (xs (x3 + (2 : Int32)).toNatClampNeg) (xs (x3 + (3 : Int32)).toNatClampNeg) σ92 (fun (r96 : Int32) (σ97 : St) => ((r91 = r96 → wL_law_1005 xs L (fun x3' σ' => wL_law_18 xs L n x3' σ') x3 σ97) ∧ (¬ (r91 = r96) → False))))) ∧ (¬ (((xs x3.toNatClampNeg) &&& (31 : Int32)) = 9) → ((((xs x3.toNatClampNeg) &&& (31 : Int32)) = 10 → vp_in (x3 + (1 : Int32)) L ∧ vp_in (x3 + (2 : Int32)) L ∧ (((xs (x3 + (2 : Int32)).toNatClampNeg) = 0 → wL_law_469 xs L (fun x3' σ' => wL_law_18 xs L n x3' σ') x3 (xs (x3 + (1 : Int32)).toNatClampNeg) (0 : Int32) σ) ∧ (¬ ((xs (x3 + (2 : Int32)).toNatClampNeg) = 0) → wL_law_469 xs L (fun x3' σ' => wL_law_18 xs L n x3' σ') x3 (xs (x3 + (1 : Int32)).toNatClampNeg) (1 : Int32) σ))) ∧ (¬ (((xs x3.toNatClampNeg) &&& (31 : Int32)) = 10) → ((((xs x3.toNatClampNeg) &&& (31 : Int32)) = 11 → vp_in (x3 + (1 : Int32)) L ∧ vp_in (x3 + (2 : Int32)) L ∧ wX11_grist (xs (x3 + (1 : Int32)).toNatClampNeg) (xs (x3 + (2 : Int32)).toNatClampNeg) σ (fun (r106 : Int32) (σ107 : St) => vp_in (x3 + (1 : Int32)) L ∧ vp_in (x3 + (2 : Int32)) L ∧ wX12_grist (xs (x3 + (1 : Int32)).toNatClampNeg) (xs (x3 + (2 : Int32)).toNatClampNeg) σ107 (fun (r110 : Int32) (σ111 : St) => ((r106 = r110 → wL_law_1005 xs L (fun x3' σ' => wL_law_18 xs L n x3' σ') x3 σ111) ∧ (¬ (r106 = r110) → False))))) ∧ (¬ (((xs x3.toNatClampNeg) &&& (31 : Int32)) = 11) → ((((xs x3.toNatClampNeg) &&& (31 : Int32)) = 12 → vp_in (x3 + (1 : Int32)) L ∧ vp_in (x3 + (2 : Int32)) L ∧ vp_in (x3 + (3 : Int32)) L ∧ vp_in (x3 + (4 : Int32)) L ∧ wX11_at (xs (x3 + (1 : Int32)).toNatClampNeg) (xs (x3 + (2 : Int32)).toNatClampNeg) (xs (x3 + (3 : Int32)).toNatClampNeg) (xs (x3 + (4 : Int32)).toNatClampNeg) σ (fun (r118 : Int32) (σ119 : St) => vp_in (x3 + (1 : Int32)) L ∧ vp_in (x3 + (2 : Int32)) L ∧ vp_in (x3 + (3 : Int32)) L ∧ vp_in (x3 + (4 : Int32)) L ∧ wX12_at_ (xs (x3 + (1 : Int32)).toNatClampNeg) (xs (x3 + (2 : Int32)).toNatClampNeg) (xs (x3 + (3 : Int32)).toNatClampNeg) (xs (x3 + (4 : Int32)).toNatClampNeg) σ119 (fun (r124 : Int32) (σ125 : St) => ((r118 = r124 → wL_law_1005 xs L (fun x3' σ' => wL_law_18 xs L n x3' σ') x3 σ125) ∧ (¬ (r118 = r124) → False))))) ∧ (¬ (((xs x3.toNatClampNeg) &&& (31 : Int32)) = 12) → ((((xs x3.toNatClampNeg) &&& (31 : Int32)) = 13 → vp_in (x3 + (1 : Int32)) L ∧ vp_in (x3 + (2 : Int32)) L ∧ wX11_sea (xs (x3 + (1 : Int32)).toNatClampNeg) (xs (x3 + (2 : Int32)).toNatClampNeg) σ (fun (r130 : Int32) (σ131 : St) => vp_in (x3 + (1 : Int32)) L ∧ vp_in (x3 + (2 : Int32)) L ∧ wX12_sea (xs (x3 + (1 : Int32)).toNatClampNeg) (xs (x3 + (2 : Int32)).toNatClampNeg) σ131 (fun (r134 : Int32) (σ135 : St) => ((r130 = r134 → wL_law_1005 xs L (fun x3' σ' => wL_law_18 xs L n x3' σ') x3 σ135) ∧ (¬ (r130 = r134) → False))))) ∧ (¬ (((xs x3.toNatClampNeg) &&& (31 : Int32)) = 13) → ((((xs x3.toNatClampNeg) &&& (31 : Int32)) = 14 → vp_in (x3 + (1 : Int32)) L ∧ vp_in (x3 + (2 : Int32)) L ∧ vp_in (x3 + (3 : Int32)) L ∧ wX11_broken (xs (x3 + (1 : Int32)).toNatClampNeg) (xs (x3 + (2 : Int32)).toNatClampNeg) (xs (x3 + (3 : Int32)).toNatClampNeg) σ (fun (r141 : Int32) (σ142 : St) => vp_in (x3 + (1 : Int32)) L ∧ vp_in (x3 + (2 : Int32)) L ∧ vp_in (x3 + (3 : Int32)) L ∧ wX12_broken (xs (x3 + (1 : Int32)).toNatClampNeg) (xs (x3 + (2 : Int32)).toNatClampNeg) (xs (x3 + (3 : Int32)).toNatClampNeg) σ142 (fun (r146 : Int32) (σ147 : St) => ((r141 = r146 → wL_law_1005 xs L (fun x3' σ' => wL_law_18 xs L n x3' σ') x3 σ147) ∧ (¬ (r141 = r146) → False))))) ∧ (¬ (((xs x3.toNatClampNeg) &&& (31 : Int32)) = 14) → ((((xs x3.toNatClampNeg) &&& (31 : Int32)) = 15 → vp_in (x3 + (1 : Int32)) L ∧ vp_in (x3 + (2 : Int32)) L ∧ vp_in (x3 + (3 : Int32)) L ∧ wX11_first (xs (x3 + (1 : Int32)).toNatClampNeg) (xs (x3 + (2 : Int32)).toNatClampNeg) (xs (x3 + (3 : Int32)).toNatClampNeg) σ (fun (r153 : Int32) (σ154 : St) => vp_in (x3 + (1 : Int32)) L ∧ vp_in (x3 + (2 : Int32)) L ∧ vp_in (x3 + (3 : Int32)) L ∧ wX12_first (xs (x3 + (1 : Int32)).toNatClampNeg) (xs (x3 + (2 : Int32)).toNatClampNeg) (xs (x3 + (3 : Int32)).toNatClampNeg) σ154 (fun (r158 : Int32) (σ159 : St) => ((r153 = r158 → wL_law_1005 xs L (fun x3' σ' => wL_law_18 xs L n x3' σ') x3 σ159) ∧ (¬ (r153 = r158) → False))))) ∧ (¬ (((xs x3.toNatClampNeg) &&& (31 : Int32)) = 15) → ((((xs x3.toNatClampNeg) &&& (31 : Int32)) = 16 → vp_in (x3 + (1 : Int32)) L ∧ vp_in (x3 + (2 : Int32)) L ∧ vp_in (x3 + (3 : Int32)) L ∧ vp_in (x3 + (4 : Int32)) L ∧ vp_in (x3 + (5 : Int32)) L ∧ wX11_loss (xs (x3 + (1 : Int32)).toNatClampNeg) (xs (x3 + (2 : Int32)).toNatClampNeg) (xs (x3 + (3 : Int32)).toNatClampNeg) (xs (x3 + (4 : Int32)).toNatClampNeg) (xs (x3 + (5 : Int32)).toNatClampNeg) σ (fun (r167 : Int32) (σ168 : St) => vp_in (x3 + (1 : Int32)) L ∧ vp_in (x3 + (2 : Int32)) L ∧ vp_in (x3 + (3 : Int32)) L ∧ vp_in (x3 + (4 : Int32)) L ∧ vp_in (x3 + (5 : Int32)) L ∧ wX12_loss (xs (x3 + (1 : Int32)).toNatClampNeg) (xs (x3 + (2 : Int32)).toNatClampNeg) (xs (x3 + (3 : Int32)).toNatClampNeg) (xs (x3 + (4 : Int32)).toNatClampNeg) (xs (x3 + (5 : Int32)).toNatClampNeg) σ168 (fun (r174 : Int32) (σ175 : St) => ((r167 = r174 → wL_law_1005 xs L (fun x3' σ' => wL_law_18 xs L n x3' σ') x3 σ175) ∧ (¬ (r167 = r174) → False))))) ∧ (¬ (((xs x3.toNatClampNeg) &&& (31 : Int32)) = 16) → ((((xs x3.toNatClampNeg) &&& (31 : Int32)) = 17 → vp_in (x3 + (1 : Int32)) L ∧ vp_in (x3 + (2 : Int32)) L ∧ vp_in (x3 + (3 : Int32)) L ∧ vp_in (x3 + (4 : Int32)) L ∧ wX11_culprit (xs (x3 + (1 : Int32)).toNatClampNeg) (xs (x3 + (2 : Int32)).toNatClampNeg) (xs (x3 + (3 : Int32)).toNatClampNeg) (xs (x3 + (4 : Int32)).toNatClampNeg) σ (fun (r182 : Int32) (σ183 : St) => vp_in (x3 + (1 : Int32)) L ∧ vp_in (x3 + (2 : Int32)) L ∧ vp_in (x3 + (3 : Int32)) L ∧ vp_in (x3 + (4 : Int32)) L ∧ wX12_culprit (xs (x3 + (1 : Int32)).toNatClampNeg) (xs (x3 + (2 : Int32)).toNatClampNeg) (xs (x3 + (3 : Int32)).toNatClampNeg) (xs (x3 + (4 : Int32)).toNatClampNeg) σ183 (fun (r188 : Int32) (σ189 : St) => ((r182 = r188 → wL_law_1005 xs L (fun x3' σ' => wL_law_18 xs L n x3' σ') x3 σ189) ∧ (¬ (r182 = r188) → False))))) ∧ (¬ (((xs x3.toNatClampNeg) &&& (31 : Int32)) = 17) → ((((xs x3.toNatClampNeg) &&& (31 : Int32)) = 18 → vp_in (x3 + (1 : Int32)) L ∧ vp_in (x3 + (2 : Int32)) L ∧ vp_in (x3 + (3 : Int32)) L ∧ wX11_plan (xs (x3 + (1 : Int32)).toNatClampNeg) (xs (x3 + (2 : Int32)).toNatClampNeg) (xs (x3 + (3 : Int32)).toNatClampNeg) σ (fun (r195 : Int32) (σ196 : St) => vp_in (x3 + (1 : Int32)) L ∧ vp_in (x3 + (2 : Int32)) L ∧ vp_in (x3 + (3 : Int32)) L ∧ wX12_plan (xs (x3 + (1 : Int32)).toNatClampNeg) (xs (x3 + (2 : Int32)).toNatClampNeg) (xs (x3 + (3 : Int32)).toNatClampNeg) σ196 (fun (r200 : Int32) (σ201 : St) => ((r195 = r200 → wL_law_1005 xs L (fun x3' σ' => wL_law_18 xs L n x3' σ') x3 σ201) ∧ (¬ (r195 = r200) → False))))) ∧ (¬ (((xs x3.toNatClampNeg) &&& (31 : Int32)) = 18) → ((((xs x3.toNatClampNeg) &&& (31 : Int32)) = 19 → vp_in (x3 + (1 : Int32)) L ∧ wX11_planned (xs (x3 + (1 : Int32)).toNatClampNeg) σ (fun (r205 : Int32) (σ206 : St) => vp_in (x3 + (1 : Int32)) L ∧ wX12_planned (xs (x3 + (1 : Int32)).toNatClampNeg) σ206 (fun (r208 : Int32) (σ209 : St) => ((r205 = r208 → wL_law_1005 xs L (fun x3' σ' => wL_law_18 xs L n x3' σ') x3 σ209) ∧ (¬ (r205 = r208) → False))))) ∧ (¬ (((xs x3.toNatClampNeg) &&& (31 : Int32)) = 19) → ((((xs x3.toNatClampNeg) &&& (31 : Int32)) = 20 → vp_in (x3 + (1 : Int32)) L ∧ vp_in (x3 + (2 : Int32)) L ∧ vp_in (x3 + (3 : Int32)) L ∧ wX11_told (xs (x3 + (1 : Int32)).toNatClampNeg) (xs (x3 + (2 : Int32)).toNatClampNeg) (xs (x3 + (3 : Int32)).toNatClampNeg) σ (fun (r215 : Int32) (σ216 : St) => vp_in (x3 + (1 : Int32)) L ∧ vp_in (x3 + (2 : Int32)) L ∧ vp_in (x3 + (3 : Int32)) L ∧ wX12_told (xs (x3 + (1 : Int32)).toNatClampNeg) (xs (x3 + (2 : Int32)).toNatClampNeg) (xs (x3 + (3 : Int32)).toNatClampNeg) σ216 (fun (r220 : Int32) (σ221 : St) => ((r215 = r220 → wL_law_1005 xs L (fun x3' σ' => wL_law_18 xs L n x3' σ') x3 σ221) ∧ (¬ (r215 = r220) → False))))) ∧ (¬ (((xs x3.toNatClampNeg) &&& (31 : Int32)) = 20) → ((((xs x3.toNatClampNeg) &&& (31 : Int32)) = 21 → vp_in (x3 + (1 : Int32)) L ∧ vp_in (x3 + (2 : Int32)) L ∧ vp_in (x3 + (3 : Int32)) L ∧ wX11_tolls (xs (x3 + (1 : Int32)).toNatClampNeg) (xs (x3 + (2 : Int32)).toNatClampNeg) (xs (x3 + (3 : Int32)).toNatClampNeg) σ (fun (r227 : Int32) (σ228 : St) => vp_in (x3 + (1 : Int32)) L ∧ vp_in (x3 + (2 : Int32)) L ∧ vp_in (x3 + (3 : Int32)) L ∧ wX12_tolls (xs (x3 + (1 : Int32)).toNatClampNeg) (xs (x3 + (2 : Int32)).toNatClampNeg) (xs (x3 + (3 : Int32)).toNatClampNeg) σ228 (fun (r232 : Int32) (σ233 : St) => ((r227 = r232 → wL_law_1005 xs L (fun x3' σ' => wL_law_18 xs L n x3' σ') x3 σ233) ∧ (¬ (r227 = r232) → False))))) ∧ (¬ (((xs x3.toNatClampNeg) &&& (31 : Int32)) = 21) → ((((xs x3.toNatClampNeg) &&& (31 : Int32)) = 22 → vp_in (x3 + (1 : Int32)) L ∧ wX11_count (xs (x3 + (1 : Int32)).toNatClampNeg) σ (fun (r237 : Int32) (σ238 : St) => vp_in (x3 + (1 : Int32)) L ∧ wX12_count (xs (x3 + (1 : Int32)).toNatClampNeg) σ238 (fun (r240 : Int32) (σ241 : St) => ((r237 = r240 → wL_law_1005 xs L (fun x3' σ' => wL_law_18 xs L n x3' σ') x3 σ241) ∧ (¬ (r237 = r240) → False))))) ∧ (¬ (((xs x3.toNatClampNeg) &&& (31 : Int32)) = 22) → wL_law_1005 xs L (fun x3' σ' => wL_law_18 xs L n x3' σ') x3 σ))))))))))))))))))))))))))))))))))))))))))))))))
set_option maxHeartbeats 4000000 in
set_option maxRecDepth 100000 in
theorem tL_law_18 {p : Program} {l : Launch} {e : Env} {s : State} {m : MethodId} {below : List Frame} {meth : Method} {c : Code} {E : EE} {b L : Nat} {xs : Nat → Int32} (C : Cx p E s.heap.size s m #[Value.ref b] meth c code 4 RL) (hX : va_X b L xs s s.heap) (hbl : b < s.heap.size) (hbA : ¬ (fun q => s.heap.size ≤ q) b) (hr : meth.sig.returnType = ret) : ∀ (n : Nat) (x3 : Int32) (σ : St) (H : Heap) (locs : List Loc) (ls : Array Slot) (cells slots : Nat), cells + n ≤ 600000 → slots + 7000 * n ≤ 7302249 → lv_has ls 4 [(0, .ref b), (1, .ref (ga E 0)), (2, .ref (ga E 11)), (3, .int x3)] → GW E s.heap.size s σ H locs → wL_law_18 xs L n x3 σ → W p l e room_1 s m #[Value.ref b] below meth c H locs cells slots (lw_Z below #[Value.ref b] s) (F0 m 18 ls []) := by
  intro n
  induction n with
  | zero => intro _ _ _ _ _ _ _ _ _ _ _ h; exact False.elim h
  | succ n ih =>
    intro x3 σ H locs ls cells slots hcc hss hl g h
    refine lv_iload_n C.1 C.2.1 dL_law_18 rfl (lv_at hl 3 rfl) ?_
    refine lv_aload_n C.1 C.2.1 dL_law_19 rfl (lv_at hl 0 rfl) ?_
    refine va_slen C.1 C.2.1 hX hbl hbA g.2.2 dL_law_20 ?_
    refine lv_bipush (v := 6) C.1 C.2.1 dL_law_21 (by decide) ?_
    refine lv_isub C.1 C.2.1 dL_law_23 ?_
    refine lv_icmp_gt (tgt := 1011) C.1 C.2.1 dL_law_24 (by decide) (fun c1 => ?_) (fun c1 => ?_)
    · have h := h.1 c1
      refine lv_iconst (v := 1) C.1 C.2.1 dL_law_1011 (by decide) ?_
      refine va_forget (fun q hq => g.2.2.2.2 q hq) ?_
      refine W.widen (k := 600000) (n := 7302249) (by omega) (by omega) ?_
      exact lw_ret C.1 C.2.1 hr C.2.2.2.2.2.1 dL_law_1012
    · have h := h.2 c1
      refine lv_aload_n C.1 C.2.1 dL_law_27 rfl (lv_at hl 0 rfl) ?_
      refine lv_iload_n C.1 C.2.1 dL_law_28 rfl (lv_at hl 3 rfl) ?_
      obtain ⟨i2, h⟩ := h
      refine va_sld C.1 C.2.1 hX hbl hbA g.2.2 i2 dL_law_29 ?_
      refine lv_bipush (v := 31) C.1 C.2.1 dL_law_30 (by decide) ?_
      refine lv_iand C.1 C.2.1 dL_law_32 ?_
      by_cases c3 : ((xs x3.toNatClampNeg) &&& (31 : Int32)) = 0
      · have h := h.1 c3
        refine gx_tabI (tgt := 140) C.1 C.2.1 dL_law_33 (off := 107) (k := 0) c3 (by decide +kernel) (by decide) ?_
        refine lv_aload_n C.1 C.2.1 dL_law_140 rfl (lv_at hl 1 rfl) ?_
        refine lv_aload_n C.1 C.2.1 dL_law_141 rfl (lv_at hl 0 rfl) ?_
        refine lv_iload_n C.1 C.2.1 dL_law_142 rfl (lv_at hl 3 rfl) ?_
        refine lv_iconst (v := 1) C.1 C.2.1 dL_law_143 (by decide) ?_
        refine lv_iadd C.1 C.2.1 dL_law_144 ?_
        obtain ⟨i4, h⟩ := h
        refine va_sld C.1 C.2.1 hX hbl hbA g.2.2 i4 dL_law_145 ?_
        refine lv_aload_n C.1 C.2.1 dL_law_146 rfl (lv_at hl 0 rfl) ?_
        refine lv_iload_n C.1 C.2.1 dL_law_147 rfl (lv_at hl 3 rfl) ?_
        refine lv_iconst (v := 2) C.1 C.2.1 dL_law_148 (by decide) ?_
        refine lv_iadd C.1 C.2.1 dL_law_149 ?_
        obtain ⟨i5, h⟩ := h
        refine va_sld C.1 C.2.1 hX hbl hbA g.2.2 i5 dL_law_150 ?_
        refine lv_aload_n C.1 C.2.1 dL_law_151 rfl (lv_at hl 0 rfl) ?_
        refine lv_iload_n C.1 C.2.1 dL_law_152 rfl (lv_at hl 3 rfl) ?_
        refine lv_iconst (v := 3) C.1 C.2.1 dL_law_153 (by decide) ?_
        refine lv_iadd C.1 C.2.1 dL_law_154 ?_
        obtain ⟨i6, h⟩ := h
        refine va_sld C.1 C.2.1 hX hbl hbA g.2.2 i6 dL_law_155 ?_
        refine lv_aload_n C.1 C.2.1 dL_law_156 rfl (lv_at hl 0 rfl) ?_
        refine lv_iload_n C.1 C.2.1 dL_law_157 rfl (lv_at hl 3 rfl) ?_
        refine lv_iconst (v := 4) C.1 C.2.1 dL_law_158 (by decide) ?_
        refine lv_iadd C.1 C.2.1 dL_law_159 ?_
        obtain ⟨i7, h⟩ := h
        refine va_sld C.1 C.2.1 hX hbl hbA g.2.2 i7 dL_law_160 ?_
        refine lv_aload_n C.1 C.2.1 dL_law_161 rfl (lv_at hl 0 rfl) ?_
        refine lv_iload_n C.1 C.2.1 dL_law_162 rfl (lv_at hl 3 rfl) ?_
        refine lv_iconst (v := 5) C.1 C.2.1 dL_law_163 (by decide) ?_
        refine lv_iadd C.1 C.2.1 dL_law_164 ?_
        obtain ⟨i8, h⟩ := h
        refine va_sld C.1 C.2.1 hX hbl hbA g.2.2 i8 dL_law_165 ?_
        refine gx_calli0 g (gx_runV (k := 0) (rest := []) C g mb_X11_feed ml_L_13 rfl sh_0 (mX11_feed (xs (x3 + (1 : Int32)).toNatClampNeg) (xs (x3 + (2 : Int32)).toNatClampNeg) (xs (x3 + (3 : Int32)).toNatClampNeg) (xs (x3 + (4 : Int32)).toNatClampNeg) (xs (x3 + (5 : Int32)).toNatClampNeg) _ _ h) ⟨Nat.le_of_ble_eq_true rfl, Nat.le_of_ble_eq_true rfl⟩ ⟨by show cells + 0 ≤ 600000; omega, by show slots + 0 ≤ 7302249; omega⟩ rfl hl.1 rfl (Nat.le_of_ble_eq_true rfl) dL_law_166) rfl rfl (fun r9 σ10 H locs h g => ?_)
        refine lv_aload_n C.1 C.2.1 dL_law_169 rfl (lv_at hl 2 rfl) ?_
        refine lv_aload_n C.1 C.2.1 dL_law_170 rfl (lv_at hl 0 rfl) ?_
        refine lv_iload_n C.1 C.2.1 dL_law_171 rfl (lv_at hl 3 rfl) ?_
        refine lv_iconst (v := 1) C.1 C.2.1 dL_law_172 (by decide) ?_
        refine lv_iadd C.1 C.2.1 dL_law_173 ?_
        obtain ⟨i11, h⟩ := h
        refine va_sld C.1 C.2.1 hX hbl hbA g.2.2 i11 dL_law_174 ?_
        refine lv_aload_n C.1 C.2.1 dL_law_175 rfl (lv_at hl 0 rfl) ?_
        refine lv_iload_n C.1 C.2.1 dL_law_176 rfl (lv_at hl 3 rfl) ?_
        refine lv_iconst (v := 2) C.1 C.2.1 dL_law_177 (by decide) ?_
        refine lv_iadd C.1 C.2.1 dL_law_178 ?_
        obtain ⟨i12, h⟩ := h
        refine va_sld C.1 C.2.1 hX hbl hbA g.2.2 i12 dL_law_179 ?_
        refine lv_aload_n C.1 C.2.1 dL_law_180 rfl (lv_at hl 0 rfl) ?_
        refine lv_iload_n C.1 C.2.1 dL_law_181 rfl (lv_at hl 3 rfl) ?_
        refine lv_iconst (v := 3) C.1 C.2.1 dL_law_182 (by decide) ?_
        refine lv_iadd C.1 C.2.1 dL_law_183 ?_
        obtain ⟨i13, h⟩ := h
        refine va_sld C.1 C.2.1 hX hbl hbA g.2.2 i13 dL_law_184 ?_
        refine lv_aload_n C.1 C.2.1 dL_law_185 rfl (lv_at hl 0 rfl) ?_
        refine lv_iload_n C.1 C.2.1 dL_law_186 rfl (lv_at hl 3 rfl) ?_
        refine lv_iconst (v := 4) C.1 C.2.1 dL_law_187 (by decide) ?_
        refine lv_iadd C.1 C.2.1 dL_law_188 ?_
        obtain ⟨i14, h⟩ := h
        refine va_sld C.1 C.2.1 hX hbl hbA g.2.2 i14 dL_law_189 ?_
        refine lv_aload_n C.1 C.2.1 dL_law_190 rfl (lv_at hl 0 rfl) ?_
        refine lv_iload_n C.1 C.2.1 dL_law_191 rfl (lv_at hl 3 rfl) ?_
        refine lv_iconst (v := 5) C.1 C.2.1 dL_law_192 (by decide) ?_
        refine lv_iadd C.1 C.2.1 dL_law_193 ?_
        obtain ⟨i15, h⟩ := h
        refine va_sld C.1 C.2.1 hX hbl hbA g.2.2 i15 dL_law_194 ?_
        refine gx_calli0 g (gx_runV (k := 11) (rest := [.int r9]) C g mb_X12_feed ml_L_17 rfl sh_11 (mX12_feed (xs (x3 + (1 : Int32)).toNatClampNeg) (xs (x3 + (2 : Int32)).toNatClampNeg) (xs (x3 + (3 : Int32)).toNatClampNeg) (xs (x3 + (4 : Int32)).toNatClampNeg) (xs (x3 + (5 : Int32)).toNatClampNeg) _ _ h) ⟨Nat.le_of_ble_eq_true rfl, Nat.le_of_ble_eq_true rfl⟩ ⟨by show cells + 0 ≤ 600000; omega, by show slots + 0 ≤ 7302249; omega⟩ rfl hl.1 rfl (Nat.le_of_ble_eq_true rfl) dL_law_195) rfl rfl (fun r16 σ17 H locs h g => ?_)
        refine lv_icmp_eq (tgt := 1005) C.1 C.2.1 dL_law_198 (by decide) (fun c18 => ?_) (fun c18 => ?_)
        · have h := h.1 c18
          exact tL_law_1005 C hX hbl hbA hr n (K18 := (fun x3' σ' => wL_law_18 xs L n x3' σ')) ih x3 _ _ _ _ _ _ (by omega) (by omega) (lv_sub hl [0, 1, 2, 3] rfl) g h
        · have h := h.2 c18
          refine lv_iconst (v := 0) C.1 C.2.1 dL_law_201 (by decide) ?_
          exact False.elim h
      · have h := h.2 c3
        by_cases c19 : ((xs x3.toNatClampNeg) &&& (31 : Int32)) = 1
        · have h := h.1 c19
          refine gx_tabI (tgt := 203) C.1 C.2.1 dL_law_33 (off := 170) (k := 1) c19 (by decide +kernel) (by decide) ?_
          refine lv_aload_n C.1 C.2.1 dL_law_203 rfl (lv_at hl 1 rfl) ?_
          refine lv_aload_n C.1 C.2.1 dL_law_204 rfl (lv_at hl 0 rfl) ?_
          refine lv_iload_n C.1 C.2.1 dL_law_205 rfl (lv_at hl 3 rfl) ?_
          refine lv_iconst (v := 1) C.1 C.2.1 dL_law_206 (by decide) ?_
          refine lv_iadd C.1 C.2.1 dL_law_207 ?_
          obtain ⟨i20, h⟩ := h
          refine va_sld C.1 C.2.1 hX hbl hbA g.2.2 i20 dL_law_208 ?_
          refine gx_calli0 g (gx_runV (k := 0) (rest := []) C g mb_X11_back ml_L_18 rfl sh_0 (mX11_back (xs (x3 + (1 : Int32)).toNatClampNeg) _ _ h) ⟨Nat.le_of_ble_eq_true rfl, Nat.le_of_ble_eq_true rfl⟩ ⟨by show cells + 0 ≤ 600000; omega, by show slots + 0 ≤ 7302249; omega⟩ rfl hl.1 rfl (Nat.le_of_ble_eq_true rfl) dL_law_209) rfl rfl (fun r21 σ22 H locs h g => ?_)
          refine lv_aload_n C.1 C.2.1 dL_law_212 rfl (lv_at hl 2 rfl) ?_
          refine lv_aload_n C.1 C.2.1 dL_law_213 rfl (lv_at hl 0 rfl) ?_
          refine lv_iload_n C.1 C.2.1 dL_law_214 rfl (lv_at hl 3 rfl) ?_
          refine lv_iconst (v := 1) C.1 C.2.1 dL_law_215 (by decide) ?_
          refine lv_iadd C.1 C.2.1 dL_law_216 ?_
          obtain ⟨i23, h⟩ := h
          refine va_sld C.1 C.2.1 hX hbl hbA g.2.2 i23 dL_law_217 ?_
          refine gx_calli0 g (gx_runV (k := 11) (rest := [.int r21]) C g mb_X12_back ml_L_22 rfl sh_11 (mX12_back (xs (x3 + (1 : Int32)).toNatClampNeg) _ _ h) ⟨Nat.le_of_ble_eq_true rfl, Nat.le_of_ble_eq_true rfl⟩ ⟨by show cells + 0 ≤ 600000; omega, by show slots + 0 ≤ 7302249; omega⟩ rfl hl.1 rfl (Nat.le_of_ble_eq_true rfl) dL_law_218) rfl rfl (fun r24 σ25 H locs h g => ?_)
          refine lv_icmp_eq (tgt := 1005) C.1 C.2.1 dL_law_221 (by decide) (fun c26 => ?_) (fun c26 => ?_)
          · have h := h.1 c26
            exact tL_law_1005 C hX hbl hbA hr n (K18 := (fun x3' σ' => wL_law_18 xs L n x3' σ')) ih x3 _ _ _ _ _ _ (by omega) (by omega) (lv_sub hl [0, 1, 2, 3] rfl) g h
          · have h := h.2 c26
            refine lv_iconst (v := 0) C.1 C.2.1 dL_law_224 (by decide) ?_
            exact False.elim h
        · have h := h.2 c19
          by_cases c27 : ((xs x3.toNatClampNeg) &&& (31 : Int32)) = 2
          · have h := h.1 c27
            refine gx_tabI (tgt := 226) C.1 C.2.1 dL_law_33 (off := 193) (k := 2) c27 (by decide +kernel) (by decide) ?_
            refine lv_aload_n C.1 C.2.1 dL_law_226 rfl (lv_at hl 1 rfl) ?_
            refine gx_calliA g (gx_runV (k := 0) (rest := []) C g mb_X11_read ml_L_23 rfl sh_0 (mX11_read _ _ h) ⟨Nat.le_of_ble_eq_true rfl, Nat.le_of_ble_eq_true rfl⟩ ⟨by show cells + 1 ≤ 600000; omega, by show slots + 7000 ≤ 7302249; omega⟩ rfl hl.1 rfl (Nat.le_of_ble_eq_true rfl) dL_law_227) rfl rfl (fun r28 σ29 H locs h g => ?_)
            refine lv_aload_n C.1 C.2.1 dL_law_230 rfl (lv_at hl 2 rfl) ?_
            refine gx_calli0 g (gx_runV (k := 11) (rest := [.int r28]) C g mb_X12_read ml_L_27 rfl sh_11 (mX12_read _ _ h) ⟨Nat.le_of_ble_eq_true rfl, Nat.le_of_ble_eq_true rfl⟩ ⟨by show cells + 1 + 0 ≤ 600000; omega, by show slots + 7000 + 0 ≤ 7302249; omega⟩ rfl hl.1 rfl (Nat.le_of_ble_eq_true rfl) dL_law_231) rfl rfl (fun r30 σ31 H locs h g => ?_)
            refine lv_icmp_eq (tgt := 1005) C.1 C.2.1 dL_law_234 (by decide) (fun c32 => ?_) (fun c32 => ?_)
            · have h := h.1 c32
              exact tL_law_1005 C hX hbl hbA hr n (K18 := (fun x3' σ' => wL_law_18 xs L n x3' σ')) ih x3 _ _ _ _ _ _ (by omega) (by omega) (lv_sub hl [0, 1, 2, 3] rfl) g h
            · have h := h.2 c32
              refine lv_iconst (v := 0) C.1 C.2.1 dL_law_237 (by decide) ?_
              exact False.elim h
          · have h := h.2 c27
            by_cases c33 : ((xs x3.toNatClampNeg) &&& (31 : Int32)) = 3
            · have h := h.1 c33
              refine gx_tabI (tgt := 239) C.1 C.2.1 dL_law_33 (off := 206) (k := 3) c33 (by decide +kernel) (by decide) ?_
              refine lv_aload_n C.1 C.2.1 dL_law_239 rfl (lv_at hl 1 rfl) ?_
              refine gx_calli0 g (gx_runV (k := 0) (rest := []) C g mb_X11_place ml_L_28 rfl sh_0 (mX11_place _ _ h) ⟨Nat.le_of_ble_eq_true rfl, Nat.le_of_ble_eq_true rfl⟩ ⟨by show cells + 0 ≤ 600000; omega, by show slots + 0 ≤ 7302249; omega⟩ rfl hl.1 rfl (Nat.le_of_ble_eq_true rfl) dL_law_240) rfl rfl (fun r34 σ35 H locs h g => ?_)
              refine lv_aload_n C.1 C.2.1 dL_law_243 rfl (lv_at hl 2 rfl) ?_
              refine gx_calli0 g (gx_runV (k := 11) (rest := [.int r34]) C g mb_X12_place ml_L_31 rfl sh_11 (mX12_place _ _ h) ⟨Nat.le_of_ble_eq_true rfl, Nat.le_of_ble_eq_true rfl⟩ ⟨by show cells + 0 ≤ 600000; omega, by show slots + 0 ≤ 7302249; omega⟩ rfl hl.1 rfl (Nat.le_of_ble_eq_true rfl) dL_law_244) rfl rfl (fun r36 σ37 H locs h g => ?_)
              refine lv_icmp_eq (tgt := 1005) C.1 C.2.1 dL_law_247 (by decide) (fun c38 => ?_) (fun c38 => ?_)
              · have h := h.1 c38
                exact tL_law_1005 C hX hbl hbA hr n (K18 := (fun x3' σ' => wL_law_18 xs L n x3' σ')) ih x3 _ _ _ _ _ _ (by omega) (by omega) (lv_sub hl [0, 1, 2, 3] rfl) g h
              · have h := h.2 c38
                refine lv_iconst (v := 0) C.1 C.2.1 dL_law_250 (by decide) ?_
                exact False.elim h
            · have h := h.2 c33
              by_cases c39 : ((xs x3.toNatClampNeg) &&& (31 : Int32)) = 4
              · have h := h.1 c39
                refine gx_tabI (tgt := 252) C.1 C.2.1 dL_law_33 (off := 219) (k := 4) c39 (by decide +kernel) (by decide) ?_
                refine lv_aload_n C.1 C.2.1 dL_law_252 rfl (lv_at hl 1 rfl) ?_
                refine lv_aload_n C.1 C.2.1 dL_law_253 rfl (lv_at hl 0 rfl) ?_
                refine lv_iload_n C.1 C.2.1 dL_law_254 rfl (lv_at hl 3 rfl) ?_
                refine lv_iconst (v := 1) C.1 C.2.1 dL_law_255 (by decide) ?_
                refine lv_iadd C.1 C.2.1 dL_law_256 ?_
                obtain ⟨i40, h⟩ := h
                refine va_sld C.1 C.2.1 hX hbl hbA g.2.2 i40 dL_law_257 ?_
                refine lv_aload_n C.1 C.2.1 dL_law_258 rfl (lv_at hl 0 rfl) ?_
                refine lv_iload_n C.1 C.2.1 dL_law_259 rfl (lv_at hl 3 rfl) ?_
                refine lv_iconst (v := 2) C.1 C.2.1 dL_law_260 (by decide) ?_
                refine lv_iadd C.1 C.2.1 dL_law_261 ?_
                obtain ⟨i41, h⟩ := h
                refine va_sld C.1 C.2.1 hX hbl hbA g.2.2 i41 dL_law_262 ?_
                refine lv_aload_n C.1 C.2.1 dL_law_263 rfl (lv_at hl 0 rfl) ?_
                refine lv_iload_n C.1 C.2.1 dL_law_264 rfl (lv_at hl 3 rfl) ?_
                refine lv_iconst (v := 3) C.1 C.2.1 dL_law_265 (by decide) ?_
                refine lv_iadd C.1 C.2.1 dL_law_266 ?_
                obtain ⟨i42, h⟩ := h
                refine va_sld C.1 C.2.1 hX hbl hbA g.2.2 i42 dL_law_267 ?_
                refine lv_aload_n C.1 C.2.1 dL_law_268 rfl (lv_at hl 0 rfl) ?_
                refine lv_iload_n C.1 C.2.1 dL_law_269 rfl (lv_at hl 3 rfl) ?_
                refine lv_iconst (v := 4) C.1 C.2.1 dL_law_270 (by decide) ?_
                refine lv_iadd C.1 C.2.1 dL_law_271 ?_
                obtain ⟨i43, h⟩ := h
                refine va_sld C.1 C.2.1 hX hbl hbA g.2.2 i43 dL_law_272 ?_
                refine gx_calli0 g (gx_runV (k := 0) (rest := []) C g mb_X11_mill ml_L_32 rfl sh_0 (mX11_mill (xs (x3 + (1 : Int32)).toNatClampNeg) (xs (x3 + (2 : Int32)).toNatClampNeg) (xs (x3 + (3 : Int32)).toNatClampNeg) (xs (x3 + (4 : Int32)).toNatClampNeg) _ _ h) ⟨Nat.le_of_ble_eq_true rfl, Nat.le_of_ble_eq_true rfl⟩ ⟨by show cells + 0 ≤ 600000; omega, by show slots + 0 ≤ 7302249; omega⟩ rfl hl.1 rfl (Nat.le_of_ble_eq_true rfl) dL_law_273) rfl rfl (fun r44 σ45 H locs h g => ?_)
                refine lv_aload_n C.1 C.2.1 dL_law_276 rfl (lv_at hl 2 rfl) ?_
                refine lv_aload_n C.1 C.2.1 dL_law_277 rfl (lv_at hl 0 rfl) ?_
                refine lv_iload_n C.1 C.2.1 dL_law_278 rfl (lv_at hl 3 rfl) ?_
                refine lv_iconst (v := 1) C.1 C.2.1 dL_law_279 (by decide) ?_
                refine lv_iadd C.1 C.2.1 dL_law_280 ?_
                obtain ⟨i46, h⟩ := h
                refine va_sld C.1 C.2.1 hX hbl hbA g.2.2 i46 dL_law_281 ?_
                refine lv_aload_n C.1 C.2.1 dL_law_282 rfl (lv_at hl 0 rfl) ?_
                refine lv_iload_n C.1 C.2.1 dL_law_283 rfl (lv_at hl 3 rfl) ?_
                refine lv_iconst (v := 2) C.1 C.2.1 dL_law_284 (by decide) ?_
                refine lv_iadd C.1 C.2.1 dL_law_285 ?_
                obtain ⟨i47, h⟩ := h
                refine va_sld C.1 C.2.1 hX hbl hbA g.2.2 i47 dL_law_286 ?_
                refine lv_aload_n C.1 C.2.1 dL_law_287 rfl (lv_at hl 0 rfl) ?_
                refine lv_iload_n C.1 C.2.1 dL_law_288 rfl (lv_at hl 3 rfl) ?_
                refine lv_iconst (v := 3) C.1 C.2.1 dL_law_289 (by decide) ?_
                refine lv_iadd C.1 C.2.1 dL_law_290 ?_
                obtain ⟨i48, h⟩ := h
                refine va_sld C.1 C.2.1 hX hbl hbA g.2.2 i48 dL_law_291 ?_
                refine lv_aload_n C.1 C.2.1 dL_law_292 rfl (lv_at hl 0 rfl) ?_
                refine lv_iload_n C.1 C.2.1 dL_law_293 rfl (lv_at hl 3 rfl) ?_
                refine lv_iconst (v := 4) C.1 C.2.1 dL_law_294 (by decide) ?_
                refine lv_iadd C.1 C.2.1 dL_law_295 ?_
                obtain ⟨i49, h⟩ := h
                refine va_sld C.1 C.2.1 hX hbl hbA g.2.2 i49 dL_law_296 ?_
                refine gx_calli0 g (gx_runV (k := 11) (rest := [.int r44]) C g mb_X12_mill ml_L_36 rfl sh_11 (mX12_mill (xs (x3 + (1 : Int32)).toNatClampNeg) (xs (x3 + (2 : Int32)).toNatClampNeg) (xs (x3 + (3 : Int32)).toNatClampNeg) (xs (x3 + (4 : Int32)).toNatClampNeg) _ _ h) ⟨Nat.le_of_ble_eq_true rfl, Nat.le_of_ble_eq_true rfl⟩ ⟨by show cells + 0 ≤ 600000; omega, by show slots + 0 ≤ 7302249; omega⟩ rfl hl.1 rfl (Nat.le_of_ble_eq_true rfl) dL_law_297) rfl rfl (fun r50 σ51 H locs h g => ?_)
                refine lv_icmp_eq (tgt := 1005) C.1 C.2.1 dL_law_300 (by decide) (fun c52 => ?_) (fun c52 => ?_)
                · have h := h.1 c52
                  exact tL_law_1005 C hX hbl hbA hr n (K18 := (fun x3' σ' => wL_law_18 xs L n x3' σ')) ih x3 _ _ _ _ _ _ (by omega) (by omega) (lv_sub hl [0, 1, 2, 3] rfl) g h
                · have h := h.2 c52
                  refine lv_iconst (v := 0) C.1 C.2.1 dL_law_303 (by decide) ?_
                  exact False.elim h
              · have h := h.2 c39
                by_cases c53 : ((xs x3.toNatClampNeg) &&& (31 : Int32)) = 5
                · have h := h.1 c53
                  refine gx_tabI (tgt := 305) C.1 C.2.1 dL_law_33 (off := 272) (k := 5) c53 (by decide +kernel) (by decide) ?_
                  refine lv_aload_n C.1 C.2.1 dL_law_305 rfl (lv_at hl 1 rfl) ?_
                  refine lv_aload_n C.1 C.2.1 dL_law_306 rfl (lv_at hl 0 rfl) ?_
                  refine lv_iload_n C.1 C.2.1 dL_law_307 rfl (lv_at hl 3 rfl) ?_
                  refine lv_iconst (v := 1) C.1 C.2.1 dL_law_308 (by decide) ?_
                  refine lv_iadd C.1 C.2.1 dL_law_309 ?_
                  obtain ⟨i54, h⟩ := h
                  refine va_sld C.1 C.2.1 hX hbl hbA g.2.2 i54 dL_law_310 ?_
                  refine gx_calli0 g (gx_runV (k := 0) (rest := []) C g mb_X11_spring ml_L_37 rfl sh_0 (mX11_spring (xs (x3 + (1 : Int32)).toNatClampNeg) _ _ h) ⟨Nat.le_of_ble_eq_true rfl, Nat.le_of_ble_eq_true rfl⟩ ⟨by show cells + 0 ≤ 600000; omega, by show slots + 0 ≤ 7302249; omega⟩ rfl hl.1 rfl (Nat.le_of_ble_eq_true rfl) dL_law_311) rfl rfl (fun r55 σ56 H locs h g => ?_)
                  refine lv_aload_n C.1 C.2.1 dL_law_314 rfl (lv_at hl 2 rfl) ?_
                  refine lv_aload_n C.1 C.2.1 dL_law_315 rfl (lv_at hl 0 rfl) ?_
                  refine lv_iload_n C.1 C.2.1 dL_law_316 rfl (lv_at hl 3 rfl) ?_
                  refine lv_iconst (v := 1) C.1 C.2.1 dL_law_317 (by decide) ?_
                  refine lv_iadd C.1 C.2.1 dL_law_318 ?_
                  obtain ⟨i57, h⟩ := h
                  refine va_sld C.1 C.2.1 hX hbl hbA g.2.2 i57 dL_law_319 ?_
                  refine gx_calli0 g (gx_runV (k := 11) (rest := [.int r55]) C g mb_X12_spring ml_L_41 rfl sh_11 (mX12_spring (xs (x3 + (1 : Int32)).toNatClampNeg) _ _ h) ⟨Nat.le_of_ble_eq_true rfl, Nat.le_of_ble_eq_true rfl⟩ ⟨by show cells + 0 ≤ 600000; omega, by show slots + 0 ≤ 7302249; omega⟩ rfl hl.1 rfl (Nat.le_of_ble_eq_true rfl) dL_law_320) rfl rfl (fun r58 σ59 H locs h g => ?_)
                  refine lv_icmp_eq (tgt := 1005) C.1 C.2.1 dL_law_323 (by decide) (fun c60 => ?_) (fun c60 => ?_)
                  · have h := h.1 c60
                    exact tL_law_1005 C hX hbl hbA hr n (K18 := (fun x3' σ' => wL_law_18 xs L n x3' σ')) ih x3 _ _ _ _ _ _ (by omega) (by omega) (lv_sub hl [0, 1, 2, 3] rfl) g h
                  · have h := h.2 c60
                    refine lv_iconst (v := 0) C.1 C.2.1 dL_law_326 (by decide) ?_
                    exact False.elim h
                · have h := h.2 c53
                  by_cases c61 : ((xs x3.toNatClampNeg) &&& (31 : Int32)) = 6
                  · have h := h.1 c61
                    refine gx_tabI (tgt := 328) C.1 C.2.1 dL_law_33 (off := 295) (k := 6) c61 (by decide +kernel) (by decide) ?_
                    refine lv_aload_n C.1 C.2.1 dL_law_328 rfl (lv_at hl 1 rfl) ?_
                    refine lv_aload_n C.1 C.2.1 dL_law_329 rfl (lv_at hl 0 rfl) ?_
                    refine lv_iload_n C.1 C.2.1 dL_law_330 rfl (lv_at hl 3 rfl) ?_
                    refine lv_iconst (v := 1) C.1 C.2.1 dL_law_331 (by decide) ?_
                    refine lv_iadd C.1 C.2.1 dL_law_332 ?_
                    obtain ⟨i62, h⟩ := h
                    refine va_sld C.1 C.2.1 hX hbl hbA g.2.2 i62 dL_law_333 ?_
                    refine gx_calli0 g (gx_runV (k := 0) (rest := []) C g mb_X11_factors ml_L_42 rfl sh_0 (mX11_factors (xs (x3 + (1 : Int32)).toNatClampNeg) _ _ h) ⟨Nat.le_of_ble_eq_true rfl, Nat.le_of_ble_eq_true rfl⟩ ⟨by show cells + 0 ≤ 600000; omega, by show slots + 0 ≤ 7302249; omega⟩ rfl hl.1 rfl (Nat.le_of_ble_eq_true rfl) dL_law_334) rfl rfl (fun r63 σ64 H locs h g => ?_)
                    refine lv_aload_n C.1 C.2.1 dL_law_337 rfl (lv_at hl 2 rfl) ?_
                    refine lv_aload_n C.1 C.2.1 dL_law_338 rfl (lv_at hl 0 rfl) ?_
                    refine lv_iload_n C.1 C.2.1 dL_law_339 rfl (lv_at hl 3 rfl) ?_
                    refine lv_iconst (v := 1) C.1 C.2.1 dL_law_340 (by decide) ?_
                    refine lv_iadd C.1 C.2.1 dL_law_341 ?_
                    obtain ⟨i65, h⟩ := h
                    refine va_sld C.1 C.2.1 hX hbl hbA g.2.2 i65 dL_law_342 ?_
                    refine gx_calli0 g (gx_runV (k := 11) (rest := [.int r63]) C g mb_X12_factors ml_L_45 rfl sh_11 (mX12_factors (xs (x3 + (1 : Int32)).toNatClampNeg) _ _ h) ⟨Nat.le_of_ble_eq_true rfl, Nat.le_of_ble_eq_true rfl⟩ ⟨by show cells + 0 ≤ 600000; omega, by show slots + 0 ≤ 7302249; omega⟩ rfl hl.1 rfl (Nat.le_of_ble_eq_true rfl) dL_law_343) rfl rfl (fun r66 σ67 H locs h g => ?_)
                    refine lv_icmp_eq (tgt := 1005) C.1 C.2.1 dL_law_346 (by decide) (fun c68 => ?_) (fun c68 => ?_)
                    · have h := h.1 c68
                      exact tL_law_1005 C hX hbl hbA hr n (K18 := (fun x3' σ' => wL_law_18 xs L n x3' σ')) ih x3 _ _ _ _ _ _ (by omega) (by omega) (lv_sub hl [0, 1, 2, 3] rfl) g h
                    · have h := h.2 c68
                      refine lv_iconst (v := 0) C.1 C.2.1 dL_law_349 (by decide) ?_
                      exact False.elim h
                  · have h := h.2 c61
                    by_cases c69 : ((xs x3.toNatClampNeg) &&& (31 : Int32)) = 7
                    · have h := h.1 c69
                      refine gx_tabI (tgt := 351) C.1 C.2.1 dL_law_33 (off := 318) (k := 7) c69 (by decide +kernel) (by decide) ?_
                      refine lv_aload_n C.1 C.2.1 dL_law_351 rfl (lv_at hl 1 rfl) ?_
                      refine lv_aload_n C.1 C.2.1 dL_law_352 rfl (lv_at hl 0 rfl) ?_
                      refine lv_iload_n C.1 C.2.1 dL_law_353 rfl (lv_at hl 3 rfl) ?_
                      refine lv_iconst (v := 1) C.1 C.2.1 dL_law_354 (by decide) ?_
                      refine lv_iadd C.1 C.2.1 dL_law_355 ?_
                      obtain ⟨i70, h⟩ := h
                      refine va_sld C.1 C.2.1 hX hbl hbA g.2.2 i70 dL_law_356 ?_
                      refine lv_aload_n C.1 C.2.1 dL_law_357 rfl (lv_at hl 0 rfl) ?_
                      refine lv_iload_n C.1 C.2.1 dL_law_358 rfl (lv_at hl 3 rfl) ?_
                      refine lv_iconst (v := 2) C.1 C.2.1 dL_law_359 (by decide) ?_
                      refine lv_iadd C.1 C.2.1 dL_law_360 ?_
                      obtain ⟨i71, h⟩ := h
                      refine va_sld C.1 C.2.1 hX hbl hbA g.2.2 i71 dL_law_361 ?_
                      refine gx_calli0 g (gx_runV (k := 0) (rest := []) C g mb_X11_factor ml_L_46 rfl sh_0 (mX11_factor (xs (x3 + (1 : Int32)).toNatClampNeg) (xs (x3 + (2 : Int32)).toNatClampNeg) _ _ h) ⟨Nat.le_of_ble_eq_true rfl, Nat.le_of_ble_eq_true rfl⟩ ⟨by show cells + 0 ≤ 600000; omega, by show slots + 0 ≤ 7302249; omega⟩ rfl hl.1 rfl (Nat.le_of_ble_eq_true rfl) dL_law_362) rfl rfl (fun r72 σ73 H locs h g => ?_)
                      refine lv_aload_n C.1 C.2.1 dL_law_365 rfl (lv_at hl 2 rfl) ?_
                      refine lv_aload_n C.1 C.2.1 dL_law_366 rfl (lv_at hl 0 rfl) ?_
                      refine lv_iload_n C.1 C.2.1 dL_law_367 rfl (lv_at hl 3 rfl) ?_
                      refine lv_iconst (v := 1) C.1 C.2.1 dL_law_368 (by decide) ?_
                      refine lv_iadd C.1 C.2.1 dL_law_369 ?_
                      obtain ⟨i74, h⟩ := h
                      refine va_sld C.1 C.2.1 hX hbl hbA g.2.2 i74 dL_law_370 ?_
                      refine lv_aload_n C.1 C.2.1 dL_law_371 rfl (lv_at hl 0 rfl) ?_
                      refine lv_iload_n C.1 C.2.1 dL_law_372 rfl (lv_at hl 3 rfl) ?_
                      refine lv_iconst (v := 2) C.1 C.2.1 dL_law_373 (by decide) ?_
                      refine lv_iadd C.1 C.2.1 dL_law_374 ?_
                      obtain ⟨i75, h⟩ := h
                      refine va_sld C.1 C.2.1 hX hbl hbA g.2.2 i75 dL_law_375 ?_
                      refine gx_calli0 g (gx_runV (k := 11) (rest := [.int r72]) C g mb_X12_factor ml_L_50 rfl sh_11 (mX12_factor (xs (x3 + (1 : Int32)).toNatClampNeg) (xs (x3 + (2 : Int32)).toNatClampNeg) _ _ h) ⟨Nat.le_of_ble_eq_true rfl, Nat.le_of_ble_eq_true rfl⟩ ⟨by show cells + 0 ≤ 600000; omega, by show slots + 0 ≤ 7302249; omega⟩ rfl hl.1 rfl (Nat.le_of_ble_eq_true rfl) dL_law_376) rfl rfl (fun r76 σ77 H locs h g => ?_)
                      refine lv_icmp_eq (tgt := 1005) C.1 C.2.1 dL_law_379 (by decide) (fun c78 => ?_) (fun c78 => ?_)
                      · have h := h.1 c78
                        exact tL_law_1005 C hX hbl hbA hr n (K18 := (fun x3' σ' => wL_law_18 xs L n x3' σ')) ih x3 _ _ _ _ _ _ (by omega) (by omega) (lv_sub hl [0, 1, 2, 3] rfl) g h
                      · have h := h.2 c78
                        refine lv_iconst (v := 0) C.1 C.2.1 dL_law_382 (by decide) ?_
                        exact False.elim h
                    · have h := h.2 c69
                      by_cases c79 : ((xs x3.toNatClampNeg) &&& (31 : Int32)) = 8
                      · have h := h.1 c79
                        refine gx_tabI (tgt := 384) C.1 C.2.1 dL_law_33 (off := 351) (k := 8) c79 (by decide +kernel) (by decide) ?_
                        refine lv_aload_n C.1 C.2.1 dL_law_384 rfl (lv_at hl 1 rfl) ?_
                        refine lv_aload_n C.1 C.2.1 dL_law_385 rfl (lv_at hl 0 rfl) ?_
                        refine lv_iload_n C.1 C.2.1 dL_law_386 rfl (lv_at hl 3 rfl) ?_
                        refine lv_iconst (v := 1) C.1 C.2.1 dL_law_387 (by decide) ?_
                        refine lv_iadd C.1 C.2.1 dL_law_388 ?_
                        obtain ⟨i80, h⟩ := h
                        refine va_sld C.1 C.2.1 hX hbl hbA g.2.2 i80 dL_law_389 ?_
                        refine gx_calli0 g (gx_runV (k := 0) (rest := []) C g mb_X11_clock ml_L_51 rfl sh_0 (mX11_clock (xs (x3 + (1 : Int32)).toNatClampNeg) _ _ h) ⟨Nat.le_of_ble_eq_true rfl, Nat.le_of_ble_eq_true rfl⟩ ⟨by show cells + 0 ≤ 600000; omega, by show slots + 0 ≤ 7302249; omega⟩ rfl hl.1 rfl (Nat.le_of_ble_eq_true rfl) dL_law_390) rfl rfl (fun r81 σ82 H locs h g => ?_)
                        refine lv_aload_n C.1 C.2.1 dL_law_393 rfl (lv_at hl 2 rfl) ?_
                        refine lv_aload_n C.1 C.2.1 dL_law_394 rfl (lv_at hl 0 rfl) ?_
                        refine lv_iload_n C.1 C.2.1 dL_law_395 rfl (lv_at hl 3 rfl) ?_
                        refine lv_iconst (v := 1) C.1 C.2.1 dL_law_396 (by decide) ?_
                        refine lv_iadd C.1 C.2.1 dL_law_397 ?_
                        obtain ⟨i83, h⟩ := h
                        refine va_sld C.1 C.2.1 hX hbl hbA g.2.2 i83 dL_law_398 ?_
                        refine gx_calli0 g (gx_runV (k := 11) (rest := [.int r81]) C g mb_X12_clock ml_L_54 rfl sh_11 (mX12_clock (xs (x3 + (1 : Int32)).toNatClampNeg) _ _ h) ⟨Nat.le_of_ble_eq_true rfl, Nat.le_of_ble_eq_true rfl⟩ ⟨by show cells + 0 ≤ 600000; omega, by show slots + 0 ≤ 7302249; omega⟩ rfl hl.1 rfl (Nat.le_of_ble_eq_true rfl) dL_law_399) rfl rfl (fun r84 σ85 H locs h g => ?_)
                        refine lv_icmp_eq (tgt := 1005) C.1 C.2.1 dL_law_402 (by decide) (fun c86 => ?_) (fun c86 => ?_)
                        · have h := h.1 c86
                          exact tL_law_1005 C hX hbl hbA hr n (K18 := (fun x3' σ' => wL_law_18 xs L n x3' σ')) ih x3 _ _ _ _ _ _ (by omega) (by omega) (lv_sub hl [0, 1, 2, 3] rfl) g h
                        · have h := h.2 c86
                          refine lv_iconst (v := 0) C.1 C.2.1 dL_law_405 (by decide) ?_
                          exact False.elim h
                      · have h := h.2 c79
                        by_cases c87 : ((xs x3.toNatClampNeg) &&& (31 : Int32)) = 9
                        · have h := h.1 c87
                          refine gx_tabI (tgt := 407) C.1 C.2.1 dL_law_33 (off := 374) (k := 9) c87 (by decide +kernel) (by decide) ?_
                          refine lv_aload_n C.1 C.2.1 dL_law_407 rfl (lv_at hl 1 rfl) ?_
                          refine lv_aload_n C.1 C.2.1 dL_law_408 rfl (lv_at hl 0 rfl) ?_
                          refine lv_iload_n C.1 C.2.1 dL_law_409 rfl (lv_at hl 3 rfl) ?_
                          refine lv_iconst (v := 1) C.1 C.2.1 dL_law_410 (by decide) ?_
                          refine lv_iadd C.1 C.2.1 dL_law_411 ?_
                          obtain ⟨i88, h⟩ := h
                          refine va_sld C.1 C.2.1 hX hbl hbA g.2.2 i88 dL_law_412 ?_
                          refine lv_aload_n C.1 C.2.1 dL_law_413 rfl (lv_at hl 0 rfl) ?_
                          refine lv_iload_n C.1 C.2.1 dL_law_414 rfl (lv_at hl 3 rfl) ?_
                          refine lv_iconst (v := 2) C.1 C.2.1 dL_law_415 (by decide) ?_
                          refine lv_iadd C.1 C.2.1 dL_law_416 ?_
                          obtain ⟨i89, h⟩ := h
                          refine va_sld C.1 C.2.1 hX hbl hbA g.2.2 i89 dL_law_417 ?_
                          refine lv_aload_n C.1 C.2.1 dL_law_418 rfl (lv_at hl 0 rfl) ?_
                          refine lv_iload_n C.1 C.2.1 dL_law_419 rfl (lv_at hl 3 rfl) ?_
                          refine lv_iconst (v := 3) C.1 C.2.1 dL_law_420 (by decide) ?_
                          refine lv_iadd C.1 C.2.1 dL_law_421 ?_
                          obtain ⟨i90, h⟩ := h
                          refine va_sld C.1 C.2.1 hX hbl hbA g.2.2 i90 dL_law_422 ?_
                          refine gx_calli0 g (gx_runV (k := 0) (rest := []) C g mb_X11_rain ml_L_55 rfl sh_0 (mX11_rain (xs (x3 + (1 : Int32)).toNatClampNeg) (xs (x3 + (2 : Int32)).toNatClampNeg) (xs (x3 + (3 : Int32)).toNatClampNeg) _ _ h) ⟨Nat.le_of_ble_eq_true rfl, Nat.le_of_ble_eq_true rfl⟩ ⟨by show cells + 0 ≤ 600000; omega, by show slots + 0 ≤ 7302249; omega⟩ rfl hl.1 rfl (Nat.le_of_ble_eq_true rfl) dL_law_423) rfl rfl (fun r91 σ92 H locs h g => ?_)
                          refine lv_aload_n C.1 C.2.1 dL_law_426 rfl (lv_at hl 2 rfl) ?_
                          refine lv_aload_n C.1 C.2.1 dL_law_427 rfl (lv_at hl 0 rfl) ?_
                          refine lv_iload_n C.1 C.2.1 dL_law_428 rfl (lv_at hl 3 rfl) ?_
                          refine lv_iconst (v := 1) C.1 C.2.1 dL_law_429 (by decide) ?_
                          refine lv_iadd C.1 C.2.1 dL_law_430 ?_
                          obtain ⟨i93, h⟩ := h
                          refine va_sld C.1 C.2.1 hX hbl hbA g.2.2 i93 dL_law_431 ?_
                          refine lv_aload_n C.1 C.2.1 dL_law_432 rfl (lv_at hl 0 rfl) ?_
                          refine lv_iload_n C.1 C.2.1 dL_law_433 rfl (lv_at hl 3 rfl) ?_
                          refine lv_iconst (v := 2) C.1 C.2.1 dL_law_434 (by decide) ?_
                          refine lv_iadd C.1 C.2.1 dL_law_435 ?_
                          obtain ⟨i94, h⟩ := h
                          refine va_sld C.1 C.2.1 hX hbl hbA g.2.2 i94 dL_law_436 ?_
                          refine lv_aload_n C.1 C.2.1 dL_law_437 rfl (lv_at hl 0 rfl) ?_
                          refine lv_iload_n C.1 C.2.1 dL_law_438 rfl (lv_at hl 3 rfl) ?_
                          refine lv_iconst (v := 3) C.1 C.2.1 dL_law_439 (by decide) ?_
                          refine lv_iadd C.1 C.2.1 dL_law_440 ?_
                          obtain ⟨i95, h⟩ := h
                          refine va_sld C.1 C.2.1 hX hbl hbA g.2.2 i95 dL_law_441 ?_
                          refine gx_calli0 g (gx_runV (k := 11) (rest := [.int r91]) C g mb_X12_rain ml_L_59 rfl sh_11 (mX12_rain (xs (x3 + (1 : Int32)).toNatClampNeg) (xs (x3 + (2 : Int32)).toNatClampNeg) (xs (x3 + (3 : Int32)).toNatClampNeg) _ _ h) ⟨Nat.le_of_ble_eq_true rfl, Nat.le_of_ble_eq_true rfl⟩ ⟨by show cells + 0 ≤ 600000; omega, by show slots + 0 ≤ 7302249; omega⟩ rfl hl.1 rfl (Nat.le_of_ble_eq_true rfl) dL_law_442) rfl rfl (fun r96 σ97 H locs h g => ?_)
                          refine lv_icmp_eq (tgt := 1005) C.1 C.2.1 dL_law_445 (by decide) (fun c98 => ?_) (fun c98 => ?_)
                          · have h := h.1 c98
                            exact tL_law_1005 C hX hbl hbA hr n (K18 := (fun x3' σ' => wL_law_18 xs L n x3' σ')) ih x3 _ _ _ _ _ _ (by omega) (by omega) (lv_sub hl [0, 1, 2, 3] rfl) g h
                          · have h := h.2 c98
                            refine lv_iconst (v := 0) C.1 C.2.1 dL_law_448 (by decide) ?_
                            exact False.elim h
                        · have h := h.2 c87
                          by_cases c99 : ((xs x3.toNatClampNeg) &&& (31 : Int32)) = 10
                          · have h := h.1 c99
                            refine gx_tabI (tgt := 450) C.1 C.2.1 dL_law_33 (off := 417) (k := 10) c99 (by decide +kernel) (by decide) ?_
                            refine lv_aload_n C.1 C.2.1 dL_law_450 rfl (lv_at hl 1 rfl) ?_
                            refine lv_aload_n C.1 C.2.1 dL_law_451 rfl (lv_at hl 0 rfl) ?_
                            refine lv_iload_n C.1 C.2.1 dL_law_452 rfl (lv_at hl 3 rfl) ?_
                            refine lv_iconst (v := 1) C.1 C.2.1 dL_law_453 (by decide) ?_
                            refine lv_iadd C.1 C.2.1 dL_law_454 ?_
                            obtain ⟨i100, h⟩ := h
                            refine va_sld C.1 C.2.1 hX hbl hbA g.2.2 i100 dL_law_455 ?_
                            refine lv_aload_n C.1 C.2.1 dL_law_456 rfl (lv_at hl 0 rfl) ?_
                            refine lv_iload_n C.1 C.2.1 dL_law_457 rfl (lv_at hl 3 rfl) ?_
                            refine lv_iconst (v := 2) C.1 C.2.1 dL_law_458 (by decide) ?_
                            refine lv_iadd C.1 C.2.1 dL_law_459 ?_
                            obtain ⟨i101, h⟩ := h
                            refine va_sld C.1 C.2.1 hX hbl hbA g.2.2 i101 dL_law_460 ?_
                            refine lv_if_eq (tgt := 468) C.1 C.2.1 dL_law_461 (by decide) (fun c102 => ?_) (fun c102 => ?_)
                            · have h := h.1 c102
                              refine lv_iconst (v := 0) C.1 C.2.1 dL_law_468 (by decide) ?_
                              exact tL_law_469 C hX hbl hbA hr n (K18 := (fun x3' σ' => wL_law_18 xs L n x3' σ')) ih x3 (xs (x3 + (1 : Int32)).toNatClampNeg) (0 : Int32) _ _ _ _ _ _ (by omega) (by omega) (lv_sub hl [0, 1, 2, 3] rfl) g h
                            · have h := h.2 c102
                              refine lv_iconst (v := 1) C.1 C.2.1 dL_law_464 (by decide) ?_
                              refine lv_goto (tgt := 469) C.1 C.2.1 dL_law_465 (by decide) ?_
                              exact tL_law_469 C hX hbl hbA hr n (K18 := (fun x3' σ' => wL_law_18 xs L n x3' σ')) ih x3 (xs (x3 + (1 : Int32)).toNatClampNeg) (1 : Int32) _ _ _ _ _ _ (by omega) (by omega) (lv_sub hl [0, 1, 2, 3] rfl) g h
                          · have h := h.2 c99
                            by_cases c103 : ((xs x3.toNatClampNeg) &&& (31 : Int32)) = 11
                            · have h := h.1 c103
                              refine gx_tabI (tgt := 509) C.1 C.2.1 dL_law_33 (off := 476) (k := 11) c103 (by decide +kernel) (by decide) ?_
                              refine lv_aload_n C.1 C.2.1 dL_law_509 rfl (lv_at hl 1 rfl) ?_
                              refine lv_aload_n C.1 C.2.1 dL_law_510 rfl (lv_at hl 0 rfl) ?_
                              refine lv_iload_n C.1 C.2.1 dL_law_511 rfl (lv_at hl 3 rfl) ?_
                              refine lv_iconst (v := 1) C.1 C.2.1 dL_law_512 (by decide) ?_
                              refine lv_iadd C.1 C.2.1 dL_law_513 ?_
                              obtain ⟨i104, h⟩ := h
                              refine va_sld C.1 C.2.1 hX hbl hbA g.2.2 i104 dL_law_514 ?_
                              refine lv_aload_n C.1 C.2.1 dL_law_515 rfl (lv_at hl 0 rfl) ?_
                              refine lv_iload_n C.1 C.2.1 dL_law_516 rfl (lv_at hl 3 rfl) ?_
                              refine lv_iconst (v := 2) C.1 C.2.1 dL_law_517 (by decide) ?_
                              refine lv_iadd C.1 C.2.1 dL_law_518 ?_
                              obtain ⟨i105, h⟩ := h
                              refine va_sld C.1 C.2.1 hX hbl hbA g.2.2 i105 dL_law_519 ?_
                              refine gx_calli0 g (gx_runV (k := 0) (rest := []) C g mb_X11_grist ml_L_65 rfl sh_0 (mX11_grist (xs (x3 + (1 : Int32)).toNatClampNeg) (xs (x3 + (2 : Int32)).toNatClampNeg) _ _ h) ⟨Nat.le_of_ble_eq_true rfl, Nat.le_of_ble_eq_true rfl⟩ ⟨by show cells + 0 ≤ 600000; omega, by show slots + 0 ≤ 7302249; omega⟩ rfl hl.1 rfl (Nat.le_of_ble_eq_true rfl) dL_law_520) rfl rfl (fun r106 σ107 H locs h g => ?_)
                              refine lv_aload_n C.1 C.2.1 dL_law_523 rfl (lv_at hl 2 rfl) ?_
                              refine lv_aload_n C.1 C.2.1 dL_law_524 rfl (lv_at hl 0 rfl) ?_
                              refine lv_iload_n C.1 C.2.1 dL_law_525 rfl (lv_at hl 3 rfl) ?_
                              refine lv_iconst (v := 1) C.1 C.2.1 dL_law_526 (by decide) ?_
                              refine lv_iadd C.1 C.2.1 dL_law_527 ?_
                              obtain ⟨i108, h⟩ := h
                              refine va_sld C.1 C.2.1 hX hbl hbA g.2.2 i108 dL_law_528 ?_
                              refine lv_aload_n C.1 C.2.1 dL_law_529 rfl (lv_at hl 0 rfl) ?_
                              refine lv_iload_n C.1 C.2.1 dL_law_530 rfl (lv_at hl 3 rfl) ?_
                              refine lv_iconst (v := 2) C.1 C.2.1 dL_law_531 (by decide) ?_
                              refine lv_iadd C.1 C.2.1 dL_law_532 ?_
                              obtain ⟨i109, h⟩ := h
                              refine va_sld C.1 C.2.1 hX hbl hbA g.2.2 i109 dL_law_533 ?_
                              refine gx_calli0 g (gx_runV (k := 11) (rest := [.int r106]) C g mb_X12_grist ml_L_69 rfl sh_11 (mX12_grist (xs (x3 + (1 : Int32)).toNatClampNeg) (xs (x3 + (2 : Int32)).toNatClampNeg) _ _ h) ⟨Nat.le_of_ble_eq_true rfl, Nat.le_of_ble_eq_true rfl⟩ ⟨by show cells + 0 ≤ 600000; omega, by show slots + 0 ≤ 7302249; omega⟩ rfl hl.1 rfl (Nat.le_of_ble_eq_true rfl) dL_law_534) rfl rfl (fun r110 σ111 H locs h g => ?_)
                              refine lv_icmp_eq (tgt := 1005) C.1 C.2.1 dL_law_537 (by decide) (fun c112 => ?_) (fun c112 => ?_)
                              · have h := h.1 c112
                                exact tL_law_1005 C hX hbl hbA hr n (K18 := (fun x3' σ' => wL_law_18 xs L n x3' σ')) ih x3 _ _ _ _ _ _ (by omega) (by omega) (lv_sub hl [0, 1, 2, 3] rfl) g h
                              · have h := h.2 c112
                                refine lv_iconst (v := 0) C.1 C.2.1 dL_law_540 (by decide) ?_
                                exact False.elim h
                            · have h := h.2 c103
                              by_cases c113 : ((xs x3.toNatClampNeg) &&& (31 : Int32)) = 12
                              · have h := h.1 c113
                                refine gx_tabI (tgt := 542) C.1 C.2.1 dL_law_33 (off := 509) (k := 12) c113 (by decide +kernel) (by decide) ?_
                                refine lv_aload_n C.1 C.2.1 dL_law_542 rfl (lv_at hl 1 rfl) ?_
                                refine lv_aload_n C.1 C.2.1 dL_law_543 rfl (lv_at hl 0 rfl) ?_
                                refine lv_iload_n C.1 C.2.1 dL_law_544 rfl (lv_at hl 3 rfl) ?_
                                refine lv_iconst (v := 1) C.1 C.2.1 dL_law_545 (by decide) ?_
                                refine lv_iadd C.1 C.2.1 dL_law_546 ?_
                                obtain ⟨i114, h⟩ := h
                                refine va_sld C.1 C.2.1 hX hbl hbA g.2.2 i114 dL_law_547 ?_
                                refine lv_aload_n C.1 C.2.1 dL_law_548 rfl (lv_at hl 0 rfl) ?_
                                refine lv_iload_n C.1 C.2.1 dL_law_549 rfl (lv_at hl 3 rfl) ?_
                                refine lv_iconst (v := 2) C.1 C.2.1 dL_law_550 (by decide) ?_
                                refine lv_iadd C.1 C.2.1 dL_law_551 ?_
                                obtain ⟨i115, h⟩ := h
                                refine va_sld C.1 C.2.1 hX hbl hbA g.2.2 i115 dL_law_552 ?_
                                refine lv_aload_n C.1 C.2.1 dL_law_553 rfl (lv_at hl 0 rfl) ?_
                                refine lv_iload_n C.1 C.2.1 dL_law_554 rfl (lv_at hl 3 rfl) ?_
                                refine lv_iconst (v := 3) C.1 C.2.1 dL_law_555 (by decide) ?_
                                refine lv_iadd C.1 C.2.1 dL_law_556 ?_
                                obtain ⟨i116, h⟩ := h
                                refine va_sld C.1 C.2.1 hX hbl hbA g.2.2 i116 dL_law_557 ?_
                                refine lv_aload_n C.1 C.2.1 dL_law_558 rfl (lv_at hl 0 rfl) ?_
                                refine lv_iload_n C.1 C.2.1 dL_law_559 rfl (lv_at hl 3 rfl) ?_
                                refine lv_iconst (v := 4) C.1 C.2.1 dL_law_560 (by decide) ?_
                                refine lv_iadd C.1 C.2.1 dL_law_561 ?_
                                obtain ⟨i117, h⟩ := h
                                refine va_sld C.1 C.2.1 hX hbl hbA g.2.2 i117 dL_law_562 ?_
                                refine gx_calli0 g (gx_runV (k := 0) (rest := []) C g mb_X11_at ml_L_70 rfl sh_0 (mX11_at (xs (x3 + (1 : Int32)).toNatClampNeg) (xs (x3 + (2 : Int32)).toNatClampNeg) (xs (x3 + (3 : Int32)).toNatClampNeg) (xs (x3 + (4 : Int32)).toNatClampNeg) _ _ h) ⟨Nat.le_of_ble_eq_true rfl, Nat.le_of_ble_eq_true rfl⟩ ⟨by show cells + 0 ≤ 600000; omega, by show slots + 0 ≤ 7302249; omega⟩ rfl hl.1 rfl (Nat.le_of_ble_eq_true rfl) dL_law_563) rfl rfl (fun r118 σ119 H locs h g => ?_)
                                refine lv_aload_n C.1 C.2.1 dL_law_566 rfl (lv_at hl 2 rfl) ?_
                                refine lv_aload_n C.1 C.2.1 dL_law_567 rfl (lv_at hl 0 rfl) ?_
                                refine lv_iload_n C.1 C.2.1 dL_law_568 rfl (lv_at hl 3 rfl) ?_
                                refine lv_iconst (v := 1) C.1 C.2.1 dL_law_569 (by decide) ?_
                                refine lv_iadd C.1 C.2.1 dL_law_570 ?_
                                obtain ⟨i120, h⟩ := h
                                refine va_sld C.1 C.2.1 hX hbl hbA g.2.2 i120 dL_law_571 ?_
                                refine lv_aload_n C.1 C.2.1 dL_law_572 rfl (lv_at hl 0 rfl) ?_
                                refine lv_iload_n C.1 C.2.1 dL_law_573 rfl (lv_at hl 3 rfl) ?_
                                refine lv_iconst (v := 2) C.1 C.2.1 dL_law_574 (by decide) ?_
                                refine lv_iadd C.1 C.2.1 dL_law_575 ?_
                                obtain ⟨i121, h⟩ := h
                                refine va_sld C.1 C.2.1 hX hbl hbA g.2.2 i121 dL_law_576 ?_
                                refine lv_aload_n C.1 C.2.1 dL_law_577 rfl (lv_at hl 0 rfl) ?_
                                refine lv_iload_n C.1 C.2.1 dL_law_578 rfl (lv_at hl 3 rfl) ?_
                                refine lv_iconst (v := 3) C.1 C.2.1 dL_law_579 (by decide) ?_
                                refine lv_iadd C.1 C.2.1 dL_law_580 ?_
                                obtain ⟨i122, h⟩ := h
                                refine va_sld C.1 C.2.1 hX hbl hbA g.2.2 i122 dL_law_581 ?_
                                refine lv_aload_n C.1 C.2.1 dL_law_582 rfl (lv_at hl 0 rfl) ?_
                                refine lv_iload_n C.1 C.2.1 dL_law_583 rfl (lv_at hl 3 rfl) ?_
                                refine lv_iconst (v := 4) C.1 C.2.1 dL_law_584 (by decide) ?_
                                refine lv_iadd C.1 C.2.1 dL_law_585 ?_
                                obtain ⟨i123, h⟩ := h
                                refine va_sld C.1 C.2.1 hX hbl hbA g.2.2 i123 dL_law_586 ?_
                                refine gx_calli0 g (gx_runV (k := 11) (rest := [.int r118]) C g mb_X12_at_ ml_L_73 rfl sh_11 (mX12_at_ (xs (x3 + (1 : Int32)).toNatClampNeg) (xs (x3 + (2 : Int32)).toNatClampNeg) (xs (x3 + (3 : Int32)).toNatClampNeg) (xs (x3 + (4 : Int32)).toNatClampNeg) _ _ h) ⟨Nat.le_of_ble_eq_true rfl, Nat.le_of_ble_eq_true rfl⟩ ⟨by show cells + 0 ≤ 600000; omega, by show slots + 0 ≤ 7302249; omega⟩ rfl hl.1 rfl (Nat.le_of_ble_eq_true rfl) dL_law_587) rfl rfl (fun r124 σ125 H locs h g => ?_)
                                refine lv_icmp_eq (tgt := 1005) C.1 C.2.1 dL_law_590 (by decide) (fun c126 => ?_) (fun c126 => ?_)
                                · have h := h.1 c126
                                  exact tL_law_1005 C hX hbl hbA hr n (K18 := (fun x3' σ' => wL_law_18 xs L n x3' σ')) ih x3 _ _ _ _ _ _ (by omega) (by omega) (lv_sub hl [0, 1, 2, 3] rfl) g h
                                · have h := h.2 c126
                                  refine lv_iconst (v := 0) C.1 C.2.1 dL_law_593 (by decide) ?_
                                  exact False.elim h
                              · have h := h.2 c113
                                by_cases c127 : ((xs x3.toNatClampNeg) &&& (31 : Int32)) = 13
                                · have h := h.1 c127
                                  refine gx_tabI (tgt := 595) C.1 C.2.1 dL_law_33 (off := 562) (k := 13) c127 (by decide +kernel) (by decide) ?_
                                  refine lv_aload_n C.1 C.2.1 dL_law_595 rfl (lv_at hl 1 rfl) ?_
                                  refine lv_aload_n C.1 C.2.1 dL_law_596 rfl (lv_at hl 0 rfl) ?_
                                  refine lv_iload_n C.1 C.2.1 dL_law_597 rfl (lv_at hl 3 rfl) ?_
                                  refine lv_iconst (v := 1) C.1 C.2.1 dL_law_598 (by decide) ?_
                                  refine lv_iadd C.1 C.2.1 dL_law_599 ?_
                                  obtain ⟨i128, h⟩ := h
                                  refine va_sld C.1 C.2.1 hX hbl hbA g.2.2 i128 dL_law_600 ?_
                                  refine lv_aload_n C.1 C.2.1 dL_law_601 rfl (lv_at hl 0 rfl) ?_
                                  refine lv_iload_n C.1 C.2.1 dL_law_602 rfl (lv_at hl 3 rfl) ?_
                                  refine lv_iconst (v := 2) C.1 C.2.1 dL_law_603 (by decide) ?_
                                  refine lv_iadd C.1 C.2.1 dL_law_604 ?_
                                  obtain ⟨i129, h⟩ := h
                                  refine va_sld C.1 C.2.1 hX hbl hbA g.2.2 i129 dL_law_605 ?_
                                  refine gx_calli0 g (gx_runV (k := 0) (rest := []) C g mb_X11_sea ml_L_74 rfl sh_0 (mX11_sea (xs (x3 + (1 : Int32)).toNatClampNeg) (xs (x3 + (2 : Int32)).toNatClampNeg) _ _ h) ⟨Nat.le_of_ble_eq_true rfl, Nat.le_of_ble_eq_true rfl⟩ ⟨by show cells + 0 ≤ 600000; omega, by show slots + 0 ≤ 7302249; omega⟩ rfl hl.1 rfl (Nat.le_of_ble_eq_true rfl) dL_law_606) rfl rfl (fun r130 σ131 H locs h g => ?_)
                                  refine lv_aload_n C.1 C.2.1 dL_law_609 rfl (lv_at hl 2 rfl) ?_
                                  refine lv_aload_n C.1 C.2.1 dL_law_610 rfl (lv_at hl 0 rfl) ?_
                                  refine lv_iload_n C.1 C.2.1 dL_law_611 rfl (lv_at hl 3 rfl) ?_
                                  refine lv_iconst (v := 1) C.1 C.2.1 dL_law_612 (by decide) ?_
                                  refine lv_iadd C.1 C.2.1 dL_law_613 ?_
                                  obtain ⟨i132, h⟩ := h
                                  refine va_sld C.1 C.2.1 hX hbl hbA g.2.2 i132 dL_law_614 ?_
                                  refine lv_aload_n C.1 C.2.1 dL_law_615 rfl (lv_at hl 0 rfl) ?_
                                  refine lv_iload_n C.1 C.2.1 dL_law_616 rfl (lv_at hl 3 rfl) ?_
                                  refine lv_iconst (v := 2) C.1 C.2.1 dL_law_617 (by decide) ?_
                                  refine lv_iadd C.1 C.2.1 dL_law_618 ?_
                                  obtain ⟨i133, h⟩ := h
                                  refine va_sld C.1 C.2.1 hX hbl hbA g.2.2 i133 dL_law_619 ?_
                                  refine gx_calli0 g (gx_runV (k := 11) (rest := [.int r130]) C g mb_X12_sea ml_L_77 rfl sh_11 (mX12_sea (xs (x3 + (1 : Int32)).toNatClampNeg) (xs (x3 + (2 : Int32)).toNatClampNeg) _ _ h) ⟨Nat.le_of_ble_eq_true rfl, Nat.le_of_ble_eq_true rfl⟩ ⟨by show cells + 0 ≤ 600000; omega, by show slots + 0 ≤ 7302249; omega⟩ rfl hl.1 rfl (Nat.le_of_ble_eq_true rfl) dL_law_620) rfl rfl (fun r134 σ135 H locs h g => ?_)
                                  refine lv_icmp_eq (tgt := 1005) C.1 C.2.1 dL_law_623 (by decide) (fun c136 => ?_) (fun c136 => ?_)
                                  · have h := h.1 c136
                                    exact tL_law_1005 C hX hbl hbA hr n (K18 := (fun x3' σ' => wL_law_18 xs L n x3' σ')) ih x3 _ _ _ _ _ _ (by omega) (by omega) (lv_sub hl [0, 1, 2, 3] rfl) g h
                                  · have h := h.2 c136
                                    refine lv_iconst (v := 0) C.1 C.2.1 dL_law_626 (by decide) ?_
                                    exact False.elim h
                                · have h := h.2 c127
                                  by_cases c137 : ((xs x3.toNatClampNeg) &&& (31 : Int32)) = 14
                                  · have h := h.1 c137
                                    refine gx_tabI (tgt := 628) C.1 C.2.1 dL_law_33 (off := 595) (k := 14) c137 (by decide +kernel) (by decide) ?_
                                    refine lv_aload_n C.1 C.2.1 dL_law_628 rfl (lv_at hl 1 rfl) ?_
                                    refine lv_aload_n C.1 C.2.1 dL_law_629 rfl (lv_at hl 0 rfl) ?_
                                    refine lv_iload_n C.1 C.2.1 dL_law_630 rfl (lv_at hl 3 rfl) ?_
                                    refine lv_iconst (v := 1) C.1 C.2.1 dL_law_631 (by decide) ?_
                                    refine lv_iadd C.1 C.2.1 dL_law_632 ?_
                                    obtain ⟨i138, h⟩ := h
                                    refine va_sld C.1 C.2.1 hX hbl hbA g.2.2 i138 dL_law_633 ?_
                                    refine lv_aload_n C.1 C.2.1 dL_law_634 rfl (lv_at hl 0 rfl) ?_
                                    refine lv_iload_n C.1 C.2.1 dL_law_635 rfl (lv_at hl 3 rfl) ?_
                                    refine lv_iconst (v := 2) C.1 C.2.1 dL_law_636 (by decide) ?_
                                    refine lv_iadd C.1 C.2.1 dL_law_637 ?_
                                    obtain ⟨i139, h⟩ := h
                                    refine va_sld C.1 C.2.1 hX hbl hbA g.2.2 i139 dL_law_638 ?_
                                    refine lv_aload_n C.1 C.2.1 dL_law_639 rfl (lv_at hl 0 rfl) ?_
                                    refine lv_iload_n C.1 C.2.1 dL_law_640 rfl (lv_at hl 3 rfl) ?_
                                    refine lv_iconst (v := 3) C.1 C.2.1 dL_law_641 (by decide) ?_
                                    refine lv_iadd C.1 C.2.1 dL_law_642 ?_
                                    obtain ⟨i140, h⟩ := h
                                    refine va_sld C.1 C.2.1 hX hbl hbA g.2.2 i140 dL_law_643 ?_
                                    refine gx_calli0 g (gx_runV (k := 0) (rest := []) C g mb_X11_broken ml_L_78 rfl sh_0 (mX11_broken (xs (x3 + (1 : Int32)).toNatClampNeg) (xs (x3 + (2 : Int32)).toNatClampNeg) (xs (x3 + (3 : Int32)).toNatClampNeg) _ _ h) ⟨Nat.le_of_ble_eq_true rfl, Nat.le_of_ble_eq_true rfl⟩ ⟨by show cells + 0 ≤ 600000; omega, by show slots + 0 ≤ 7302249; omega⟩ rfl hl.1 rfl (Nat.le_of_ble_eq_true rfl) dL_law_644) rfl rfl (fun r141 σ142 H locs h g => ?_)
                                    refine lv_aload_n C.1 C.2.1 dL_law_647 rfl (lv_at hl 2 rfl) ?_
                                    refine lv_aload_n C.1 C.2.1 dL_law_648 rfl (lv_at hl 0 rfl) ?_
                                    refine lv_iload_n C.1 C.2.1 dL_law_649 rfl (lv_at hl 3 rfl) ?_
                                    refine lv_iconst (v := 1) C.1 C.2.1 dL_law_650 (by decide) ?_
                                    refine lv_iadd C.1 C.2.1 dL_law_651 ?_
                                    obtain ⟨i143, h⟩ := h
                                    refine va_sld C.1 C.2.1 hX hbl hbA g.2.2 i143 dL_law_652 ?_
                                    refine lv_aload_n C.1 C.2.1 dL_law_653 rfl (lv_at hl 0 rfl) ?_
                                    refine lv_iload_n C.1 C.2.1 dL_law_654 rfl (lv_at hl 3 rfl) ?_
                                    refine lv_iconst (v := 2) C.1 C.2.1 dL_law_655 (by decide) ?_
                                    refine lv_iadd C.1 C.2.1 dL_law_656 ?_
                                    obtain ⟨i144, h⟩ := h
                                    refine va_sld C.1 C.2.1 hX hbl hbA g.2.2 i144 dL_law_657 ?_
                                    refine lv_aload_n C.1 C.2.1 dL_law_658 rfl (lv_at hl 0 rfl) ?_
                                    refine lv_iload_n C.1 C.2.1 dL_law_659 rfl (lv_at hl 3 rfl) ?_
                                    refine lv_iconst (v := 3) C.1 C.2.1 dL_law_660 (by decide) ?_
                                    refine lv_iadd C.1 C.2.1 dL_law_661 ?_
                                    obtain ⟨i145, h⟩ := h
                                    refine va_sld C.1 C.2.1 hX hbl hbA g.2.2 i145 dL_law_662 ?_
                                    refine gx_calli0 g (gx_runV (k := 11) (rest := [.int r141]) C g mb_X12_broken ml_L_81 rfl sh_11 (mX12_broken (xs (x3 + (1 : Int32)).toNatClampNeg) (xs (x3 + (2 : Int32)).toNatClampNeg) (xs (x3 + (3 : Int32)).toNatClampNeg) _ _ h) ⟨Nat.le_of_ble_eq_true rfl, Nat.le_of_ble_eq_true rfl⟩ ⟨by show cells + 0 ≤ 600000; omega, by show slots + 0 ≤ 7302249; omega⟩ rfl hl.1 rfl (Nat.le_of_ble_eq_true rfl) dL_law_663) rfl rfl (fun r146 σ147 H locs h g => ?_)
                                    refine lv_icmp_eq (tgt := 1005) C.1 C.2.1 dL_law_666 (by decide) (fun c148 => ?_) (fun c148 => ?_)
                                    · have h := h.1 c148
                                      exact tL_law_1005 C hX hbl hbA hr n (K18 := (fun x3' σ' => wL_law_18 xs L n x3' σ')) ih x3 _ _ _ _ _ _ (by omega) (by omega) (lv_sub hl [0, 1, 2, 3] rfl) g h
                                    · have h := h.2 c148
                                      refine lv_iconst (v := 0) C.1 C.2.1 dL_law_669 (by decide) ?_
                                      exact False.elim h
                                  · have h := h.2 c137
                                    by_cases c149 : ((xs x3.toNatClampNeg) &&& (31 : Int32)) = 15
                                    · have h := h.1 c149
                                      refine gx_tabI (tgt := 671) C.1 C.2.1 dL_law_33 (off := 638) (k := 15) c149 (by decide +kernel) (by decide) ?_
                                      refine lv_aload_n C.1 C.2.1 dL_law_671 rfl (lv_at hl 1 rfl) ?_
                                      refine lv_aload_n C.1 C.2.1 dL_law_672 rfl (lv_at hl 0 rfl) ?_
                                      refine lv_iload_n C.1 C.2.1 dL_law_673 rfl (lv_at hl 3 rfl) ?_
                                      refine lv_iconst (v := 1) C.1 C.2.1 dL_law_674 (by decide) ?_
                                      refine lv_iadd C.1 C.2.1 dL_law_675 ?_
                                      obtain ⟨i150, h⟩ := h
                                      refine va_sld C.1 C.2.1 hX hbl hbA g.2.2 i150 dL_law_676 ?_
                                      refine lv_aload_n C.1 C.2.1 dL_law_677 rfl (lv_at hl 0 rfl) ?_
                                      refine lv_iload_n C.1 C.2.1 dL_law_678 rfl (lv_at hl 3 rfl) ?_
                                      refine lv_iconst (v := 2) C.1 C.2.1 dL_law_679 (by decide) ?_
                                      refine lv_iadd C.1 C.2.1 dL_law_680 ?_
                                      obtain ⟨i151, h⟩ := h
                                      refine va_sld C.1 C.2.1 hX hbl hbA g.2.2 i151 dL_law_681 ?_
                                      refine lv_aload_n C.1 C.2.1 dL_law_682 rfl (lv_at hl 0 rfl) ?_
                                      refine lv_iload_n C.1 C.2.1 dL_law_683 rfl (lv_at hl 3 rfl) ?_
                                      refine lv_iconst (v := 3) C.1 C.2.1 dL_law_684 (by decide) ?_
                                      refine lv_iadd C.1 C.2.1 dL_law_685 ?_
                                      obtain ⟨i152, h⟩ := h
                                      refine va_sld C.1 C.2.1 hX hbl hbA g.2.2 i152 dL_law_686 ?_
                                      refine gx_calli0 g (gx_runV (k := 0) (rest := []) C g mb_X11_first ml_L_82 rfl sh_0 (mX11_first (xs (x3 + (1 : Int32)).toNatClampNeg) (xs (x3 + (2 : Int32)).toNatClampNeg) (xs (x3 + (3 : Int32)).toNatClampNeg) _ _ h) ⟨Nat.le_of_ble_eq_true rfl, Nat.le_of_ble_eq_true rfl⟩ ⟨by show cells + 0 ≤ 600000; omega, by show slots + 0 ≤ 7302249; omega⟩ rfl hl.1 rfl (Nat.le_of_ble_eq_true rfl) dL_law_687) rfl rfl (fun r153 σ154 H locs h g => ?_)
                                      refine lv_aload_n C.1 C.2.1 dL_law_690 rfl (lv_at hl 2 rfl) ?_
                                      refine lv_aload_n C.1 C.2.1 dL_law_691 rfl (lv_at hl 0 rfl) ?_
                                      refine lv_iload_n C.1 C.2.1 dL_law_692 rfl (lv_at hl 3 rfl) ?_
                                      refine lv_iconst (v := 1) C.1 C.2.1 dL_law_693 (by decide) ?_
                                      refine lv_iadd C.1 C.2.1 dL_law_694 ?_
                                      obtain ⟨i155, h⟩ := h
                                      refine va_sld C.1 C.2.1 hX hbl hbA g.2.2 i155 dL_law_695 ?_
                                      refine lv_aload_n C.1 C.2.1 dL_law_696 rfl (lv_at hl 0 rfl) ?_
                                      refine lv_iload_n C.1 C.2.1 dL_law_697 rfl (lv_at hl 3 rfl) ?_
                                      refine lv_iconst (v := 2) C.1 C.2.1 dL_law_698 (by decide) ?_
                                      refine lv_iadd C.1 C.2.1 dL_law_699 ?_
                                      obtain ⟨i156, h⟩ := h
                                      refine va_sld C.1 C.2.1 hX hbl hbA g.2.2 i156 dL_law_700 ?_
                                      refine lv_aload_n C.1 C.2.1 dL_law_701 rfl (lv_at hl 0 rfl) ?_
                                      refine lv_iload_n C.1 C.2.1 dL_law_702 rfl (lv_at hl 3 rfl) ?_
                                      refine lv_iconst (v := 3) C.1 C.2.1 dL_law_703 (by decide) ?_
                                      refine lv_iadd C.1 C.2.1 dL_law_704 ?_
                                      obtain ⟨i157, h⟩ := h
                                      refine va_sld C.1 C.2.1 hX hbl hbA g.2.2 i157 dL_law_705 ?_
                                      refine gx_calli0 g (gx_runV (k := 11) (rest := [.int r153]) C g mb_X12_first ml_L_85 rfl sh_11 (mX12_first (xs (x3 + (1 : Int32)).toNatClampNeg) (xs (x3 + (2 : Int32)).toNatClampNeg) (xs (x3 + (3 : Int32)).toNatClampNeg) _ _ h) ⟨Nat.le_of_ble_eq_true rfl, Nat.le_of_ble_eq_true rfl⟩ ⟨by show cells + 0 ≤ 600000; omega, by show slots + 0 ≤ 7302249; omega⟩ rfl hl.1 rfl (Nat.le_of_ble_eq_true rfl) dL_law_706) rfl rfl (fun r158 σ159 H locs h g => ?_)
                                      refine lv_icmp_eq (tgt := 1005) C.1 C.2.1 dL_law_709 (by decide) (fun c160 => ?_) (fun c160 => ?_)
                                      · have h := h.1 c160
                                        exact tL_law_1005 C hX hbl hbA hr n (K18 := (fun x3' σ' => wL_law_18 xs L n x3' σ')) ih x3 _ _ _ _ _ _ (by omega) (by omega) (lv_sub hl [0, 1, 2, 3] rfl) g h
                                      · have h := h.2 c160
                                        refine lv_iconst (v := 0) C.1 C.2.1 dL_law_712 (by decide) ?_
                                        exact False.elim h
                                    · have h := h.2 c149
                                      by_cases c161 : ((xs x3.toNatClampNeg) &&& (31 : Int32)) = 16
                                      · have h := h.1 c161
                                        refine gx_tabI (tgt := 714) C.1 C.2.1 dL_law_33 (off := 681) (k := 16) c161 (by decide +kernel) (by decide) ?_
                                        refine lv_aload_n C.1 C.2.1 dL_law_714 rfl (lv_at hl 1 rfl) ?_
                                        refine lv_aload_n C.1 C.2.1 dL_law_715 rfl (lv_at hl 0 rfl) ?_
                                        refine lv_iload_n C.1 C.2.1 dL_law_716 rfl (lv_at hl 3 rfl) ?_
                                        refine lv_iconst (v := 1) C.1 C.2.1 dL_law_717 (by decide) ?_
                                        refine lv_iadd C.1 C.2.1 dL_law_718 ?_
                                        obtain ⟨i162, h⟩ := h
                                        refine va_sld C.1 C.2.1 hX hbl hbA g.2.2 i162 dL_law_719 ?_
                                        refine lv_aload_n C.1 C.2.1 dL_law_720 rfl (lv_at hl 0 rfl) ?_
                                        refine lv_iload_n C.1 C.2.1 dL_law_721 rfl (lv_at hl 3 rfl) ?_
                                        refine lv_iconst (v := 2) C.1 C.2.1 dL_law_722 (by decide) ?_
                                        refine lv_iadd C.1 C.2.1 dL_law_723 ?_
                                        obtain ⟨i163, h⟩ := h
                                        refine va_sld C.1 C.2.1 hX hbl hbA g.2.2 i163 dL_law_724 ?_
                                        refine lv_aload_n C.1 C.2.1 dL_law_725 rfl (lv_at hl 0 rfl) ?_
                                        refine lv_iload_n C.1 C.2.1 dL_law_726 rfl (lv_at hl 3 rfl) ?_
                                        refine lv_iconst (v := 3) C.1 C.2.1 dL_law_727 (by decide) ?_
                                        refine lv_iadd C.1 C.2.1 dL_law_728 ?_
                                        obtain ⟨i164, h⟩ := h
                                        refine va_sld C.1 C.2.1 hX hbl hbA g.2.2 i164 dL_law_729 ?_
                                        refine lv_aload_n C.1 C.2.1 dL_law_730 rfl (lv_at hl 0 rfl) ?_
                                        refine lv_iload_n C.1 C.2.1 dL_law_731 rfl (lv_at hl 3 rfl) ?_
                                        refine lv_iconst (v := 4) C.1 C.2.1 dL_law_732 (by decide) ?_
                                        refine lv_iadd C.1 C.2.1 dL_law_733 ?_
                                        obtain ⟨i165, h⟩ := h
                                        refine va_sld C.1 C.2.1 hX hbl hbA g.2.2 i165 dL_law_734 ?_
                                        refine lv_aload_n C.1 C.2.1 dL_law_735 rfl (lv_at hl 0 rfl) ?_
                                        refine lv_iload_n C.1 C.2.1 dL_law_736 rfl (lv_at hl 3 rfl) ?_
                                        refine lv_iconst (v := 5) C.1 C.2.1 dL_law_737 (by decide) ?_
                                        refine lv_iadd C.1 C.2.1 dL_law_738 ?_
                                        obtain ⟨i166, h⟩ := h
                                        refine va_sld C.1 C.2.1 hX hbl hbA g.2.2 i166 dL_law_739 ?_
                                        refine gx_calli0 g (gx_runV (k := 0) (rest := []) C g mb_X11_loss ml_L_86 rfl sh_0 (mX11_loss (xs (x3 + (1 : Int32)).toNatClampNeg) (xs (x3 + (2 : Int32)).toNatClampNeg) (xs (x3 + (3 : Int32)).toNatClampNeg) (xs (x3 + (4 : Int32)).toNatClampNeg) (xs (x3 + (5 : Int32)).toNatClampNeg) _ _ h) ⟨Nat.le_of_ble_eq_true rfl, Nat.le_of_ble_eq_true rfl⟩ ⟨by show cells + 0 ≤ 600000; omega, by show slots + 0 ≤ 7302249; omega⟩ rfl hl.1 rfl (Nat.le_of_ble_eq_true rfl) dL_law_740) rfl rfl (fun r167 σ168 H locs h g => ?_)
                                        refine lv_aload_n C.1 C.2.1 dL_law_743 rfl (lv_at hl 2 rfl) ?_
                                        refine lv_aload_n C.1 C.2.1 dL_law_744 rfl (lv_at hl 0 rfl) ?_
                                        refine lv_iload_n C.1 C.2.1 dL_law_745 rfl (lv_at hl 3 rfl) ?_
                                        refine lv_iconst (v := 1) C.1 C.2.1 dL_law_746 (by decide) ?_
                                        refine lv_iadd C.1 C.2.1 dL_law_747 ?_
                                        obtain ⟨i169, h⟩ := h
                                        refine va_sld C.1 C.2.1 hX hbl hbA g.2.2 i169 dL_law_748 ?_
                                        refine lv_aload_n C.1 C.2.1 dL_law_749 rfl (lv_at hl 0 rfl) ?_
                                        refine lv_iload_n C.1 C.2.1 dL_law_750 rfl (lv_at hl 3 rfl) ?_
                                        refine lv_iconst (v := 2) C.1 C.2.1 dL_law_751 (by decide) ?_
                                        refine lv_iadd C.1 C.2.1 dL_law_752 ?_
                                        obtain ⟨i170, h⟩ := h
                                        refine va_sld C.1 C.2.1 hX hbl hbA g.2.2 i170 dL_law_753 ?_
                                        refine lv_aload_n C.1 C.2.1 dL_law_754 rfl (lv_at hl 0 rfl) ?_
                                        refine lv_iload_n C.1 C.2.1 dL_law_755 rfl (lv_at hl 3 rfl) ?_
                                        refine lv_iconst (v := 3) C.1 C.2.1 dL_law_756 (by decide) ?_
                                        refine lv_iadd C.1 C.2.1 dL_law_757 ?_
                                        obtain ⟨i171, h⟩ := h
                                        refine va_sld C.1 C.2.1 hX hbl hbA g.2.2 i171 dL_law_758 ?_
                                        refine lv_aload_n C.1 C.2.1 dL_law_759 rfl (lv_at hl 0 rfl) ?_
                                        refine lv_iload_n C.1 C.2.1 dL_law_760 rfl (lv_at hl 3 rfl) ?_
                                        refine lv_iconst (v := 4) C.1 C.2.1 dL_law_761 (by decide) ?_
                                        refine lv_iadd C.1 C.2.1 dL_law_762 ?_
                                        obtain ⟨i172, h⟩ := h
                                        refine va_sld C.1 C.2.1 hX hbl hbA g.2.2 i172 dL_law_763 ?_
                                        refine lv_aload_n C.1 C.2.1 dL_law_764 rfl (lv_at hl 0 rfl) ?_
                                        refine lv_iload_n C.1 C.2.1 dL_law_765 rfl (lv_at hl 3 rfl) ?_
                                        refine lv_iconst (v := 5) C.1 C.2.1 dL_law_766 (by decide) ?_
                                        refine lv_iadd C.1 C.2.1 dL_law_767 ?_
                                        obtain ⟨i173, h⟩ := h
                                        refine va_sld C.1 C.2.1 hX hbl hbA g.2.2 i173 dL_law_768 ?_
                                        refine gx_calli0 g (gx_runV (k := 11) (rest := [.int r167]) C g mb_X12_loss ml_L_89 rfl sh_11 (mX12_loss (xs (x3 + (1 : Int32)).toNatClampNeg) (xs (x3 + (2 : Int32)).toNatClampNeg) (xs (x3 + (3 : Int32)).toNatClampNeg) (xs (x3 + (4 : Int32)).toNatClampNeg) (xs (x3 + (5 : Int32)).toNatClampNeg) _ _ h) ⟨Nat.le_of_ble_eq_true rfl, Nat.le_of_ble_eq_true rfl⟩ ⟨by show cells + 0 ≤ 600000; omega, by show slots + 0 ≤ 7302249; omega⟩ rfl hl.1 rfl (Nat.le_of_ble_eq_true rfl) dL_law_769) rfl rfl (fun r174 σ175 H locs h g => ?_)
                                        refine lv_icmp_eq (tgt := 1005) C.1 C.2.1 dL_law_772 (by decide) (fun c176 => ?_) (fun c176 => ?_)
                                        · have h := h.1 c176
                                          exact tL_law_1005 C hX hbl hbA hr n (K18 := (fun x3' σ' => wL_law_18 xs L n x3' σ')) ih x3 _ _ _ _ _ _ (by omega) (by omega) (lv_sub hl [0, 1, 2, 3] rfl) g h
                                        · have h := h.2 c176
                                          refine lv_iconst (v := 0) C.1 C.2.1 dL_law_775 (by decide) ?_
                                          exact False.elim h
                                      · have h := h.2 c161
                                        by_cases c177 : ((xs x3.toNatClampNeg) &&& (31 : Int32)) = 17
                                        · have h := h.1 c177
                                          refine gx_tabI (tgt := 777) C.1 C.2.1 dL_law_33 (off := 744) (k := 17) c177 (by decide +kernel) (by decide) ?_
                                          refine lv_aload_n C.1 C.2.1 dL_law_777 rfl (lv_at hl 1 rfl) ?_
                                          refine lv_aload_n C.1 C.2.1 dL_law_778 rfl (lv_at hl 0 rfl) ?_
                                          refine lv_iload_n C.1 C.2.1 dL_law_779 rfl (lv_at hl 3 rfl) ?_
                                          refine lv_iconst (v := 1) C.1 C.2.1 dL_law_780 (by decide) ?_
                                          refine lv_iadd C.1 C.2.1 dL_law_781 ?_
                                          obtain ⟨i178, h⟩ := h
                                          refine va_sld C.1 C.2.1 hX hbl hbA g.2.2 i178 dL_law_782 ?_
                                          refine lv_aload_n C.1 C.2.1 dL_law_783 rfl (lv_at hl 0 rfl) ?_
                                          refine lv_iload_n C.1 C.2.1 dL_law_784 rfl (lv_at hl 3 rfl) ?_
                                          refine lv_iconst (v := 2) C.1 C.2.1 dL_law_785 (by decide) ?_
                                          refine lv_iadd C.1 C.2.1 dL_law_786 ?_
                                          obtain ⟨i179, h⟩ := h
                                          refine va_sld C.1 C.2.1 hX hbl hbA g.2.2 i179 dL_law_787 ?_
                                          refine lv_aload_n C.1 C.2.1 dL_law_788 rfl (lv_at hl 0 rfl) ?_
                                          refine lv_iload_n C.1 C.2.1 dL_law_789 rfl (lv_at hl 3 rfl) ?_
                                          refine lv_iconst (v := 3) C.1 C.2.1 dL_law_790 (by decide) ?_
                                          refine lv_iadd C.1 C.2.1 dL_law_791 ?_
                                          obtain ⟨i180, h⟩ := h
                                          refine va_sld C.1 C.2.1 hX hbl hbA g.2.2 i180 dL_law_792 ?_
                                          refine lv_aload_n C.1 C.2.1 dL_law_793 rfl (lv_at hl 0 rfl) ?_
                                          refine lv_iload_n C.1 C.2.1 dL_law_794 rfl (lv_at hl 3 rfl) ?_
                                          refine lv_iconst (v := 4) C.1 C.2.1 dL_law_795 (by decide) ?_
                                          refine lv_iadd C.1 C.2.1 dL_law_796 ?_
                                          obtain ⟨i181, h⟩ := h
                                          refine va_sld C.1 C.2.1 hX hbl hbA g.2.2 i181 dL_law_797 ?_
                                          refine gx_calli0 g (gx_runV (k := 0) (rest := []) C g mb_X11_culprit ml_L_90 rfl sh_0 (mX11_culprit (xs (x3 + (1 : Int32)).toNatClampNeg) (xs (x3 + (2 : Int32)).toNatClampNeg) (xs (x3 + (3 : Int32)).toNatClampNeg) (xs (x3 + (4 : Int32)).toNatClampNeg) _ _ h) ⟨Nat.le_of_ble_eq_true rfl, Nat.le_of_ble_eq_true rfl⟩ ⟨by show cells + 0 ≤ 600000; omega, by show slots + 0 ≤ 7302249; omega⟩ rfl hl.1 rfl (Nat.le_of_ble_eq_true rfl) dL_law_798) rfl rfl (fun r182 σ183 H locs h g => ?_)
                                          refine lv_aload_n C.1 C.2.1 dL_law_801 rfl (lv_at hl 2 rfl) ?_
                                          refine lv_aload_n C.1 C.2.1 dL_law_802 rfl (lv_at hl 0 rfl) ?_
                                          refine lv_iload_n C.1 C.2.1 dL_law_803 rfl (lv_at hl 3 rfl) ?_
                                          refine lv_iconst (v := 1) C.1 C.2.1 dL_law_804 (by decide) ?_
                                          refine lv_iadd C.1 C.2.1 dL_law_805 ?_
                                          obtain ⟨i184, h⟩ := h
                                          refine va_sld C.1 C.2.1 hX hbl hbA g.2.2 i184 dL_law_806 ?_
                                          refine lv_aload_n C.1 C.2.1 dL_law_807 rfl (lv_at hl 0 rfl) ?_
                                          refine lv_iload_n C.1 C.2.1 dL_law_808 rfl (lv_at hl 3 rfl) ?_
                                          refine lv_iconst (v := 2) C.1 C.2.1 dL_law_809 (by decide) ?_
                                          refine lv_iadd C.1 C.2.1 dL_law_810 ?_
                                          obtain ⟨i185, h⟩ := h
                                          refine va_sld C.1 C.2.1 hX hbl hbA g.2.2 i185 dL_law_811 ?_
                                          refine lv_aload_n C.1 C.2.1 dL_law_812 rfl (lv_at hl 0 rfl) ?_
                                          refine lv_iload_n C.1 C.2.1 dL_law_813 rfl (lv_at hl 3 rfl) ?_
                                          refine lv_iconst (v := 3) C.1 C.2.1 dL_law_814 (by decide) ?_
                                          refine lv_iadd C.1 C.2.1 dL_law_815 ?_
                                          obtain ⟨i186, h⟩ := h
                                          refine va_sld C.1 C.2.1 hX hbl hbA g.2.2 i186 dL_law_816 ?_
                                          refine lv_aload_n C.1 C.2.1 dL_law_817 rfl (lv_at hl 0 rfl) ?_
                                          refine lv_iload_n C.1 C.2.1 dL_law_818 rfl (lv_at hl 3 rfl) ?_
                                          refine lv_iconst (v := 4) C.1 C.2.1 dL_law_819 (by decide) ?_
                                          refine lv_iadd C.1 C.2.1 dL_law_820 ?_
                                          obtain ⟨i187, h⟩ := h
                                          refine va_sld C.1 C.2.1 hX hbl hbA g.2.2 i187 dL_law_821 ?_
                                          refine gx_calli0 g (gx_runV (k := 11) (rest := [.int r182]) C g mb_X12_culprit ml_L_93 rfl sh_11 (mX12_culprit (xs (x3 + (1 : Int32)).toNatClampNeg) (xs (x3 + (2 : Int32)).toNatClampNeg) (xs (x3 + (3 : Int32)).toNatClampNeg) (xs (x3 + (4 : Int32)).toNatClampNeg) _ _ h) ⟨Nat.le_of_ble_eq_true rfl, Nat.le_of_ble_eq_true rfl⟩ ⟨by show cells + 0 ≤ 600000; omega, by show slots + 0 ≤ 7302249; omega⟩ rfl hl.1 rfl (Nat.le_of_ble_eq_true rfl) dL_law_822) rfl rfl (fun r188 σ189 H locs h g => ?_)
                                          refine lv_icmp_eq (tgt := 1005) C.1 C.2.1 dL_law_825 (by decide) (fun c190 => ?_) (fun c190 => ?_)
                                          · have h := h.1 c190
                                            exact tL_law_1005 C hX hbl hbA hr n (K18 := (fun x3' σ' => wL_law_18 xs L n x3' σ')) ih x3 _ _ _ _ _ _ (by omega) (by omega) (lv_sub hl [0, 1, 2, 3] rfl) g h
                                          · have h := h.2 c190
                                            refine lv_iconst (v := 0) C.1 C.2.1 dL_law_828 (by decide) ?_
                                            exact False.elim h
                                        · have h := h.2 c177
                                          by_cases c191 : ((xs x3.toNatClampNeg) &&& (31 : Int32)) = 18
                                          · have h := h.1 c191
                                            refine gx_tabI (tgt := 830) C.1 C.2.1 dL_law_33 (off := 797) (k := 18) c191 (by decide +kernel) (by decide) ?_
                                            refine lv_aload_n C.1 C.2.1 dL_law_830 rfl (lv_at hl 1 rfl) ?_
                                            refine lv_aload_n C.1 C.2.1 dL_law_831 rfl (lv_at hl 0 rfl) ?_
                                            refine lv_iload_n C.1 C.2.1 dL_law_832 rfl (lv_at hl 3 rfl) ?_
                                            refine lv_iconst (v := 1) C.1 C.2.1 dL_law_833 (by decide) ?_
                                            refine lv_iadd C.1 C.2.1 dL_law_834 ?_
                                            obtain ⟨i192, h⟩ := h
                                            refine va_sld C.1 C.2.1 hX hbl hbA g.2.2 i192 dL_law_835 ?_
                                            refine lv_aload_n C.1 C.2.1 dL_law_836 rfl (lv_at hl 0 rfl) ?_
                                            refine lv_iload_n C.1 C.2.1 dL_law_837 rfl (lv_at hl 3 rfl) ?_
                                            refine lv_iconst (v := 2) C.1 C.2.1 dL_law_838 (by decide) ?_
                                            refine lv_iadd C.1 C.2.1 dL_law_839 ?_
                                            obtain ⟨i193, h⟩ := h
                                            refine va_sld C.1 C.2.1 hX hbl hbA g.2.2 i193 dL_law_840 ?_
                                            refine lv_aload_n C.1 C.2.1 dL_law_841 rfl (lv_at hl 0 rfl) ?_
                                            refine lv_iload_n C.1 C.2.1 dL_law_842 rfl (lv_at hl 3 rfl) ?_
                                            refine lv_iconst (v := 3) C.1 C.2.1 dL_law_843 (by decide) ?_
                                            refine lv_iadd C.1 C.2.1 dL_law_844 ?_
                                            obtain ⟨i194, h⟩ := h
                                            refine va_sld C.1 C.2.1 hX hbl hbA g.2.2 i194 dL_law_845 ?_
                                            refine gx_calli0 g (gx_runV (k := 0) (rest := []) C g mb_X11_plan ml_L_94 rfl sh_0 (mX11_plan (xs (x3 + (1 : Int32)).toNatClampNeg) (xs (x3 + (2 : Int32)).toNatClampNeg) (xs (x3 + (3 : Int32)).toNatClampNeg) _ _ h) ⟨Nat.le_of_ble_eq_true rfl, Nat.le_of_ble_eq_true rfl⟩ ⟨by show cells + 0 ≤ 600000; omega, by show slots + 0 ≤ 7302249; omega⟩ rfl hl.1 rfl (Nat.le_of_ble_eq_true rfl) dL_law_846) rfl rfl (fun r195 σ196 H locs h g => ?_)
                                            refine lv_aload_n C.1 C.2.1 dL_law_849 rfl (lv_at hl 2 rfl) ?_
                                            refine lv_aload_n C.1 C.2.1 dL_law_850 rfl (lv_at hl 0 rfl) ?_
                                            refine lv_iload_n C.1 C.2.1 dL_law_851 rfl (lv_at hl 3 rfl) ?_
                                            refine lv_iconst (v := 1) C.1 C.2.1 dL_law_852 (by decide) ?_
                                            refine lv_iadd C.1 C.2.1 dL_law_853 ?_
                                            obtain ⟨i197, h⟩ := h
                                            refine va_sld C.1 C.2.1 hX hbl hbA g.2.2 i197 dL_law_854 ?_
                                            refine lv_aload_n C.1 C.2.1 dL_law_855 rfl (lv_at hl 0 rfl) ?_
                                            refine lv_iload_n C.1 C.2.1 dL_law_856 rfl (lv_at hl 3 rfl) ?_
                                            refine lv_iconst (v := 2) C.1 C.2.1 dL_law_857 (by decide) ?_
                                            refine lv_iadd C.1 C.2.1 dL_law_858 ?_
                                            obtain ⟨i198, h⟩ := h
                                            refine va_sld C.1 C.2.1 hX hbl hbA g.2.2 i198 dL_law_859 ?_
                                            refine lv_aload_n C.1 C.2.1 dL_law_860 rfl (lv_at hl 0 rfl) ?_
                                            refine lv_iload_n C.1 C.2.1 dL_law_861 rfl (lv_at hl 3 rfl) ?_
                                            refine lv_iconst (v := 3) C.1 C.2.1 dL_law_862 (by decide) ?_
                                            refine lv_iadd C.1 C.2.1 dL_law_863 ?_
                                            obtain ⟨i199, h⟩ := h
                                            refine va_sld C.1 C.2.1 hX hbl hbA g.2.2 i199 dL_law_864 ?_
                                            refine gx_calli0 g (gx_runV (k := 11) (rest := [.int r195]) C g mb_X12_plan ml_L_97 rfl sh_11 (mX12_plan (xs (x3 + (1 : Int32)).toNatClampNeg) (xs (x3 + (2 : Int32)).toNatClampNeg) (xs (x3 + (3 : Int32)).toNatClampNeg) _ _ h) ⟨Nat.le_of_ble_eq_true rfl, Nat.le_of_ble_eq_true rfl⟩ ⟨by show cells + 0 ≤ 600000; omega, by show slots + 0 ≤ 7302249; omega⟩ rfl hl.1 rfl (Nat.le_of_ble_eq_true rfl) dL_law_865) rfl rfl (fun r200 σ201 H locs h g => ?_)
                                            refine lv_icmp_eq (tgt := 1005) C.1 C.2.1 dL_law_868 (by decide) (fun c202 => ?_) (fun c202 => ?_)
                                            · have h := h.1 c202
                                              exact tL_law_1005 C hX hbl hbA hr n (K18 := (fun x3' σ' => wL_law_18 xs L n x3' σ')) ih x3 _ _ _ _ _ _ (by omega) (by omega) (lv_sub hl [0, 1, 2, 3] rfl) g h
                                            · have h := h.2 c202
                                              refine lv_iconst (v := 0) C.1 C.2.1 dL_law_871 (by decide) ?_
                                              exact False.elim h
                                          · have h := h.2 c191
                                            by_cases c203 : ((xs x3.toNatClampNeg) &&& (31 : Int32)) = 19
                                            · have h := h.1 c203
                                              refine gx_tabI (tgt := 873) C.1 C.2.1 dL_law_33 (off := 840) (k := 19) c203 (by decide +kernel) (by decide) ?_
                                              refine lv_aload_n C.1 C.2.1 dL_law_873 rfl (lv_at hl 1 rfl) ?_
                                              refine lv_aload_n C.1 C.2.1 dL_law_874 rfl (lv_at hl 0 rfl) ?_
                                              refine lv_iload_n C.1 C.2.1 dL_law_875 rfl (lv_at hl 3 rfl) ?_
                                              refine lv_iconst (v := 1) C.1 C.2.1 dL_law_876 (by decide) ?_
                                              refine lv_iadd C.1 C.2.1 dL_law_877 ?_
                                              obtain ⟨i204, h⟩ := h
                                              refine va_sld C.1 C.2.1 hX hbl hbA g.2.2 i204 dL_law_878 ?_
                                              refine gx_calli0 g (gx_runV (k := 0) (rest := []) C g mb_X11_planned ml_L_98 rfl sh_0 (mX11_planned (xs (x3 + (1 : Int32)).toNatClampNeg) _ _ h) ⟨Nat.le_of_ble_eq_true rfl, Nat.le_of_ble_eq_true rfl⟩ ⟨by show cells + 0 ≤ 600000; omega, by show slots + 0 ≤ 7302249; omega⟩ rfl hl.1 rfl (Nat.le_of_ble_eq_true rfl) dL_law_879) rfl rfl (fun r205 σ206 H locs h g => ?_)
                                              refine lv_aload_n C.1 C.2.1 dL_law_882 rfl (lv_at hl 2 rfl) ?_
                                              refine lv_aload_n C.1 C.2.1 dL_law_883 rfl (lv_at hl 0 rfl) ?_
                                              refine lv_iload_n C.1 C.2.1 dL_law_884 rfl (lv_at hl 3 rfl) ?_
                                              refine lv_iconst (v := 1) C.1 C.2.1 dL_law_885 (by decide) ?_
                                              refine lv_iadd C.1 C.2.1 dL_law_886 ?_
                                              obtain ⟨i207, h⟩ := h
                                              refine va_sld C.1 C.2.1 hX hbl hbA g.2.2 i207 dL_law_887 ?_
                                              refine gx_calli0 g (gx_runV (k := 11) (rest := [.int r205]) C g mb_X12_planned ml_L_101 rfl sh_11 (mX12_planned (xs (x3 + (1 : Int32)).toNatClampNeg) _ _ h) ⟨Nat.le_of_ble_eq_true rfl, Nat.le_of_ble_eq_true rfl⟩ ⟨by show cells + 0 ≤ 600000; omega, by show slots + 0 ≤ 7302249; omega⟩ rfl hl.1 rfl (Nat.le_of_ble_eq_true rfl) dL_law_888) rfl rfl (fun r208 σ209 H locs h g => ?_)
                                              refine lv_icmp_eq (tgt := 1005) C.1 C.2.1 dL_law_891 (by decide) (fun c210 => ?_) (fun c210 => ?_)
                                              · have h := h.1 c210
                                                exact tL_law_1005 C hX hbl hbA hr n (K18 := (fun x3' σ' => wL_law_18 xs L n x3' σ')) ih x3 _ _ _ _ _ _ (by omega) (by omega) (lv_sub hl [0, 1, 2, 3] rfl) g h
                                              · have h := h.2 c210
                                                refine lv_iconst (v := 0) C.1 C.2.1 dL_law_894 (by decide) ?_
                                                exact False.elim h
                                            · have h := h.2 c203
                                              by_cases c211 : ((xs x3.toNatClampNeg) &&& (31 : Int32)) = 20
                                              · have h := h.1 c211
                                                refine gx_tabI (tgt := 896) C.1 C.2.1 dL_law_33 (off := 863) (k := 20) c211 (by decide +kernel) (by decide) ?_
                                                refine lv_aload_n C.1 C.2.1 dL_law_896 rfl (lv_at hl 1 rfl) ?_
                                                refine lv_aload_n C.1 C.2.1 dL_law_897 rfl (lv_at hl 0 rfl) ?_
                                                refine lv_iload_n C.1 C.2.1 dL_law_898 rfl (lv_at hl 3 rfl) ?_
                                                refine lv_iconst (v := 1) C.1 C.2.1 dL_law_899 (by decide) ?_
                                                refine lv_iadd C.1 C.2.1 dL_law_900 ?_
                                                obtain ⟨i212, h⟩ := h
                                                refine va_sld C.1 C.2.1 hX hbl hbA g.2.2 i212 dL_law_901 ?_
                                                refine lv_aload_n C.1 C.2.1 dL_law_902 rfl (lv_at hl 0 rfl) ?_
                                                refine lv_iload_n C.1 C.2.1 dL_law_903 rfl (lv_at hl 3 rfl) ?_
                                                refine lv_iconst (v := 2) C.1 C.2.1 dL_law_904 (by decide) ?_
                                                refine lv_iadd C.1 C.2.1 dL_law_905 ?_
                                                obtain ⟨i213, h⟩ := h
                                                refine va_sld C.1 C.2.1 hX hbl hbA g.2.2 i213 dL_law_906 ?_
                                                refine lv_aload_n C.1 C.2.1 dL_law_907 rfl (lv_at hl 0 rfl) ?_
                                                refine lv_iload_n C.1 C.2.1 dL_law_908 rfl (lv_at hl 3 rfl) ?_
                                                refine lv_iconst (v := 3) C.1 C.2.1 dL_law_909 (by decide) ?_
                                                refine lv_iadd C.1 C.2.1 dL_law_910 ?_
                                                obtain ⟨i214, h⟩ := h
                                                refine va_sld C.1 C.2.1 hX hbl hbA g.2.2 i214 dL_law_911 ?_
                                                refine gx_calli0 g (gx_runV (k := 0) (rest := []) C g mb_X11_told ml_L_102 rfl sh_0 (mX11_told (xs (x3 + (1 : Int32)).toNatClampNeg) (xs (x3 + (2 : Int32)).toNatClampNeg) (xs (x3 + (3 : Int32)).toNatClampNeg) _ _ h) ⟨Nat.le_of_ble_eq_true rfl, Nat.le_of_ble_eq_true rfl⟩ ⟨by show cells + 0 ≤ 600000; omega, by show slots + 0 ≤ 7302249; omega⟩ rfl hl.1 rfl (Nat.le_of_ble_eq_true rfl) dL_law_912) rfl rfl (fun r215 σ216 H locs h g => ?_)
                                                refine lv_aload_n C.1 C.2.1 dL_law_915 rfl (lv_at hl 2 rfl) ?_
                                                refine lv_aload_n C.1 C.2.1 dL_law_916 rfl (lv_at hl 0 rfl) ?_
                                                refine lv_iload_n C.1 C.2.1 dL_law_917 rfl (lv_at hl 3 rfl) ?_
                                                refine lv_iconst (v := 1) C.1 C.2.1 dL_law_918 (by decide) ?_
                                                refine lv_iadd C.1 C.2.1 dL_law_919 ?_
                                                obtain ⟨i217, h⟩ := h
                                                refine va_sld C.1 C.2.1 hX hbl hbA g.2.2 i217 dL_law_920 ?_
                                                refine lv_aload_n C.1 C.2.1 dL_law_921 rfl (lv_at hl 0 rfl) ?_
                                                refine lv_iload_n C.1 C.2.1 dL_law_922 rfl (lv_at hl 3 rfl) ?_
                                                refine lv_iconst (v := 2) C.1 C.2.1 dL_law_923 (by decide) ?_
                                                refine lv_iadd C.1 C.2.1 dL_law_924 ?_
                                                obtain ⟨i218, h⟩ := h
                                                refine va_sld C.1 C.2.1 hX hbl hbA g.2.2 i218 dL_law_925 ?_
                                                refine lv_aload_n C.1 C.2.1 dL_law_926 rfl (lv_at hl 0 rfl) ?_
                                                refine lv_iload_n C.1 C.2.1 dL_law_927 rfl (lv_at hl 3 rfl) ?_
                                                refine lv_iconst (v := 3) C.1 C.2.1 dL_law_928 (by decide) ?_
                                                refine lv_iadd C.1 C.2.1 dL_law_929 ?_
                                                obtain ⟨i219, h⟩ := h
                                                refine va_sld C.1 C.2.1 hX hbl hbA g.2.2 i219 dL_law_930 ?_
                                                refine gx_calli0 g (gx_runV (k := 11) (rest := [.int r215]) C g mb_X12_told ml_L_105 rfl sh_11 (mX12_told (xs (x3 + (1 : Int32)).toNatClampNeg) (xs (x3 + (2 : Int32)).toNatClampNeg) (xs (x3 + (3 : Int32)).toNatClampNeg) _ _ h) ⟨Nat.le_of_ble_eq_true rfl, Nat.le_of_ble_eq_true rfl⟩ ⟨by show cells + 0 ≤ 600000; omega, by show slots + 0 ≤ 7302249; omega⟩ rfl hl.1 rfl (Nat.le_of_ble_eq_true rfl) dL_law_931) rfl rfl (fun r220 σ221 H locs h g => ?_)
                                                refine lv_icmp_eq (tgt := 1005) C.1 C.2.1 dL_law_934 (by decide) (fun c222 => ?_) (fun c222 => ?_)
                                                · have h := h.1 c222
                                                  exact tL_law_1005 C hX hbl hbA hr n (K18 := (fun x3' σ' => wL_law_18 xs L n x3' σ')) ih x3 _ _ _ _ _ _ (by omega) (by omega) (lv_sub hl [0, 1, 2, 3] rfl) g h
                                                · have h := h.2 c222
                                                  refine lv_iconst (v := 0) C.1 C.2.1 dL_law_937 (by decide) ?_
                                                  exact False.elim h
                                              · have h := h.2 c211
                                                by_cases c223 : ((xs x3.toNatClampNeg) &&& (31 : Int32)) = 21
                                                · have h := h.1 c223
                                                  refine gx_tabI (tgt := 939) C.1 C.2.1 dL_law_33 (off := 906) (k := 21) c223 (by decide +kernel) (by decide) ?_
                                                  refine lv_aload_n C.1 C.2.1 dL_law_939 rfl (lv_at hl 1 rfl) ?_
                                                  refine lv_aload_n C.1 C.2.1 dL_law_940 rfl (lv_at hl 0 rfl) ?_
                                                  refine lv_iload_n C.1 C.2.1 dL_law_941 rfl (lv_at hl 3 rfl) ?_
                                                  refine lv_iconst (v := 1) C.1 C.2.1 dL_law_942 (by decide) ?_
                                                  refine lv_iadd C.1 C.2.1 dL_law_943 ?_
                                                  obtain ⟨i224, h⟩ := h
                                                  refine va_sld C.1 C.2.1 hX hbl hbA g.2.2 i224 dL_law_944 ?_
                                                  refine lv_aload_n C.1 C.2.1 dL_law_945 rfl (lv_at hl 0 rfl) ?_
                                                  refine lv_iload_n C.1 C.2.1 dL_law_946 rfl (lv_at hl 3 rfl) ?_
                                                  refine lv_iconst (v := 2) C.1 C.2.1 dL_law_947 (by decide) ?_
                                                  refine lv_iadd C.1 C.2.1 dL_law_948 ?_
                                                  obtain ⟨i225, h⟩ := h
                                                  refine va_sld C.1 C.2.1 hX hbl hbA g.2.2 i225 dL_law_949 ?_
                                                  refine lv_aload_n C.1 C.2.1 dL_law_950 rfl (lv_at hl 0 rfl) ?_
                                                  refine lv_iload_n C.1 C.2.1 dL_law_951 rfl (lv_at hl 3 rfl) ?_
                                                  refine lv_iconst (v := 3) C.1 C.2.1 dL_law_952 (by decide) ?_
                                                  refine lv_iadd C.1 C.2.1 dL_law_953 ?_
                                                  obtain ⟨i226, h⟩ := h
                                                  refine va_sld C.1 C.2.1 hX hbl hbA g.2.2 i226 dL_law_954 ?_
                                                  refine gx_calli0 g (gx_runV (k := 0) (rest := []) C g mb_X11_tolls ml_L_106 rfl sh_0 (mX11_tolls (xs (x3 + (1 : Int32)).toNatClampNeg) (xs (x3 + (2 : Int32)).toNatClampNeg) (xs (x3 + (3 : Int32)).toNatClampNeg) _ _ h) ⟨Nat.le_of_ble_eq_true rfl, Nat.le_of_ble_eq_true rfl⟩ ⟨by show cells + 0 ≤ 600000; omega, by show slots + 0 ≤ 7302249; omega⟩ rfl hl.1 rfl (Nat.le_of_ble_eq_true rfl) dL_law_955) rfl rfl (fun r227 σ228 H locs h g => ?_)
                                                  refine lv_aload_n C.1 C.2.1 dL_law_958 rfl (lv_at hl 2 rfl) ?_
                                                  refine lv_aload_n C.1 C.2.1 dL_law_959 rfl (lv_at hl 0 rfl) ?_
                                                  refine lv_iload_n C.1 C.2.1 dL_law_960 rfl (lv_at hl 3 rfl) ?_
                                                  refine lv_iconst (v := 1) C.1 C.2.1 dL_law_961 (by decide) ?_
                                                  refine lv_iadd C.1 C.2.1 dL_law_962 ?_
                                                  obtain ⟨i229, h⟩ := h
                                                  refine va_sld C.1 C.2.1 hX hbl hbA g.2.2 i229 dL_law_963 ?_
                                                  refine lv_aload_n C.1 C.2.1 dL_law_964 rfl (lv_at hl 0 rfl) ?_
                                                  refine lv_iload_n C.1 C.2.1 dL_law_965 rfl (lv_at hl 3 rfl) ?_
                                                  refine lv_iconst (v := 2) C.1 C.2.1 dL_law_966 (by decide) ?_
                                                  refine lv_iadd C.1 C.2.1 dL_law_967 ?_
                                                  obtain ⟨i230, h⟩ := h
                                                  refine va_sld C.1 C.2.1 hX hbl hbA g.2.2 i230 dL_law_968 ?_
                                                  refine lv_aload_n C.1 C.2.1 dL_law_969 rfl (lv_at hl 0 rfl) ?_
                                                  refine lv_iload_n C.1 C.2.1 dL_law_970 rfl (lv_at hl 3 rfl) ?_
                                                  refine lv_iconst (v := 3) C.1 C.2.1 dL_law_971 (by decide) ?_
                                                  refine lv_iadd C.1 C.2.1 dL_law_972 ?_
                                                  obtain ⟨i231, h⟩ := h
                                                  refine va_sld C.1 C.2.1 hX hbl hbA g.2.2 i231 dL_law_973 ?_
                                                  refine gx_calli0 g (gx_runV (k := 11) (rest := [.int r227]) C g mb_X12_tolls ml_L_109 rfl sh_11 (mX12_tolls (xs (x3 + (1 : Int32)).toNatClampNeg) (xs (x3 + (2 : Int32)).toNatClampNeg) (xs (x3 + (3 : Int32)).toNatClampNeg) _ _ h) ⟨Nat.le_of_ble_eq_true rfl, Nat.le_of_ble_eq_true rfl⟩ ⟨by show cells + 0 ≤ 600000; omega, by show slots + 0 ≤ 7302249; omega⟩ rfl hl.1 rfl (Nat.le_of_ble_eq_true rfl) dL_law_974) rfl rfl (fun r232 σ233 H locs h g => ?_)
                                                  refine lv_icmp_eq (tgt := 1005) C.1 C.2.1 dL_law_977 (by decide) (fun c234 => ?_) (fun c234 => ?_)
                                                  · have h := h.1 c234
                                                    exact tL_law_1005 C hX hbl hbA hr n (K18 := (fun x3' σ' => wL_law_18 xs L n x3' σ')) ih x3 _ _ _ _ _ _ (by omega) (by omega) (lv_sub hl [0, 1, 2, 3] rfl) g h
                                                  · have h := h.2 c234
                                                    refine lv_iconst (v := 0) C.1 C.2.1 dL_law_980 (by decide) ?_
                                                    exact False.elim h
                                                · have h := h.2 c223
                                                  by_cases c235 : ((xs x3.toNatClampNeg) &&& (31 : Int32)) = 22
                                                  · have h := h.1 c235
                                                    refine gx_tabI (tgt := 982) C.1 C.2.1 dL_law_33 (off := 949) (k := 22) c235 (by decide +kernel) (by decide) ?_
                                                    refine lv_aload_n C.1 C.2.1 dL_law_982 rfl (lv_at hl 1 rfl) ?_
                                                    refine lv_aload_n C.1 C.2.1 dL_law_983 rfl (lv_at hl 0 rfl) ?_
                                                    refine lv_iload_n C.1 C.2.1 dL_law_984 rfl (lv_at hl 3 rfl) ?_
                                                    refine lv_iconst (v := 1) C.1 C.2.1 dL_law_985 (by decide) ?_
                                                    refine lv_iadd C.1 C.2.1 dL_law_986 ?_
                                                    obtain ⟨i236, h⟩ := h
                                                    refine va_sld C.1 C.2.1 hX hbl hbA g.2.2 i236 dL_law_987 ?_
                                                    refine gx_calli0 g (gx_runV (k := 0) (rest := []) C g mb_X11_count ml_L_110 rfl sh_0 (mX11_count (xs (x3 + (1 : Int32)).toNatClampNeg) _ _ h) ⟨Nat.le_of_ble_eq_true rfl, Nat.le_of_ble_eq_true rfl⟩ ⟨by show cells + 0 ≤ 600000; omega, by show slots + 0 ≤ 7302249; omega⟩ rfl hl.1 rfl (Nat.le_of_ble_eq_true rfl) dL_law_988) rfl rfl (fun r237 σ238 H locs h g => ?_)
                                                    refine lv_aload_n C.1 C.2.1 dL_law_991 rfl (lv_at hl 2 rfl) ?_
                                                    refine lv_aload_n C.1 C.2.1 dL_law_992 rfl (lv_at hl 0 rfl) ?_
                                                    refine lv_iload_n C.1 C.2.1 dL_law_993 rfl (lv_at hl 3 rfl) ?_
                                                    refine lv_iconst (v := 1) C.1 C.2.1 dL_law_994 (by decide) ?_
                                                    refine lv_iadd C.1 C.2.1 dL_law_995 ?_
                                                    obtain ⟨i239, h⟩ := h
                                                    refine va_sld C.1 C.2.1 hX hbl hbA g.2.2 i239 dL_law_996 ?_
                                                    refine gx_calli0 g (gx_runV (k := 11) (rest := [.int r237]) C g mb_X12_count ml_L_113 rfl sh_11 (mX12_count (xs (x3 + (1 : Int32)).toNatClampNeg) _ _ h) ⟨Nat.le_of_ble_eq_true rfl, Nat.le_of_ble_eq_true rfl⟩ ⟨by show cells + 0 ≤ 600000; omega, by show slots + 0 ≤ 7302249; omega⟩ rfl hl.1 rfl (Nat.le_of_ble_eq_true rfl) dL_law_997) rfl rfl (fun r240 σ241 H locs h g => ?_)
                                                    refine lv_icmp_eq (tgt := 1005) C.1 C.2.1 dL_law_1000 (by decide) (fun c242 => ?_) (fun c242 => ?_)
                                                    · have h := h.1 c242
                                                      exact tL_law_1005 C hX hbl hbA hr n (K18 := (fun x3' σ' => wL_law_18 xs L n x3' σ')) ih x3 _ _ _ _ _ _ (by omega) (by omega) (lv_sub hl [0, 1, 2, 3] rfl) g h
                                                    · have h := h.2 c242
                                                      refine lv_iconst (v := 0) C.1 C.2.1 dL_law_1003 (by decide) ?_
                                                      exact False.elim h
                                                  · have h := h.2 c235
                                                    refine gx_tabD (tgt := 1005) C.1 C.2.1 dL_law_33 [0, 1, 2, 3, 4, 5, 6, 7, 8, 9, 10, 11, 12, 13, 14, 15, 16, 17, 18, 19, 20, 21, 22] (List.forall_mem_cons.mpr ⟨c3, List.forall_mem_cons.mpr ⟨c19, List.forall_mem_cons.mpr ⟨c27, List.forall_mem_cons.mpr ⟨c33, List.forall_mem_cons.mpr ⟨c39, List.forall_mem_cons.mpr ⟨c53, List.forall_mem_cons.mpr ⟨c61, List.forall_mem_cons.mpr ⟨c69, List.forall_mem_cons.mpr ⟨c79, List.forall_mem_cons.mpr ⟨c87, List.forall_mem_cons.mpr ⟨c99, List.forall_mem_cons.mpr ⟨c103, List.forall_mem_cons.mpr ⟨c113, List.forall_mem_cons.mpr ⟨c127, List.forall_mem_cons.mpr ⟨c137, List.forall_mem_cons.mpr ⟨c149, List.forall_mem_cons.mpr ⟨c161, List.forall_mem_cons.mpr ⟨c177, List.forall_mem_cons.mpr ⟨c191, List.forall_mem_cons.mpr ⟨c203, List.forall_mem_cons.mpr ⟨c211, List.forall_mem_cons.mpr ⟨c223, List.forall_mem_cons.mpr ⟨c235, fun _ z => by cases z⟩⟩⟩⟩⟩⟩⟩⟩⟩⟩⟩⟩⟩⟩⟩⟩⟩⟩⟩⟩⟩⟩⟩) (by decide +kernel) (by decide +kernel) (by decide) ?_
                                                    exact tL_law_1005 C hX hbl hbA hr n (K18 := (fun x3' σ' => wL_law_18 xs L n x3' σ')) ih x3 _ _ _ _ _ _ (by omega) (by omega) (lv_sub hl [0, 1, 2, 3] rfl) g h
