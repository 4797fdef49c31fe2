/-! Rows for constructors: a world that is a list, the object first. -/
def nests : List (String × Nat × MethodName) := [("MillStream", 9, yX10_init), ("MillStream$Valley", 20, yX6_init), ("MillStream$Valley", 27, yX4_init), ("MillStream$Valley", 34, yX0_init), ("MillStream$Book", 11, yX8_init), ("MillStream$Book", 20, yX2_init), ("MillStream$Book", 31, yX9_init), ("MillStream", 18, yX1_init), ("MillStream$Planner", 31, yX7_init), ("MillStream", 32, yX7_init)]
def NW (U : State) : Prop := (∀ q ∈ nests, va_Nw (.methodLinkNest q.1 q.2.1 q.2.2 "MillStream") U) ∧ va_AO "MillStream$Stage" U ∧ va_AOA .int U
theorem va_AOA.moved {ty : FieldType} {u U : State} (hvm : u.vm.Alike U.vm) (h : va_AOA ty u) : va_AOA ty U := by
  have h1 : (Cond.arrayOver (.array ty)).before #[] (u.setVm U.vm) = true := by rw [Cond.arrayOver_setVmC hvm]; exact h
  exact h1
theorem NW.warm {s U : State} (h : NW s) (hW : s.WarmedH U.vm) : NW U := ⟨fun q hq => va_Nw.warmM hW (h.1 q hq), h.2.1.moved hW.alike, h.2.2.moved hW.alike⟩
theorem NW.same {s U : State} (h : NW s) (e : s.vm = U.vm) : NW U := ⟨fun q hq => va_Nw.same rfl e (h.1 q hq), h.2.1.moved (by rw [e]; exact Vm.Alike.refl _), h.2.2.moved (by rw [e]; exact Vm.Alike.refl _)⟩
/-- what stays in a constructor's body -/
def CC (p : Program) (E : EE) (s : State) (m : MethodId) (args : Array Value) (meth : Method) (c : Code) (cc : ByteArray) (nL : Nat) (own : String) : Prop :=
  p.tables.exec = Jvm.exec ∧ c.code = cc ∧ c.maxLocals = nL ∧ s.vm.findClass own = some m.cls ∧ (∀ w ∈ tb, w.before args s = true) ∧ meth.locks = false ∧ KW E s ∧ NW s
def PC (E : EE) (sz h0 : Nat) (en : va_E) (U : State) : Prop := U.heap.size = sz ∧ va_P E.1 vwCl [(h0, en)] U.heap ∧ KW E U ∧ NW U
def QC {S : Type} (E : EE) (sz h0 : Nat) (en : va_E) (Lf : S → va_W) : Array Value → State → Outcome → State → Prop := va_Qv (fun _ : S => True) (fun u t => va_P E.1 vwCl (Lf u) t.heap ∧ va_D (va_A [(h0, en)] sz) (Lf u)) (va_A [(h0, en)] sz)
set_option maxRecDepth 100000 in
theorem oi_inst : Cond.instanceMethod Lib.objectInit ∈ tb := tb1 27 rfl rfl
set_option maxRecDepth 100000 in
theorem oi_code : Cond.code Lib.objectInit ⟨#[0xb1]⟩ 1 none ∈ tb := tb1 28 rfl rfl
set_option maxRecDepth 100000 in
theorem ac_bool : Cond.arrayClass .boolean ∈ tb := tb1 135 rfl rfl
set_option maxRecDepth 100000 in
theorem ac_byte : Cond.arrayClass .byte ∈ tb := tb1 158 rfl rfl
set_option maxRecDepth 100000 in
theorem ac_long : Cond.arrayClass .long ∈ tb := tb1 233 rfl rfl
section CT
variable {p : Program} {l : Launch} {e : Env} {R : Room} {s : State} {m : MethodId} {args : Array Value} {below : List Frame} {meth : Method} {c : Code} {H : Heap} {locs : List Loc} {cells slots : Nat} {Q : State → Prop}
variable {cc : ByteArray} {pc nL : Nat} {ls : Array Slot} {rest : List Value} {E : EE} {own : String} {ws : va_W} {A : Nat → Prop}
theorem ct_of {S : Type} {y : MethodName} {maxL : Nat} {rm : Room} {h0 sz : Nat} {en : va_E} {Lf : S → va_W} (hy : plainName y.cls = true) (hyn : y.name = "<init>") (hn : 1 ≤ maxL)
    (body : ∀ (p : Program) (e : Env) (s : State) (m : MethodId) (args : Array Value) (below : List Frame) (meth : Method) (c : Code) (A : Nat → Prop), A = va_A [(h0, en)] sz → CC p E s m args meth c cc maxL y.cls → meth.name = "<init>" → meth.sig.returnType = none → va_P E.1 vwCl [(h0, en)] s.heap → va_D A [(h0, en)] → va_S A s.heap s.heap [] → (∀ q, s.heap.size ≤ q → A q) → ∀ ls : Array Slot, lv_has ls maxL [(0, .ref h0)] →
      W p l e rm s m args below meth c s.heap [] 0 0 (MQ below (va_Qv (fun _ : S => True) (fun u t => va_P E.1 vwCl (Lf u) t.heap ∧ va_D A (Lf u)) A) args s rm.cells rm.slots A) (F0 m 0 ls [])) : Met l y (wy y cc maxL none) rm (va_Pc [.ref h0] (fun U => PC E sz h0 en U)) (QC E sz h0 en Lf) rm.cells rm.slots (va_A [(h0, en)] sz) := by
  refine Met.ofW (cc := cc) (maxL := maxL) (ret := none) hy rfl ?_
  intro p e s m args below meth c s₁ B hml hv
  obtain ⟨rfl, hsz, hP, hK, hN⟩ := hv
  have hts := atoms_spec (ws := wy y cc maxL none) B.pre
  have hl := lv_entry ([.ref h0]) (n := maxL) hn
  rw [lg_entry_eq]
  subst hsz
  have hD0 : va_D (fun _ => True) [(h0, en)] := ⟨fun i j x z hi hj _ => by
    have h1 : i < 1 := (List.getElem?_eq_some_iff.mp hi).1
    have h2 : j < 1 := (List.getElem?_eq_some_iff.mp hj).1
    omega, fun _ _ _ => trivial⟩
  exact body p e s m _ below meth c _ rfl ⟨B.exec, B.bytes, hml, findClass_of_methodNamed B.named, fun w hw => hts w (List.mem_cons_of_mem _ hw), B.notSynchronized, hK, hN⟩ ((name_of_methodNamed B.named B.method).1.trans hyn) B.returns hP (hD0.self (sz := s.heap.size)) va_S.rf (fun q h => Or.inr h) _ hl
theorem ct_obj (C : CC p E s m args meth c cc nL own) {index h0 : Nat} (hk : Cond.methodLink own index Lib.objectInit ∈ tb) (hls : ls.size = nL) (hd : decode cc pc = .ok (.invokespecial index, 3)) (hf : 1 ≤ R.frames) (hlo : (rest.map fun v => v.category).sum + 12 ≤ R.locals)
    (kk : W p l e R s m args below meth c H locs cells slots Q (F0 m (pc + 3) ls rest)) : W p l e R s m args below meth c H locs cells slots Q (F0 m pc ls (.ref h0 :: rest)) := by
  obtain ⟨hx, hb, hml, hown, hts, -⟩ := C
  exact W.objInit hx hb hown (hts _ hk) (hts _ oi_inst) (hts _ oi_code) rfl (hls.trans hml.symm) rfl hd hf (by show 2 * 0 + _ + 12 ≤ _; omega) kk
theorem ct_newI (C : CC p E s m args meth c cc nL own) (hP : va_P E.1 vwCl ws H) (hD : va_D A ws) (hS : va_S A s.heap H locs) (hA : ∀ q, s.heap.size ≤ q → A q) {n : Int32} (N : Nat) (h0 : ¬ n < 0) (hN : n.toNatClampNeg = N) (hby : N * 4 ≤ 536870912) (hcells : cells + 1 ≤ R.cells) (hslots : slots + N ≤ R.slots) (hdg : decode cc pc = .ok (.newarray .int, 2))
    (kk : ∀ (q : Nat) (H1 : Heap), va_P E.1 vwCl (ws ++ [(q, .inl (E.2.1 0, N, .inl (fun _ => 0)))]) H1 → va_D A (ws ++ [(q, .inl (E.2.1 0, N, .inl (fun _ => 0)))]) → va_S A s.heap H1 locs → W p l e R s m args below meth c H1 locs (cells + 1) (slots + N) Q (F0 m (pc + 2) ls (.ref q :: rest))) : W p l e R s m args below meth c H locs cells slots Q (F0 m pc ls (.int n :: rest)) := by
  obtain ⟨hx, hb, -, -, hts, -, hK, -⟩ := C
  refine va_newa (atype := .int) (a0 := (N, .inl (fun _ => 0))) (ty := .int) hx hb (hts _ ac_int) rfl hK hP hD hS hA (fun cA => rfl) h0 hN hby hcells hslots hdg (fun q cA H1 hK2 hP hD hS => ?_)
  have e1 : s.vm.findClass ("[" ++ FieldType.int.toString) = some cA := (hK2.2 6 (cA, .int) rfl).2
  have e2 : s.vm.findClass ("[" ++ FieldType.int.toString) = some (E.2.1 0) := (hK.2 0 (E.2.1 0, .int) rfl).2
  have e3 : cA = E.2.1 0 := Option.some.inj (e1.symm.trans e2)
  subst e3
  exact kk q H1 hP hD hS
theorem ct_newB (C : CC p E s m args meth c cc nL own) (hP : va_P E.1 vwCl ws H) (hD : va_D A ws) (hS : va_S A s.heap H locs) (hA : ∀ q, s.heap.size ≤ q → A q) {n : Int32} (N : Nat) (h0 : ¬ n < 0) (hN : n.toNatClampNeg = N) (hby : N * 1 ≤ 536870912) (hcells : cells + 1 ≤ R.cells) (hslots : slots + N ≤ R.slots) (hdg : decode cc pc = .ok (.newarray .byte, 2))
    (kk : ∀ (q : Nat) (H1 : Heap), va_P E.1 vwCl (ws ++ [(q, .inl (E.2.1 1, N, .inl (fun _ => 0)))]) H1 → va_D A (ws ++ [(q, .inl (E.2.1 1, N, .inl (fun _ => 0)))]) → va_S A s.heap H1 locs → W p l e R s m args below meth c H1 locs (cells + 1) (slots + N) Q (F0 m (pc + 2) ls (.ref q :: rest))) : W p l e R s m args below meth c H locs cells slots Q (F0 m pc ls (.int n :: rest)) := by
  obtain ⟨hx, hb, -, -, hts, -, hK, -⟩ := C
  refine va_newa (atype := .byte) (a0 := (N, .inl (fun _ => 0))) (ty := .byte) hx hb (hts _ ac_byte) rfl hK hP hD hS hA (fun cA => rfl) h0 hN hby hcells hslots hdg (fun q cA H1 hK2 hP hD hS => ?_)
  have e1 : s.vm.findClass ("[" ++ FieldType.byte.toString) = some cA := (hK2.2 6 (cA, .byte) rfl).2
  have e2 : s.vm.findClass ("[" ++ FieldType.byte.toString) = some (E.2.1 1) := (hK.2 1 (E.2.1 1, .byte) rfl).2
  have e3 : cA = E.2.1 1 := Option.some.inj (e1.symm.trans e2)
  subst e3
  exact kk q H1 hP hD hS
theorem ct_newZ (C : CC p E s m args meth c cc nL own) (hP : va_P E.1 vwCl ws H) (hD : va_D A ws) (hS : va_S A s.heap H locs) (hA : ∀ q, s.heap.size ≤ q → A q) {n : Int32} (N : Nat) (h0 : ¬ n < 0) (hN : n.toNatClampNeg = N) (hby : N * 1 ≤ 536870912) (hcells : cells + 1 ≤ R.cells) (hslots : slots + N ≤ R.slots) (hdg : decode cc pc = .ok (.newarray .boolean, 2))
    (kk : ∀ (q : Nat) (H1 : Heap), va_P E.1 vwCl (ws ++ [(q, .inl (E.2.1 2, N, .inl (fun _ => 0)))]) H1 → va_D A (ws ++ [(q, .inl (E.2.1 2, N, .inl (fun _ => 0)))]) → va_S A s.heap H1 locs → W p l e R s m args below meth c H1 locs (cells + 1) (slots + N) Q (F0 m (pc + 2) ls (.ref q :: rest))) : W p l e R s m args below meth c H locs cells slots Q (F0 m pc ls (.int n :: rest)) := by
  obtain ⟨hx, hb, -, -, hts, -, hK, -⟩ := C
  refine va_newa (atype := .boolean) (a0 := (N, .inl (fun _ => 0))) (ty := .boolean) hx hb (hts _ ac_bool) rfl hK hP hD hS hA (fun cA => rfl) h0 hN hby hcells hslots hdg (fun q cA H1 hK2 hP hD hS => ?_)
  have e1 : s.vm.findClass ("[" ++ FieldType.boolean.toString) = some cA := (hK2.2 6 (cA, .boolean) rfl).2
  have e2 : s.vm.findClass ("[" ++ FieldType.boolean.toString) = some (E.2.1 2) := (hK.2 2 (E.2.1 2, .boolean) rfl).2
  have e3 : cA = E.2.1 2 := Option.some.inj (e1.symm.trans e2)
  subst e3
  exact kk q H1 hP hD hS
theorem ct_newL (C : CC p E s m args meth c cc nL own) (hP : va_P E.1 vwCl ws H) (hD : va_D A ws) (hS : va_S A s.heap H locs) (hA : ∀ q, s.heap.size ≤ q → A q) {n : Int32} (N : Nat) (h0 : ¬ n < 0) (hN : n.toNatClampNeg = N) (hby : N * 8 ≤ 536870912) (hcells : cells + 1 ≤ R.cells) (hslots : slots + N ≤ R.slots) (hdg : decode cc pc = .ok (.newarray .long, 2))
    (kk : ∀ (q : Nat) (H1 : Heap), va_P E.1 vwCl (ws ++ [(q, .inl (E.2.1 3, N, .inr (.inl (fun _ => 0))))]) H1 → va_D A (ws ++ [(q, .inl (E.2.1 3, N, .inr (.inl (fun _ => 0))))]) → va_S A s.heap H1 locs → W p l e R s m args below meth c H1 locs (cells + 1) (slots + N) Q (F0 m (pc + 2) ls (.ref q :: rest))) : W p l e R s m args below meth c H locs cells slots Q (F0 m pc ls (.int n :: rest)) := by
  obtain ⟨hx, hb, -, -, hts, -, hK, -⟩ := C
  refine va_newa (atype := .long) (a0 := (N, .inr (.inl (fun _ => 0)))) (ty := .long) hx hb (hts _ ac_long) rfl hK hP hD hS hA (fun cA => rfl) h0 hN hby hcells hslots hdg (fun q cA H1 hK2 hP hD hS => ?_)
  have e1 : s.vm.findClass ("[" ++ FieldType.long.toString) = some cA := (hK2.2 6 (cA, .long) rfl).2
  have e2 : s.vm.findClass ("[" ++ FieldType.long.toString) = some (E.2.1 3) := (hK.2 3 (E.2.1 3, .long) rfl).2
  have e3 : cA = E.2.1 3 := Option.some.inj (e1.symm.trans e2)
  subst e3
  exact kk q H1 hP hD hS
/-- a reference into a final field of the object at the list's head -/
theorem ct_putF (C : CC p E s m args meth c cc nL own) (hin2 : meth.name = "<init>") {h0 ci j index : Nat} {fs : List Value} {tl : va_W} {T : u_T} {N : Nat} {ty : Nat → FieldType} {v : Value} (hP : va_P E.1 vwCl ((h0, .inr (ci, fs)) :: tl) H) (hD : va_D A ((h0, .inr (ci, fs)) :: tl)) (hS : va_S A s.heap H locs) (hco : CO own T N ci) (hty : ∀ k, k < N → parseFieldDescriptor (T k).2.2.1 = some (ty k)) (hj : j < N) (hw : Cond.fieldLink own index (T j).1 (T j).2.1 (T j).2.2.1 ∈ tb) (hfin : (T j).2.2.2 = true) (hdecl : (T j).1 = own) (hn : narrow (ty j) v = v) (hfit : fits (ty j) v = true) (hl : j < fs.length) (hdg : decode cc pc = .ok (.putfield index, 3))
    (kk : ∀ (H1 : Heap) (locs1 : List Loc), va_P E.1 vwCl ((h0, .inr (ci, fs.set j v)) :: tl) H1 → va_D A ((h0, .inr (ci, fs.set j v)) :: tl) → va_S A s.heap H1 locs1 → W p l e R s m args below meth c H1 locs1 cells slots Q (F0 m (pc + 3) ls rest)) : W p l e R s m args below meth c H locs cells slots Q (F0 m pc ls (v :: .ref h0 :: rest)) := by
  obtain ⟨hx, hb, -, hown, hts, -, hK, -⟩ := C
  exact va_putF hx hb hts hco.2.1 ty hty hco.2.2 hown hK hP hD hS 0 rfl hco.1 j hj (hts _ hw) (fun _ h => h) hfin hin2 hdecl (hty j hj) hn hfit hl hdg kk
/-- a field that isn't final -/
theorem ct_put (C : CC p E s m args meth c cc nL own) {h0 ci j index : Nat} {fs : List Value} {tl : va_W} {T : u_T} {N : Nat} {ty : Nat → FieldType} {v : Value} (hP : va_P E.1 vwCl ((h0, .inr (ci, fs)) :: tl) H) (hD : va_D A ((h0, .inr (ci, fs)) :: tl)) (hS : va_S A s.heap H locs) (hco : CO own T N ci) (hty : ∀ k, k < N → parseFieldDescriptor (T k).2.2.1 = some (ty k)) (hj : j < N) (hw : Cond.fieldLink own index (T j).1 (T j).2.1 (T j).2.2.1 ∈ tb) (hfin : (T j).2.2.2 = false) (hn : narrow (ty j) v = v) (hfit : fits (ty j) v = true) (hl : j < fs.length) (hdg : decode cc pc = .ok (.putfield index, 3))
    (kk : ∀ (H1 : Heap) (locs1 : List Loc), va_P E.1 vwCl ((h0, .inr (ci, fs.set j v)) :: tl) H1 → va_D A ((h0, .inr (ci, fs.set j v)) :: tl) → va_S A s.heap H1 locs1 → W p l e R s m args below meth c H1 locs1 cells slots Q (F0 m (pc + 3) ls rest)) : W p l e R s m args below meth c H locs cells slots Q (F0 m pc ls (v :: .ref h0 :: rest)) := by
  obtain ⟨hx, hb, -, hown, hts, -, hK, -⟩ := C
  exact va_put hx hb hts hco.2.1 ty hty hco.2.2 hown hK hP hD hS 0 rfl hco.1 j hj (hts _ hw) (fun _ h => h) hfin (hty j hj) hn hfit hl hdg kk
theorem ct_ret {S : Type} {Lf : S → va_W} (C : CC p E s m args meth c cc nL own) (hr : meth.sig.returnType = none) (u : S) (hP : va_P E.1 vwCl (Lf u) H) (hD : va_D A (Lf u)) (hS : va_S A s.heap H locs) (hdg : decode cc pc = .ok (.return_, 1)) : W p l e R s m args below meth c H locs cells slots (MQ below (va_Qv (fun _ : S => True) (fun u t => va_P E.1 vwCl (Lf u) t.heap ∧ va_D A (Lf u)) A) args s cells slots A) (F0 m pc ls []) :=
  W.vret C.1 C.2.1 hr (fun t ht hW => ⟨⟨u, rfl, trivial, by rw [ht]; exact hP, hD⟩, hS.F ht⟩) hS.2.2 hdg C.2.2.2.2.2.1
end CT
