/-! Rows for constructors, two: new, a call on the last cell, rows of rows, fill; pure methods. -/
theorem nd_of : ∀ {l : List Nat}, l.Nodup → va_nd l = true
  | [], _ => rfl
  | a :: l, h => by
    simp only [va_nd, Bool.and_eq_true, decide_eq_true_eq]
    exact ⟨(List.nodup_cons.mp h).1, nd_of (List.nodup_cons.mp h).2⟩
theorem rg_map (ws : va_W) (x : Nat × va_E) : (List.range ws.length).map (fun i => (ws ++ [x])[i]?) = ws.map some := by
  apply List.ext_getElem?
  intro i
  by_cases h : i < ws.length
  · rw [List.getElem?_map, List.getElem?_map, List.getElem?_range h, Option.map_some, List.getElem?_append_left h, List.getElem?_eq_getElem h]
    rfl
  · rw [List.getElem?_eq_none (by simp; omega), List.getElem?_eq_none (by simp; omega)]
theorem rg_last (ws : va_W) (x : Nat × va_E) : [ws.length].map (fun i => (ws ++ [x])[i]?) = [x].map some := by
  simp
def rw10 (r : Nat → Nat) : Nat → Option Nat := fun i => if i < 10 then some (r i) else none
def rws (E : EE) (r : Nat → Nat) : va_W := ((List.range 10).map r).map (fun a => (a, .inl (E.2.1 0, 7, .inl (fun _ => 0))))
theorem rws_of {E : EE} {r : Nat → Nat} {f : Nat → va_E} : va_pl ([] ++ (List.range 10).map r) (vr_up f ((List.range 10).map r) (.inl (E.2.1 0, 7, .inl (fun _ => 0)))) = rws E r := by
  unfold va_pl rws
  rw [List.nil_append]
  refine List.map_congr_left (fun a ha => ?_)
  rw [vr_up_in ha]
section CU
variable {p : Program} {l : Launch} {e : Env} {R : Room} {s : State} {m : MethodId} {args : Array Value} {below : List Frame} {meth : Method} {c : Code} {H : Heap} {locs : List Loc} {cells slots : Nat} {Q : State → Prop}
variable {cc : ByteArray} {pc nL : Nat} {ls : Array Slot} {rest : List Value} {E : EE} {own : String} {ws : va_W} {A : Nat → Prop}
theorem ct_new (C : CC p E s m args meth c cc nL own) (hP : va_P E.1 vwCl ws H) (hD : va_D A ws) (hS : va_S A s.heap H locs) (hA : ∀ q, s.heap.size ≤ q → A q) {ci index N : Nat} {Cn : String} {T : u_T} {ty : Nat → FieldType} (hco : CO Cn T N ci) (hty : ∀ k, k < N → parseFieldDescriptor (T k).2.2.1 = some (ty k)) (hcl : Cond.classLink own index Cn ∈ tb) (hinst : Cond.instantiable Cn N ∈ tb) (hini : Cond.initialized Cn ∈ tb) {fs : List Value} (hfs : ∀ j, j < N → defaultValue (ty j) = vp_V fs j) (hcells : cells + 1 ≤ R.cells) (hslots : slots + N ≤ R.slots) (hdg : decode cc pc = .ok (.new index, 3))
    (kk : ∀ (q : Nat) (H1 : Heap), va_P E.1 vwCl (ws ++ [(q, .inr (ci, fs))]) H1 → va_D A (ws ++ [(q, .inr (ci, fs))]) → va_S A s.heap H1 locs → W p l e R s m args below meth c H1 locs (cells + 1) (slots + N) Q (F0 m (pc + 3) ls (.ref q :: rest))) : W p l e R s m args below meth c H locs cells slots Q (F0 m pc ls rest) := by
  obtain ⟨hx, hb, -, hown, hts, -, hK, -⟩ := C
  exact va_new hx hb hts hco.2.1 ty hty hown (hts _ hcl) (hts _ hinst) (hts _ hini) hK hP hD hS hA hco.1 hfs hcells hslots hdg kk
theorem ct_join {S : Type} {Lf : S → va_W} {q : Nat} {en : va_E} (hP : va_P E.1 vwCl (ws ++ [(q, en)]) H) (hD : va_D A (ws ++ [(q, en)])) (hS : va_S A s.heap H locs) (hA : ∀ q, s.heap.size ≤ q → A q) {st0 : List Value} {mc ms : Nat} {a : Array Value}
    (hr : va_Run p l e R s m args below meth c H locs cells slots mc ms (F0 m pc ls st0) rest (QC E H.size q en Lf a) (va_A [(q, en)] H.size))
    (kk : ∀ (u : S) (H1 : Heap) (locs1 : List Loc), va_P E.1 vwCl (ws ++ Lf u) H1 → va_D A (ws ++ Lf u) → va_S A s.heap H1 locs1 → W p l e R s m args below meth c H1 locs1 (cells + mc) (slots + ms) Q (F0 m (pc + 3) ls rest)) : W p l e R s m args below meth c H locs cells slots Q (F0 m pc ls st0) := by
  have hFc := va_free (wc := [(q, en)]) hD hS hA [ws.length] (rg_last ws (q, en))
  refine va_callv hr hS (fun q _ h => hFc q h) hFc (fun u t H1 locs ht hvm h5 hB hz1 hk1 hS => ?_)
  obtain ⟨hP1, hD1⟩ := hB
  rw [ht] at hP1
  obtain ⟨hP, hD⟩ := va_join (wr := ws) (w1 := Lf u) hP hD [ws.length] (List.range ws.length) (rg_last ws (q, en)) (rg_map ws (q, en)) (nd_of List.nodup_range) (fun i hi hj => by
    have h1 : i < ws.length := List.mem_range.mp hi
    have h2 : i = ws.length := List.mem_singleton.mp hj
    omega) hk1 hFc hP1 hD1
  exact kk u H1 locs hP hD hS
theorem PC.blind {sz h0 : Nat} {en : va_E} {av : List Value} : FrameBlind (va_Pc av (fun U => PC E sz h0 en U)) := fun a U g mk q => ⟨q.1, q.2.1, q.2.2.1, va_K.moved (u := U) (U := U.calling g mk a) (Vm.Alike.refl U.vm) q.2.2.2.1, NW.same (s := U) (U := U.calling g mk a) q.2.2.2.2 rfl⟩
theorem ct_last {q : Nat} {en : va_E} (hP : va_P E.1 vwCl (ws ++ [(q, en)]) H) : va_P E.1 vwCl [(q, en)] H := hP.sub [ws.length] (by simp)
theorem ct_pre (C : CC p E s m args meth c cc nL own) {q : Nat} {en : va_E} {av : List Value} (hP : va_P E.1 vwCl (ws ++ [(q, en)]) H) : PreS s H (va_Pc av (fun U => PC E H.size q en U)) av := by
  obtain ⟨-, -, -, -, -, -, hK, hN⟩ := C
  exact ⟨PC.blind, fun U hU hW => ⟨rfl, by rw [hU], by rw [hU]; exact ct_last hP, va_K.moved hW.alike hK, hN.warm hW⟩⟩
/-- a constructor of a nest mate, on the last cell -/
theorem ct_callN {S : Type} {y : MethodName} {bytes : ByteArray} {maxL index : Nat} {rm : Room} {q : Nat} {en : va_E} {Lf : S → va_W} (C : CC p E s m args meth c cc nL own) (hP : va_P E.1 vwCl (ws ++ [(q, en)]) H) (hD : va_D A (ws ++ [(q, en)])) (hS : va_S A s.heap H locs) (hA : ∀ q, s.heap.size ≤ q → A q)
    (hn : (own, index, y) ∈ nests) (hcode : Cond.code y bytes maxL none ∈ tb) (hini : Cond.initialized y.cls ∈ tb) (hinst : Cond.instanceMethod y ∈ tb) (hd : y.cls ≠ "java/lang/invoke/MethodHandle" ∧ y.cls ≠ "java/lang/invoke/VarHandle" ∧ (parseMethodDescriptor y.desc).map (fun d => d.parameters.length) = some 0) (hyn : y.name = "<init>")
    (hM : Met l y (wy y bytes maxL none) rm (va_Pc [.ref q] (fun U => PC E H.size q en U)) (QC E H.size q en Lf) rm.cells rm.slots (va_A [(q, en)] H.size)) (hR : rm.frames + 1 ≤ R.frames ∧ 8 + (maxL + 11) + rm.locals ≤ R.locals) (hcs : cells + rm.cells ≤ R.cells ∧ slots + rm.slots ≤ R.slots) (hls : ls.size = nL) (hcat : (rest.map fun v => v.category).sum ≤ 8) (hdg : decode cc pc = .ok (.invokespecial index, 3))
    (kk : ∀ (u : S) (H1 : Heap) (locs1 : List Loc), va_P E.1 vwCl (ws ++ Lf u) H1 → va_D A (ws ++ Lf u) → va_S A s.heap H1 locs1 → W p l e R s m args below meth c H1 locs1 (cells + rm.cells) (slots + rm.slots) Q (F0 m (pc + 3) ls rest)) : W p l e R s m args below meth c H locs cells slots Q (F0 m pc ls (.ref q :: rest)) := by
  have hC := C
  obtain ⟨hx, hb, hml, hown, hts, -, hK, hN⟩ := C
  exact ct_join hP hD hS hA (va_runIN (As := []) (Ts := tb) (rest := rest) ⟨hx, hb, hml, hown, hts⟩ hM ⟨va_cnB 0 hts (tb_gi (wy_in hcode)) rfl rfl rfl (hN.1 _ hn) (hts _ hini) hd hR, hyn, hts _ hinst⟩ (ct_pre hC hP) rfl rfl hls rfl (lv_room hcat) hdg hcs) kk
theorem ct_callI {S : Type} {y : MethodName} {bytes : ByteArray} {maxL index : Nat} {rm : Room} {q : Nat} {en : va_E} {Lf : S → va_W} (C : CC p E s m args meth c cc nL own) (hP : va_P E.1 vwCl (ws ++ [(q, en)]) H) (hD : va_D A (ws ++ [(q, en)])) (hS : va_S A s.heap H locs) (hA : ∀ q, s.heap.size ≤ q → A q)
    (hn : Cond.methodLink own index y ∈ tb) (hcode : Cond.code y bytes maxL none ∈ tb) (hini : Cond.initialized y.cls ∈ tb) (hinst : Cond.instanceMethod y ∈ tb) (hd : y.cls ≠ "java/lang/invoke/MethodHandle" ∧ y.cls ≠ "java/lang/invoke/VarHandle" ∧ (parseMethodDescriptor y.desc).map (fun d => d.parameters.length) = some 0) (hyn : y.name = "<init>")
    (hM : Met l y (wy y bytes maxL none) rm (va_Pc [.ref q] (fun U => PC E H.size q en U)) (QC E H.size q en Lf) rm.cells rm.slots (va_A [(q, en)] H.size)) (hR : rm.frames + 1 ≤ R.frames ∧ 8 + (maxL + 11) + rm.locals ≤ R.locals) (hcs : cells + rm.cells ≤ R.cells ∧ slots + rm.slots ≤ R.slots) (hls : ls.size = nL) (hcat : (rest.map fun v => v.category).sum ≤ 8) (hdg : decode cc pc = .ok (.invokespecial index, 3))
    (kk : ∀ (u : S) (H1 : Heap) (locs1 : List Loc), va_P E.1 vwCl (ws ++ Lf u) H1 → va_D A (ws ++ Lf u) → va_S A s.heap H1 locs1 → W p l e R s m args below meth c H1 locs1 (cells + rm.cells) (slots + rm.slots) Q (F0 m (pc + 3) ls rest)) : W p l e R s m args below meth c H locs cells slots Q (F0 m pc ls (.ref q :: rest)) := by
  have hC := C
  obtain ⟨hx, hb, hml, hown, hts, -, hK, hN⟩ := C
  exact ct_join hP hD hS hA (va_runI (As := []) (Ts := tb) (rest := rest) ⟨hx, hb, hml, hown, hts⟩ hM (cwI 0 hts (tb_gi (wy_in hcode)) rfl rfl rfl (hts _ hini) (hts _ hn) (hts _ hinst) hyn hd hR) (ct_pre hC hP) rfl rfl hls rfl (lv_room hcat) hdg hcs) kk
/-- Arrays.fill, on the last cell -/
theorem ct_callS {S : Type} {y : MethodName} {bytes : ByteArray} {maxL index np : Nat} {rm : Room} {q : Nat} {en : va_E} {Lf : S → va_W} {As : List Value} (C : CC p E s m args meth c cc nL own) (hP : va_P E.1 vwCl (ws ++ [(q, en)]) H) (hD : va_D A (ws ++ [(q, en)])) (hS : va_S A s.heap H locs) (hA : ∀ q, s.heap.size ≤ q → A q)
    (hb0 : MS y bytes maxL none np) (hn : Cond.methodLink own index y ∈ tb)
    (hM : Met l y (wy y bytes maxL none) rm (va_Pc As (fun U => PC E H.size q en U)) (QC E H.size q en Lf) rm.cells rm.slots (va_A [(q, en)] H.size)) (hR : rm.frames + 1 ≤ R.frames ∧ 8 + (maxL + 11) + rm.locals ≤ R.locals) (hcs : cells + rm.cells ≤ R.cells ∧ slots + rm.slots ≤ R.slots) (hnp : As.length = np) (hls : ls.size = nL) (hcat : (rest.map fun v => v.category).sum ≤ 8) {st0 : List Value} (hst : st0 = As.reverse ++ rest) (hdg : decode cc pc = .ok (.invokestatic index, 3))
    (kk : ∀ (u : S) (H1 : Heap) (locs1 : List Loc), va_P E.1 vwCl (ws ++ Lf u) H1 → va_D A (ws ++ Lf u) → va_S A s.heap H1 locs1 → W p l e R s m args below meth c H1 locs1 (cells + rm.cells) (slots + rm.slots) Q (F0 m (pc + 3) ls rest)) : W p l e R s m args below meth c H locs cells slots Q (F0 m pc ls st0) := by
  have hC := C
  obtain ⟨hx, hb, hml, hown, hts, -, hK, hN⟩ := C
  obtain ⟨h1, h2, h3, h4⟩ := hb0
  refine ct_join hP hD hS hA (va_runS (As := As) (Ts := tb) (rest := rest) ⟨hx, hb, hml, hown, hts⟩ hM (va_cwS np hts (tb_gi (fun w hw => ?_)) rfl rfl rfl h4 hR) (ct_pre hC hP) rfl hnp hls hst (lv_room hcat) hdg hcs) kk
  rcases List.mem_append.mp hw with q | q
  · simp only [List.mem_cons, List.not_mem_nil, or_false] at q
    rcases q with rfl | rfl | rfl
    · exact hn
    · exact h2
    · exact h3
  · exact wy_in h1 w q
theorem ct_mna (C : CC p E s m args meth c cc nL own) (hP : va_P E.1 vwCl ws H) (hD : va_D A ws) (hS : va_S A s.heap H locs) (hA : ∀ q, s.heap.size ≤ q → A q) {index : Nat} (hcl : Cond.classLink own index "[[I" ∈ tb) (hcells : cells + 11 ≤ R.cells) (hslots : slots + 80 ≤ R.slots) (hdg : decode cc pc = .ok (.multianewarray index 2, 4))
    (kk : ∀ (q : Nat) (r : Nat → Nat) (H1 : Heap), va_P E.1 vwCl ((ws ++ [(q, .inl (E.2.1 5, 10, .inr (.inr (.inr (.inr (rw10 r))))))]) ++ rws E r) H1 → va_D A ((ws ++ [(q, .inl (E.2.1 5, 10, .inr (.inr (.inr (.inr (rw10 r))))))]) ++ rws E r) → va_S A s.heap H1 locs → W p l e R s m args below meth c H1 locs (cells + 1 + 10) (slots + 10 + 10 * 7) Q (F0 m (pc + 4) ls (.ref q :: rest))) : W p l e R s m args below meth c H locs cells slots Q (F0 m pc ls (.int 7 :: .int 10 :: rest)) := by
  obtain ⟨hx, hb, -, hown, hts, -, hK, hN⟩ := C
  have e0 : ws ++ va_pl [] (fun _ => (.inr (0, []) : va_E)) = ws := List.append_nil ws
  refine va_mna (X := ws) (L := []) (f := fun _ => .inr (0, [])) (z := (7, .inl (fun _ => 0))) (ty := .int) (cy := E.2.1 0) (N' := 10) (K' := 7) hx hb hown (hts _ hcl) hN.2.2 (hts _ ac_int) (hK.2 0 (E.2.1 0, .int) rfl).2 hK (by rw [e0]; exact hP) (by rw [e0]; exact hD) hS hA (by decide) (by decide) rfl rfl (by decide) (by decide) (by decide) rfl rfl hcells hslots (fun c => rfl) hdg (fun q r cA H1 h1 h2 hK2 hP hD hS => ?_)
  have e1 : s.vm.findClass ("[" ++ (FieldType.array .int).toString) = some cA := (hK2.2 6 (cA, .array .int) rfl).2
  have e2 : s.vm.findClass ("[" ++ (FieldType.array .int).toString) = some (E.2.1 5) := (hK.2 5 (E.2.1 5, .array .int) rfl).2
  have e3 : cA = E.2.1 5 := Option.some.inj (e1.symm.trans e2)
  subst e3
  rw [rws_of] at hP hD
  exact kk q r H1 hP hD hS
theorem ct_newS (C : CC p E s m args meth c cc nL own) (hP : va_P E.1 vwCl ws H) (hD : va_D A ws) (hS : va_S A s.heap H locs) (hA : ∀ q, s.heap.size ≤ q → A q) {index : Nat} (hcl : Cond.classLink own index "MillStream$Stage" ∈ tb) {n : Int32} (N : Nat) (h0 : ¬ n < 0) (hN : n.toNatClampNeg = N) (hby : N * 4 ≤ 536870912) (hcells : cells + 1 ≤ R.cells) (hslots : slots + N ≤ R.slots) (hdg : decode cc pc = .ok (.anewarray index, 3))
    (kk : ∀ (q : Nat) (H1 : Heap), va_P E.1 vwCl (ws ++ [(q, .inl (E.2.1 4, N, .inr (.inr (.inr (.inr (fun _ => none))))))]) H1 → va_D A (ws ++ [(q, .inl (E.2.1 4, N, .inr (.inr (.inr (.inr (fun _ => none))))))]) → va_S A s.heap H1 locs → W p l e R s m args below meth c H1 locs (cells + 1) (slots + N) Q (F0 m (pc + 3) ls (.ref q :: rest))) : W p l e R s m args below meth c H locs cells slots Q (F0 m pc ls (.int n :: rest)) := by
  obtain ⟨hx, hb, -, hown, hts, -, hK, hNw⟩ := C
  refine va_newq hx hb hown (hts _ hcl) hNw.2.1 hK hP hD hS hA h0 hN hby hcells hslots hdg (fun q cA H1 hK2 hP hD hS => ?_)
  obtain ⟨_, _, -, -, -, e1⟩ := (hK2.2 6 (cA, .object "MillStream$Stage") rfl).2
  obtain ⟨_, _, -, -, -, e2⟩ := (hK.2 4 (E.2.1 4, .object "MillStream$Stage") rfl).2
  have e3 : cA = E.2.1 4 := Option.some.inj (e1.symm.trans e2)
  subst e3
  exact kk q H1 hP hD hS
theorem ct_ast (C : CC p E s m args meth c cc nL own) (hP : va_P E.1 vwCl ws H) (hD : va_D A ws) (hS : va_S A s.heap H locs) (q0 qk : Nat) {a n v : Nat} {vs : List Value} {f : Nat → Option Nat} (ha : ws[q0]? = some (a, .inl (E.2.1 4, n, .inr (.inr (.inr (.inr f)))))) (hv : ws[qk]? = some (v, .inr (7, vs))) {i : Int32} (hin : vp_in i n) (hdg : decode cc pc = .ok (.aastore, 1))
    (kk : ∀ (H1 : Heap) (locs1 : List Loc), va_P E.1 vwCl (ws.set q0 (a, .inl (E.2.1 4, n, .inr (.inr (.inr (.inr (va_up f i.toNatClampNeg (some v)))))))) H1 → va_D A (ws.set q0 (a, .inl (E.2.1 4, n, .inr (.inr (.inr (.inr (va_up f i.toNatClampNeg (some v)))))))) → va_S A s.heap H1 locs1 → W p l e R s m args below meth c H1 locs1 cells slots Q (F0 m (pc + 1) ls rest)) : W p l e R s m args below meth c H locs cells slots Q (F0 m pc ls (.ref v :: .int i :: .ref a :: rest)) := by
  obtain ⟨hx, hb, -, hown, hts, -, hK, hNw⟩ := C
  exact va_astq (r := (RX7, TX7, 5)) hx hb hK hP hD hS q0 4 qk 7 ha rfl hv co_X7.1 hin hdg kk
theorem ct_get (C : CC p E s m args meth c cc nL own) {h0 ci j index : Nat} {fs : List Value} {tl : va_W} {Cn : String} {T : u_T} {N : Nat} {v : Value} (hP : va_P E.1 vwCl ((h0, .inr (ci, fs)) :: tl) H) (hco : CO Cn T N ci) (hj : j < N) (hw : Cond.fieldLink own index (T j).1 (T j).2.1 (T j).2.2.1 ∈ tb) (hv : fs[j]? = some v) (hdg : decode cc pc = .ok (.getfield index, 3))
    (kk : W p l e R s m args below meth c H locs cells slots Q (F0 m (pc + 3) ls (v :: rest))) : W p l e R s m args below meth c H locs cells slots Q (F0 m pc ls (.ref h0 :: rest)) := by
  obtain ⟨hx, hb, -, hown, hts, -, hK, -⟩ := C
  exact va_get hx hb hts hco.2.1 hown hK hP 0 rfl hco.1 j hj (hts _ hw) (fun _ h => h) hv hdg kk
theorem ct_last' (C : CC p E s m args meth c cc nL own) (hP : va_P E.1 vwCl ws H) (hD : va_D A ws) (hS : va_S A s.heap H locs) (q0 : Nat) {a n : Nat} {f : Nat → Int64} (ha : ws[q0]? = some (a, .inl (E.2.1 3, n, .inr (.inl f)))) {i : Int32} {x : Int64} (hin : vp_in i n) (hdg : decode cc pc = .ok (.lastore, 1))
    (kk : ∀ (H1 : Heap) (locs1 : List Loc), va_P E.1 vwCl (ws.set q0 (a, .inl (E.2.1 3, n, .inr (.inl (vp_updL f i.toNatClampNeg x))))) H1 → va_D A (ws.set q0 (a, .inl (E.2.1 3, n, .inr (.inl (vp_updL f i.toNatClampNeg x))))) → va_S A s.heap H1 locs1 → W p l e R s m args below meth c H1 locs1 cells slots Q (F0 m (pc + 1) ls rest)) : W p l e R s m args below meth c H locs cells slots Q (F0 m pc ls (.long x :: .int i :: .ref a :: rest)) := by
  obtain ⟨hx, hb, -, hown, hts, -, hK, hNw⟩ := C
  exact va_last hx hb hK hP hD hS q0 3 ha rfl hin hdg kk
theorem ct_iast (C : CC p E s m args meth c cc nL own) (hP : va_P E.1 vwCl ws H) (hD : va_D A ws) (hS : va_S A s.heap H locs) (q0 : Nat) {a n : Nat} {f : Nat → Int32} (ha : ws[q0]? = some (a, .inl (E.2.1 0, n, .inl f))) {i : Int32} {x : Int32} (hin : vp_in i n) (hdg : decode cc pc = .ok (.iastore, 1))
    (kk : ∀ (H1 : Heap) (locs1 : List Loc), va_P E.1 vwCl (ws.set q0 (a, .inl (E.2.1 0, n, .inl (upd f i.toNatClampNeg x)))) H1 → va_D A (ws.set q0 (a, .inl (E.2.1 0, n, .inl (upd f i.toNatClampNeg x)))) → va_S A s.heap H1 locs1 → W p l e R s m args below meth c H1 locs1 cells slots Q (F0 m (pc + 1) ls rest)) : W p l e R s m args below meth c H locs cells slots Q (F0 m pc ls (.int x :: .int i :: .ref a :: rest)) := by
  obtain ⟨hx, hb, -, hown, hts, -, hK, hNw⟩ := C
  exact va_iast hx hb hK hP hD hS q0 0 ha rfl hin hdg kk
end CU
/-! Methods without a world: more, word. -/
def mo (x : Int64) (c : Int32) : Int64 := if c = 0 then x else 27 * x + (c - 97 + 1).toInt64
def wo (a b c d e : Int32) : Int64 := mo (mo (mo (mo (mo 0 a) b) c) d) e
def QN (f : Int64) : Array Value → State → Outcome → State → Prop := va_Ql (fun r (_ : Unit) => r = f) (fun _ _ => True) (fun _ => False)
theorem pm_of {l : Launch} {y : MethodName} {cc : ByteArray} {maxL : Nat} {ret : Option FieldType} {rm : Room} {av : List Value} {Qc : Array Value → State → Outcome → State → Prop} (hy : plainName y.cls = true) (hn : (lg_sl av).length ≤ maxL)
    (body : ∀ (p : Program) (e : Env) (s : State) (m : MethodId) (args : Array Value) (below : List Frame) (meth : Method) (c : Code), p.tables.exec = Jvm.exec → c.code = cc → c.maxLocals = maxL → s.vm.findClass y.cls = some m.cls → (∀ w ∈ tb, w.before args s = true) → meth.locks = false → meth.sig.returnType = ret → ∀ ls : Array Slot, lv_has ls maxL (lv_args 0 av) →
      W p l e rm s m args below meth c s.heap [] 0 0 (MQ below Qc args s rm.cells rm.slots (fun _ => False)) (F0 m 0 ls [])) : Met l y (wy y cc maxL ret) rm (va_Pc av (fun _ => True)) Qc rm.cells rm.slots (fun _ => False) := by
  refine Met.ofW (cc := cc) (maxL := maxL) (ret := ret) hy rfl ?_
  intro p e s m args below meth c s₁ B hml hv
  obtain ⟨rfl, -⟩ := hv
  have hts := atoms_spec (ws := wy y cc maxL ret) B.pre
  have hl := lv_entry av (n := maxL) hn
  rw [lg_entry_eq]
  exact body p e s m _ below meth c B.exec B.bytes hml (findClass_of_methodNamed B.named) (fun w hw => hts w (List.mem_cons_of_mem _ hw)) B.notSynchronized B.returns _ hl
theorem pm_more {l : Launch} (x : Int64) (k : Int32) : Met l yX12_more (wy yX12_more cX12_more 3 (some .long)) rmX12_more (va_Pc [.long x, .int k] (fun _ => True)) (QN (mo x k)) rmX12_more.cells rmX12_more.slots (fun _ => False) := by
  refine pm_of (by decide) (Nat.le_of_ble_eq_true rfl) (fun p e s m args below meth c hx hb hml hown hts hlk hr ls hl => ?_)
  refine lv_iload_n hx hb dX12_more_0 rfl (lv_at hl 1 rfl) ?_
  refine lv_if_ne (tgt := 8) hx hb dX12_more_1 (by decide) (fun c1 => ?_) (fun c1 => ?_)
  · refine lv_ldc2 hx hb hown (hts _ ck_X12_199) dX12_more_8 ?_
    refine lv_lload_n hx hb dX12_more_11 rfl (lv_at hl 0 rfl) ?_
    refine lv_lmul hx hb dX12_more_12 ?_
    refine lv_iload_n hx hb dX12_more_13 rfl (lv_at hl 1 rfl) ?_
    refine lv_bipush (v := 97) hx hb dX12_more_14 (by decide) ?_
    refine lv_isub hx hb dX12_more_16 ?_
    refine lv_iconst (v := 1) hx hb dX12_more_17 (by decide) ?_
    refine lv_iadd hx hb dX12_more_18 ?_
    refine lv_i2l hx hb dX12_more_19 rfl ?_
    refine lv_ladd hx hb dX12_more_20 ?_
    exact W.lret hx hb hr (fun t ht hW => ⟨⟨_, (), rfl, (if_neg c1).symm, trivial⟩, va_S.F (va_S.rf (A := fun _ => False)) ht⟩) (fun _ h => by cases h) dX12_more_21 hlk
  · refine lv_lload_n hx hb dX12_more_4 rfl (lv_at hl 0 rfl) ?_
    refine lv_goto (tgt := 21) hx hb dX12_more_5 (by decide) ?_
    exact W.lret hx hb hr (fun t ht hW => ⟨⟨_, (), rfl, (if_pos c1).symm, trivial⟩, va_S.F (va_S.rf (A := fun _ => False)) ht⟩) (fun _ h => by cases h) dX12_more_21 hlk
section CP
variable {p : Program} {l : Launch} {e : Env} {R : Room} {s : State} {m : MethodId} {args : Array Value} {below : List Frame} {meth : Method} {c : Code} {H : Heap} {locs : List Loc} {cells slots : Nat} {Q : State → Prop}
variable {cc : ByteArray} {pc nL : Nat} {ls : Array Slot} {rest : List Value} {own : String} {A : Nat → Prop}
theorem pm_call (hx : p.tables.exec = Jvm.exec) (hb : c.code = cc) (hml : c.maxLocals = nL) (hown : s.vm.findClass own = some m.cls) (hts : ∀ w ∈ tb, w.before args s = true) {y : MethodName} {bytes : ByteArray} {maxL index np : Nat} {rm : Room} {As : List Value} {f : Int64} (hb0 : MS y bytes maxL (some .long) np) (hn : Cond.methodLink own index y ∈ tb)
    (hM : Met l y (wy y bytes maxL (some .long)) rm (va_Pc As (fun _ => True)) (QN f) rm.cells rm.slots (fun _ => False)) (hR : rm.frames + 1 ≤ R.frames ∧ 8 + (maxL + 11) + rm.locals ≤ R.locals) (hcs : cells + rm.cells ≤ R.cells ∧ slots + rm.slots ≤ R.slots) (h0 : rm.cells = 0 ∧ rm.slots = 0) (hnp : As.length = np) (hls : ls.size = nL) (hcat : (rest.map fun v => v.category).sum ≤ 8) {st0 : List Value} (hst : st0 = As.reverse ++ rest) (hdg : decode cc pc = .ok (.invokestatic index, 3)) (hS : va_S A s.heap H locs)
    (kk : ∀ (H1 : Heap) (locs1 : List Loc), (∀ q : Nat, q < H.size → H1[q]? = H[q]?) → va_S A s.heap H1 locs1 → W p l e R s m args below meth c H1 locs1 cells slots Q (F0 m (pc + 3) ls (.long f :: rest))) : W p l e R s m args below meth c H locs cells slots Q (F0 m pc ls st0) := by
  obtain ⟨h1, h2, h3, h4⟩ := hb0
  refine va_calll (A1 := fun _ => False) (va_runS (As := As) (Ts := tb) (rest := rest) ⟨hx, hb, hml, hown, hts⟩ hM (va_cwS np hts (tb_gi (fun w hw => ?_)) rfl rfl rfl h4 hR) ⟨fun a U g mk q => ⟨q.1, trivial⟩, fun U hU hW => ⟨rfl, trivial⟩⟩ rfl hnp hls hst (lv_room hcat) hdg hcs) hS (fun _ _ h => h.elim) (fun _ h => h.elim) (fun r u t H1 locs1 ht hvm hp hB hz hk hS => ?_)
  · rcases List.mem_append.mp hw with q | q
    · simp only [List.mem_cons, List.not_mem_nil, or_false] at q
      rcases q with rfl | rfl | rfl
      · exact hn
      · exact h2
      · exact h3
    · exact wy_in h1 w q
  · have hp : r = f := hp
    subst hp
    rw [h0.1, h0.2]
    exact kk H1 locs1 (fun q h => hk q h (fun z => z)) hS
end CP
theorem pm_word {l : Launch} (x0 x1 x2 x3 x4 : Int32) : Met l yX12_word (wy yX12_word cX12_word 5 (some .long)) rmX12_word (va_Pc [.int x0, .int x1, .int x2, .int x3, .int x4] (fun _ => True)) (QN (wo x0 x1 x2 x3 x4)) rmX12_word.cells rmX12_word.slots (fun _ => False) := by
  refine pm_of (by decide) (Nat.le_of_ble_eq_true rfl) (fun p e s m args below meth c hx hb hml hown hts hlk hr ls hl => ?_)
  have hS : va_S (fun _ => False) s.heap s.heap [] := va_S.rf
  refine lv_lconst (v := 0) hx hb dX12_word_0 (by decide) ?_
  refine lv_iload_n hx hb dX12_word_1 rfl (lv_at hl 0 rfl) ?_
  refine pm_call (As := [.long 0, .int x0]) (rest := []) hx hb hml hown hts ms_X12_more ml_X12_201 (pm_more 0 x0) ⟨Nat.le_of_ble_eq_true rfl, Nat.le_of_ble_eq_true rfl⟩ ⟨Nat.le_refl _, Nat.le_refl _⟩ ⟨rfl, rfl⟩ rfl hl.1 (Nat.le_of_ble_eq_true rfl) rfl dX12_word_2 hS (fun H locs _ hS => ?_)
  refine lv_iload_n hx hb dX12_word_5 rfl (lv_at hl 1 rfl) ?_
  refine pm_call (As := [.long _, .int x1]) (rest := []) hx hb hml hown hts ms_X12_more ml_X12_201 (pm_more _ x1) ⟨Nat.le_of_ble_eq_true rfl, Nat.le_of_ble_eq_true rfl⟩ ⟨Nat.le_refl _, Nat.le_refl _⟩ ⟨rfl, rfl⟩ rfl hl.1 (Nat.le_of_ble_eq_true rfl) rfl dX12_word_6 hS (fun H locs _ hS => ?_)
  refine lv_iload_n hx hb dX12_word_9 rfl (lv_at hl 2 rfl) ?_
  refine pm_call (As := [.long _, .int x2]) (rest := []) hx hb hml hown hts ms_X12_more ml_X12_201 (pm_more _ x2) ⟨Nat.le_of_ble_eq_true rfl, Nat.le_of_ble_eq_true rfl⟩ ⟨Nat.le_refl _, Nat.le_refl _⟩ ⟨rfl, rfl⟩ rfl hl.1 (Nat.le_of_ble_eq_true rfl) rfl dX12_word_10 hS (fun H locs _ hS => ?_)
  refine lv_iload_n hx hb dX12_word_13 rfl (lv_at hl 3 rfl) ?_
  refine pm_call (As := [.long _, .int x3]) (rest := []) hx hb hml hown hts ms_X12_more ml_X12_201 (pm_more _ x3) ⟨Nat.le_of_ble_eq_true rfl, Nat.le_of_ble_eq_true rfl⟩ ⟨Nat.le_refl _, Nat.le_refl _⟩ ⟨rfl, rfl⟩ rfl hl.1 (Nat.le_of_ble_eq_true rfl) rfl dX12_word_14 hS (fun H locs _ hS => ?_)
  refine lv_iload hx hb dX12_word_17 (lv_at hl 4 rfl) ?_
  refine pm_call (As := [.long _, .int x4]) (rest := []) hx hb hml hown hts ms_X12_more ml_X12_201 (pm_more _ x4) ⟨Nat.le_of_ble_eq_true rfl, Nat.le_of_ble_eq_true rfl⟩ ⟨Nat.le_refl _, Nat.le_refl _⟩ ⟨rfl, rfl⟩ rfl hl.1 (Nat.le_of_ble_eq_true rfl) rfl dX12_word_19 hS (fun H locs _ hS => ?_)
  exact W.lret hx hb hr (fun t ht hW => ⟨⟨_, (), rfl, rfl, trivial⟩, hS.F ht⟩) hS.2.2 dX12_word_22 hlk
/-! Arrays.fill on a world of one cell. -/
theorem one_P {E : EE} {q n : Nat} {f g : Nat → Int32} {H : Heap} (h : ∀ j, j < n → f j = g j) (hP : va_P E.1 vwCl [(q, .inl (E.2.1 0, n, .inl f))] H) : va_P E.1 vwCl [(q, .inl (E.2.1 0, n, .inl g))] H := by
  intro k x hx
  have hk : k < 1 := (List.getElem?_eq_some_iff.mp hx).1
  have hk0 : k = 0 := by omega
  subst hk0
  cases hx
  have := hP 0 _ rfl
  show H[q]? = some (vp_cell _ _)
  rw [← vp_cell_congr h]
  exact this
section CF
variable {p : Program} {l : Launch} {e : Env} {s : State} {m : MethodId} {args : Array Value} {below : List Frame} {meth : Method} {c : Code} {E : EE} {A : Nat → Prop}
set_option maxHeartbeats 4000000 in
theorem fillL (hx : p.tables.exec = Jvm.exec) (hb : c.code = cJ7_fill_53178) (hK : KW E s) (hr : meth.sig.returnType = none) (hlk : meth.locks = false) {q n : Nat} {f : Nat → Int32} {v : Int32} (hn : n < 2 ^ 31) : ∀ (d i : Nat) (H : Heap) (locs : List Loc) (ls : Array Slot), i + d = n → lv_has ls 4 [(0, .ref q), (1, .int v), (2, .int (nI i)), (3, .int (nI n))] → va_P E.1 vwCl [(q, .inl (E.2.1 0, n, .inl (fun j => if j < i then v else f j)))] H → va_D A [(q, .inl (E.2.1 0, n, .inl (fun j => if j < i then v else f j)))] → va_S A s.heap H locs →
    W p l e rmJ7_fill_53178 s m args below meth c H locs 0 0 (MQ below (va_Qv (fun _ : Unit => True) (fun _ t => va_P E.1 vwCl [(q, .inl (E.2.1 0, n, .inl (fun _ => v)))] t.heap ∧ va_D A [(q, .inl (E.2.1 0, n, .inl (fun _ => v)))]) A) args s 0 0 A) (F0 m 5 ls []) := by
  intro d
  induction d with
  | zero =>
    intro i H locs ls hi hl hP hD hS
    refine lv_iload_n hx hb dJ7_fill_53178_5 rfl (lv_at hl 2 rfl) ?_
    refine lv_iload_n hx hb dJ7_fill_53178_6 rfl (lv_at hl 3 rfl) ?_
    refine lv_icmp_ge (tgt := 20) hx hb dJ7_fill_53178_7 (by decide) (fun _ => ?_) (fun c1 => absurd (nI_le (a := n) (b := i) (by omega) (by omega)) c1)
    exact W.vret hx hb hr (fun t ht hW => ⟨⟨(), rfl, trivial, by rw [ht]; exact one_P (fun j hj => if_pos (by omega)) hP, hD.set (p := 0) rfl⟩, hS.F ht⟩) hS.2.2 dJ7_fill_53178_20 hlk
  | succ d ih =>
    intro i H locs ls hi hl hP hD hS
    refine lv_iload_n hx hb dJ7_fill_53178_5 rfl (lv_at hl 2 rfl) ?_
    refine lv_iload_n hx hb dJ7_fill_53178_6 rfl (lv_at hl 3 rfl) ?_
    refine lv_icmp_ge (tgt := 20) hx hb dJ7_fill_53178_7 (by decide) (fun c1 => absurd c1 (nI_ge (by omega) hn)) (fun _ => ?_)
    refine lv_aload_n hx hb dJ7_fill_53178_10 rfl (lv_at hl 0 rfl) ?_
    refine lv_iload_n hx hb dJ7_fill_53178_11 rfl (lv_at hl 2 rfl) ?_
    refine lv_iload_n hx hb dJ7_fill_53178_12 rfl (lv_at hl 1 rfl) ?_
    refine va_iast hx hb hK hP hD hS 0 0 rfl rfl (vp_in_nI (by omega) hn) dJ7_fill_53178_13 (fun H locs hP hD hS => ?_)
    refine lv_iinc (v := nI (i + 1)) (lv' := [(2, .int (nI (i + 1))), (0, .ref q), (1, .int v), (3, .int (nI n))]) hx hb dJ7_fill_53178_14 hl (k := 2) rfl (nI_1 i) (by decide) rfl (fun ls hl => ?_)
    refine lv_goto (tgt := 5) hx hb dJ7_fill_53178_17 (by decide) ?_
    have e2 : upd (fun j => if j < i then v else f j) (nI i).toNatClampNeg v = (fun j => if j < i + 1 then v else f j) := by
      rw [nI_clamp (by omega)]
      funext j
      unfold upd
      by_cases h1 : j = i
      · subst h1
        rw [if_pos rfl, if_pos (by omega)]
      · rw [if_neg h1]
        show (if j < i then v else f j) = if j < i + 1 then v else f j
        by_cases h2 : j < i
        · rw [if_pos h2, if_pos (by omega)]
        · rw [if_neg h2, if_neg (by omega)]
    rw [e2] at hP hD
    exact ih (i + 1) H locs ls (by omega) (lv_sub hl [1, 2, 0, 3] rfl) hP hD hS
theorem cFill {q sz n : Nat} {f : Nat → Int32} {v : Int32} (hn : n < 2 ^ 31) : Met l yJ7_fill_53178 (wy yJ7_fill_53178 cJ7_fill_53178 4 none) rmJ7_fill_53178 (va_Pc [.ref q, .int v] (fun U => PC E sz q (.inl (E.2.1 0, n, .inl f)) U)) (QC E sz q (.inl (E.2.1 0, n, .inl f)) (fun _ : Unit => [(q, .inl (E.2.1 0, n, .inl (fun _ => v)))])) rmJ7_fill_53178.cells rmJ7_fill_53178.slots (va_A [(q, .inl (E.2.1 0, n, .inl f))] sz) := by
  refine Met.ofW (cc := cJ7_fill_53178) (maxL := 4) (ret := none) (by decide) rfl ?_
  intro p e s m args below meth c s₁ B hml hv
  obtain ⟨rfl, hsz, hP, hK, hN⟩ := hv
  have hl := lv_entry ([.ref q, .int v]) (n := 4) (Nat.le_of_ble_eq_true rfl)
  rw [lg_entry_eq]
  subst hsz
  have hD0 : va_D (fun _ => True) [(q, (.inl (E.2.1 0, n, .inl f) : va_E))] := ⟨fun i j x z hi hj _ => by
    have h1 : i < 1 := (List.getElem?_eq_some_iff.mp hi).1
    have h2 : j < 1 := (List.getElem?_eq_some_iff.mp hj).1
    omega, fun _ _ _ => trivial⟩
  have hD := hD0.self (sz := s.heap.size)
  have hx := B.exec
  have hb := B.bytes
  generalize ((lg_sl [.ref q, .int v] ++ List.replicate (4 - (lg_sl [.ref q, .int v]).length) Slot.unset).toArray) = ls at hl ⊢
  refine lv_iconst (v := 0) hx hb dJ7_fill_53178_0 (by decide) ?_
  refine lv_istore_n (lv' := [(2, .int 0), (0, .ref q), (1, .int v)]) hx hb dJ7_fill_53178_1 rfl hl (by decide) rfl (fun ls hl => ?_)
  refine lv_aload_n hx hb dJ7_fill_53178_2 rfl (lv_at hl 1 rfl) ?_
  refine va_alen hx hb hK hP 0 0 rfl rfl rfl dJ7_fill_53178_3 ?_
  refine lv_istore_n (lv' := [(3, .int (nI n)), (2, .int 0), (0, .ref q), (1, .int v)]) hx hb dJ7_fill_53178_4 rfl hl (by decide) rfl (fun ls hl => ?_)
  have e2 : (fun j => if j < 0 then v else f j) = f := by
    funext j
    exact if_neg (Nat.not_lt_zero j)
  refine fillL hx hb hK B.returns B.notSynchronized (f := f) hn n 0 _ _ ls (by omega) (lv_sub hl [2, 3, 1, 0] rfl) ?_ ?_ va_S.rf
  · rw [e2]; exact hP
  · rw [e2]; exact hD
end CF
