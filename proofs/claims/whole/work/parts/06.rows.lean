/-! Rows: an instruction over the world; calls; a method's entry and its end. -/
def tysE (E : EE) : List (ClassId × FieldType) := [(E.2.1 0, .int), (E.2.1 1, .byte), (E.2.1 2, .boolean), (E.2.1 3, .long), (E.2.1 4, .object "MillStream$Stage"), (E.2.1 5, .array .int)]
def KW (E : EE) (s : State) : Prop := va_K E.1 vwCl (tysE E) s
/-- the text of the words that are no names, and its bytes -/
def TXT : String := "act     from    until   end     must    if      opens   mill    any     or      and     level   mark    cap     below   above   in      wheel   gate    hour    day     work    out     "
def wbyt : List Int32 := [97, 99, 116, 32, 32, 32, 32, 32, 102, 114, 111, 109, 32, 32, 32, 32, 117, 110, 116, 105, 108, 32, 32, 32, 101, 110, 100, 32, 32, 32, 32, 32, 109, 117, 115, 116, 32, 32, 32, 32, 105, 102, 32, 32, 32, 32, 32, 32, 111, 112, 101, 110, 115, 32, 32, 32, 109, 105, 108, 108, 32, 32, 32, 32, 97, 110, 121, 32, 32, 32, 32, 32, 111, 114, 32, 32, 32, 32, 32, 32, 97, 110, 100, 32, 32, 32, 32, 32, 108, 101, 118, 101, 108, 32, 32, 32, 109, 97, 114, 107, 32, 32, 32, 32, 99, 97, 112, 32, 32, 32, 32, 32, 98, 101, 108, 111, 119, 32, 32, 32, 97, 98, 111, 118, 101, 32, 32, 32, 105, 110, 32, 32, 32, 32, 32, 32, 119, 104, 101, 101, 108, 32, 32, 32, 103, 97, 116, 101, 32, 32, 32, 32, 104, 111, 117, 114, 32, 32, 32, 32, 100, 97, 121, 32, 32, 32, 32, 32, 119, 111, 114, 107, 32, 32, 32, 32, 111, 117, 116, 32, 32, 32, 32, 32]
/-- what stays of the text constant and of the JDK's statics, outside the world -/
def ZW (E : EE) (base : Nat) (U : State) : Prop := vk_R "MillStream$Tokens" 54 TXT (ga E 1000) U ∧ vk_S 1 [184] [wbyt] (fun _ => ga E 1000) (fun _ => ga E 1001) (fun q => base ≤ q) U U.heap ∧ va_Z "java/lang/String" "COMPACT_STRINGS" "Z" (.int 1) (fun q => base ≤ q) U U.heap ∧ va_Zq "jdk/internal/util/Preconditions" "SIOOBE_FORMATTER" "Ljava/util/function/BiFunction;" (fun q => base ≤ q) U U.heap
theorem ZW.warm {E : EE} {base : Nat} {s U : State} {locs : List Loc} (h : ZW E base s) (hW : s.WarmedH U.vm) (hS : va_S (fun q => base ≤ q) s.heap U.heap locs) : ZW E base U :=
  ⟨h.1.warm hW, (h.2.1.moved hW.alike).kept hS.2.1, (h.2.2.1.moved hW.alike).kept hS.2.1, (h.2.2.2.moved hW.alike).kept hS.2.1⟩
theorem ZW.call {E : EE} {base : Nat} {U : State} {g : JFrame} {mk : MethodId} {a : Array Value} (h : ZW E base U) : ZW E base (U.calling g mk a) :=
  ⟨vk_R.same rfl h.1, h.2.1.moved (U := U.calling g mk a) (Vm.Alike.refl U.vm), h.2.2.1.moved (U := U.calling g mk a) (Vm.Alike.refl U.vm), h.2.2.2.moved (U := U.calling g mk a) (Vm.Alike.refl U.vm)⟩
/-- the world in a state, between methods -/
def SW (E : EE) (base : Nat) (σ : St) (U : State) : Prop := va_P E.1 vwCl (wx E σ) U.heap ∧ va_D (fun q => base ≤ q) (wx E σ) ∧ KW E U ∧ base ≤ U.heap.size ∧ ZW E base U
/-- the world in a method's body -/
def GW (E : EE) (base : Nat) (s : State) (σ : St) (H : Heap) (locs : List Loc) : Prop := va_P E.1 vwCl (wx E σ) H ∧ va_D (fun q => base ≤ q) (wx E σ) ∧ va_S (fun q => base ≤ q) s.heap H locs
/-- what stays in a method's body -/
def Cx (p : Program) (E : EE) (base : Nat) (s : State) (m : MethodId) (args : Array Value) (meth : Method) (c : Code) (cc : ByteArray) (nL : Nat) (own : String) : Prop :=
  p.tables.exec = Jvm.exec ∧ c.code = cc ∧ c.maxLocals = nL ∧ s.vm.findClass own = some m.cls ∧ (∀ w ∈ tb, w.before args s = true) ∧ meth.locks = false ∧ KW E s ∧ base ≤ s.heap.size ∧ ZW E base s
/-- a field by its class and place: the words of it are there -/
def CO (C : String) (T : u_T) (N ci : Nat) : Prop := vwCl[ci]? = some (C, T, N) ∧ (∀ w ∈ u_ws C T N, w ∈ tb) ∧ (∀ a, a < N → ∀ b, b < N → a ≠ b → (T a).2.1 ≠ (T b).2.1)
def FL (own : String) (index ci j : Nat) : Prop := ∃ (C : String) (T : u_T) (N : Nat), CO C T N ci ∧ j < N ∧ Cond.fieldLink own index (T j).1 (T j).2.1 (T j).2.2.1 ∈ tb
def FI (own : String) (index ci j : Nat) : Prop := ∃ (C : String) (T : u_T) (N : Nat) (ty : Nat → FieldType), CO C T N ci ∧ j < N ∧ Cond.fieldLink own index (T j).1 (T j).2.1 (T j).2.2.1 ∈ tb ∧ (∀ k, k < N → parseFieldDescriptor (T k).2.2.1 = some (ty k)) ∧ ty j = .int ∧ (T j).2.2.2 = false
section RW
variable {p : Program} {l : Launch} {e : Env} {R : Room} {s : State} {m : MethodId} {args : Array Value} {below : List Frame} {meth : Method} {c : Code} {H : Heap} {locs : List Loc} {cells slots : Nat} {Q : State → Prop}
variable {cc : ByteArray} {pc nL : Nat} {ls : Array Slot} {rest : List Value} {E : EE} {base : Nat} {σ : St} {own : String}
theorem SW.blind {av : List Value} : FrameBlind (va_Pc av (fun U => SW E base σ U)) := fun a U g mk q => ⟨q.1, q.2.1, q.2.2.1, va_K.moved (u := U) (U := U.calling g mk a) (Vm.Alike.refl U.vm) q.2.2.2.1, q.2.2.2.2.1, ZW.call q.2.2.2.2.2⟩
theorem GW.out (C : Cx p E base s m args meth c cc nL own) (g : GW E base s σ H locs) {U : State} (hU : U.heap = H) (hW : s.WarmedH U.vm) : SW E base σ U := by
  obtain ⟨hP, hD, hS⟩ := g
  obtain ⟨-, -, -, -, -, -, hK, hbs, hz⟩ := C
  exact ⟨by rw [hU]; exact hP, hD, va_K.moved hW.alike hK, by rw [hU]; exact Nat.le_trans hbs hS.1, hz.warm hW (by rw [hU]; exact hS)⟩
theorem gx_getI (C : Cx p E base s m args meth c cc nL own) (g : GW E base s σ H locs) {k j ci index : Nat} {fs : List (Option Nat)} (hf : FL own index ci j) (hdg : decode cc pc = .ok (.getfield index, 3)) (hs : shs[k]? = some (.inl (ci, fs))) (hj : fs[j]? = some none)
    (kk : W p l e R s m args below meth c H locs cells slots Q (F0 m (pc + 3) ls (.int (gv σ k j) :: rest))) : W p l e R s m args below meth c H locs cells slots Q (F0 m pc ls (.ref (ga E k) :: rest)) := by
  obtain ⟨hx, hb, -, hown, hts, -, hK, -⟩ := C
  obtain ⟨_, T, N, ⟨hc, hin, -⟩, hjN, hl⟩ := hf
  exact va_get hx hb hts hin hown hK g.1 k (wx_obj hs) hc j hjN (hts _ hl) (fun _ h => h) (fld_int hj) hdg kk
theorem gx_getR (C : Cx p E base s m args meth c cc nL own) (g : GW E base s σ H locs) {k j ci index r : Nat} {fs : List (Option Nat)} (hf : FL own index ci j) (hdg : decode cc pc = .ok (.getfield index, 3)) (hs : shs[k]? = some (.inl (ci, fs))) (hj : fs[j]? = some (some r)) (hr : r ≠ 36)
    (kk : W p l e R s m args below meth c H locs cells slots Q (F0 m (pc + 3) ls (.ref (ga E r) :: rest))) : W p l e R s m args below meth c H locs cells slots Q (F0 m pc ls (.ref (ga E k) :: rest)) := by
  obtain ⟨hx, hb, -, hown, hts, -, hK, -⟩ := C
  obtain ⟨_, T, N, ⟨hc, hin, -⟩, hjN, hl⟩ := hf
  exact va_get hx hb hts hin hown hK g.1 k (wx_obj hs) hc j hjN (hts _ hl) (fun _ h => h) ((fld_ref hj).trans (by rw [adr_ne hr])) hdg kk
theorem gx_putI (C : Cx p E base s m args meth c cc nL own) (g : GW E base s σ H locs) {k j ci index : Nat} {fs : List (Option Nat)} {x : Int32} (hf : FI own index ci j) (hdg : decode cc pc = .ok (.putfield index, 3)) (hs : shs[k]? = some (.inl (ci, fs))) (hj : fs[j]? = some none)
    (kk : ∀ (H1 : Heap) (locs1 : List Loc) (τ : St), τ = pv σ k j x → GW E base s τ H1 locs1 → W p l e R s m args below meth c H1 locs1 cells slots Q (F0 m (pc + 3) ls rest)) : W p l e R s m args below meth c H locs cells slots Q (F0 m pc ls (.int x :: .ref (ga E k) :: rest)) := by
  obtain ⟨hx, hb, -, hown, hts, -, hK, -⟩ := C
  obtain ⟨_, T, N, ty, ⟨hc, hin, hnm⟩, hjN, hl, hty, hti, hfin⟩ := hf
  obtain ⟨hP, hD, hS⟩ := g
  refine va_put hx hb hts hin ty hty hnm hown hK hP hD hS k (wx_obj hs) hc j hjN (hts _ hl) (fun _ h => h) hfin (hty j hjN) (by rw [hti]; exact vp_nar_int x) (by rw [hti]; rfl) (List.getElem?_eq_some_iff.mp (fld_int (E := E) (σ := σ) (k := k) hj)).1 hdg (fun H1 locs1 h1 h2 h3 => ?_)
  rw [wx_pv hs hj] at h1 h2
  exact kk H1 locs1 _ rfl ⟨h1, h2, h3⟩
theorem gx_iald (C : Cx p E base s m args meth c cc nL own) (g : GW E base s σ H locs) {k n : Nat} {rs : List Nat} {i : Int32} (hdg : decode cc pc = .ok (.iaload, 1)) (hs : shs[k]? = some (.inr (0, some n, rs))) (hin : vp_in i n)
    (kk : W p l e R s m args below meth c H locs cells slots Q (F0 m (pc + 1) ls (.int (gv σ k i.toNatClampNeg) :: rest))) : W p l e R s m args below meth c H locs cells slots Q (F0 m pc ls (.int i :: .ref (ga E k) :: rest)) := by
  obtain ⟨hx, hb, -, hown, hts, -, hK, -⟩ := C
  exact va_iald hx hb hK g.1 k 0 (wx_int hs (by omega)) rfl hin hdg kk
theorem gx_bald (C : Cx p E base s m args meth c cc nL own) (g : GW E base s σ H locs) {k n : Nat} {rs : List Nat} {i : Int32} (hdg : decode cc pc = .ok (.baload, 1)) (hs : shs[k]? = some (.inr (1, some n, rs))) (hin : vp_in i n)
    (kk : W p l e R s m args below meth c H locs cells slots Q (F0 m (pc + 1) ls (.int (gv σ k i.toNatClampNeg) :: rest))) : W p l e R s m args below meth c H locs cells slots Q (F0 m pc ls (.int i :: .ref (ga E k) :: rest)) := by
  obtain ⟨hx, hb, -, hown, hts, -, hK, -⟩ := C
  exact va_bald hx hb hK g.1 k 1 (wx_int hs (by omega)) rfl hin hdg kk
theorem gx_zald (C : Cx p E base s m args meth c cc nL own) (g : GW E base s σ H locs) {k n : Nat} {rs : List Nat} {i : Int32} (hdg : decode cc pc = .ok (.baload, 1)) (hs : shs[k]? = some (.inr (2, some n, rs))) (hin : vp_in i n)
    (kk : W p l e R s m args below meth c H locs cells slots Q (F0 m (pc + 1) ls (.int (gv σ k i.toNatClampNeg) :: rest))) : W p l e R s m args below meth c H locs cells slots Q (F0 m pc ls (.int i :: .ref (ga E k) :: rest)) := by
  obtain ⟨hx, hb, -, hown, hts, -, hK, -⟩ := C
  exact va_zald hx hb hK g.1 k 2 (wx_int hs (by omega)) rfl hin hdg kk
theorem gx_lald (C : Cx p E base s m args meth c cc nL own) (g : GW E base s σ H locs) {k n : Nat} {rs : List Nat} {i : Int32} (hdg : decode cc pc = .ok (.laload, 1)) (hs : shs[k]? = some (.inr (3, some n, rs))) (hin : vp_in i n)
    (kk : W p l e R s m args below meth c H locs cells slots Q (F0 m (pc + 1) ls (.long (gw σ k i.toNatClampNeg) :: rest))) : W p l e R s m args below meth c H locs cells slots Q (F0 m pc ls (.int i :: .ref (ga E k) :: rest)) := by
  obtain ⟨hx, hb, -, hown, hts, -, hK, -⟩ := C
  exact va_lald hx hb hK g.1 k 3 (wx_long hs) rfl hin hdg kk
theorem gx_iast (C : Cx p E base s m args meth c cc nL own) (g : GW E base s σ H locs) {k n : Nat} {rs : List Nat} {i x : Int32} (hdg : decode cc pc = .ok (.iastore, 1)) (hs : shs[k]? = some (.inr (0, some n, rs))) (hin : vp_in i n)
    (kk : ∀ (H1 : Heap) (locs1 : List Loc) (τ : St), τ = pv σ k i.toNatClampNeg x → GW E base s τ H1 locs1 → W p l e R s m args below meth c H1 locs1 cells slots Q (F0 m (pc + 1) ls rest)) : W p l e R s m args below meth c H locs cells slots Q (F0 m pc ls (.int x :: .int i :: .ref (ga E k) :: rest)) := by
  obtain ⟨hx, hb, -, hown, hts, -, hK, -⟩ := C
  obtain ⟨hP, hD, hS⟩ := g
  refine va_iast hx hb hK hP hD hS k 0 (wx_int hs (by omega)) rfl hin hdg (fun H1 locs1 h1 h2 h3 => ?_)
  rw [wx_pa hs (by omega)] at h1 h2
  exact kk H1 locs1 _ rfl ⟨h1, h2, h3⟩
theorem gx_bast (C : Cx p E base s m args meth c cc nL own) (g : GW E base s σ H locs) {k n : Nat} {rs : List Nat} {i x : Int32} (hdg : decode cc pc = .ok (.bastore, 1)) (hs : shs[k]? = some (.inr (1, some n, rs))) (hin : vp_in i n)
    (kk : ∀ (H1 : Heap) (locs1 : List Loc) (τ : St), τ = pv σ k i.toNatClampNeg (vp_nar .byte x) → GW E base s τ H1 locs1 → W p l e R s m args below meth c H1 locs1 cells slots Q (F0 m (pc + 1) ls rest)) : W p l e R s m args below meth c H locs cells slots Q (F0 m pc ls (.int x :: .int i :: .ref (ga E k) :: rest)) := by
  obtain ⟨hx, hb, -, hown, hts, -, hK, -⟩ := C
  obtain ⟨hP, hD, hS⟩ := g
  refine va_bast hx hb hK hP hD hS k 1 (wx_int hs (by omega)) rfl hin hdg (fun H1 locs1 h1 h2 h3 => ?_)
  rw [wx_pa hs (by omega)] at h1 h2
  exact kk H1 locs1 _ rfl ⟨h1, h2, h3⟩
theorem gx_zast (C : Cx p E base s m args meth c cc nL own) (g : GW E base s σ H locs) {k n : Nat} {rs : List Nat} {i x : Int32} (hdg : decode cc pc = .ok (.bastore, 1)) (hs : shs[k]? = some (.inr (2, some n, rs))) (hin : vp_in i n)
    (kk : ∀ (H1 : Heap) (locs1 : List Loc) (τ : St), τ = pv σ k i.toNatClampNeg (vp_nar .boolean x) → GW E base s τ H1 locs1 → W p l e R s m args below meth c H1 locs1 cells slots Q (F0 m (pc + 1) ls rest)) : W p l e R s m args below meth c H locs cells slots Q (F0 m pc ls (.int x :: .int i :: .ref (ga E k) :: rest)) := by
  obtain ⟨hx, hb, -, hown, hts, -, hK, -⟩ := C
  obtain ⟨hP, hD, hS⟩ := g
  refine va_zast hx hb hK hP hD hS k 2 (wx_int hs (by omega)) rfl hin hdg (fun H1 locs1 h1 h2 h3 => ?_)
  rw [wx_pa hs (by omega)] at h1 h2
  exact kk H1 locs1 _ rfl ⟨h1, h2, h3⟩
theorem gx_last (C : Cx p E base s m args meth c cc nL own) (g : GW E base s σ H locs) {k n : Nat} {rs : List Nat} {i : Int32} {x : Int64} (hdg : decode cc pc = .ok (.lastore, 1)) (hs : shs[k]? = some (.inr (3, some n, rs))) (hin : vp_in i n)
    (kk : ∀ (H1 : Heap) (locs1 : List Loc) (τ : St), τ = pw σ k i.toNatClampNeg x → GW E base s τ H1 locs1 → W p l e R s m args below meth c H1 locs1 cells slots Q (F0 m (pc + 1) ls rest)) : W p l e R s m args below meth c H locs cells slots Q (F0 m pc ls (.long x :: .int i :: .ref (ga E k) :: rest)) := by
  obtain ⟨hx, hb, -, hown, hts, -, hK, -⟩ := C
  obtain ⟨hP, hD, hS⟩ := g
  refine va_last hx hb hK hP hD hS k 3 (wx_long hs) rfl hin hdg (fun H1 locs1 h1 h2 h3 => ?_)
  rw [wx_pw hs] at h1 h2
  exact kk H1 locs1 _ rfl ⟨h1, h2, h3⟩
theorem gx_alen (C : Cx p E base s m args meth c cc nL own) (g : GW E base s σ H locs) {k t n : Nat} {rs : List Nat} (hdg : decode cc pc = .ok (.arraylength, 1)) (hs : shs[k]? = some (.inr (t, some n, rs))) (ht : t < 3)
    (kk : W p l e R s m args below meth c H locs cells slots Q (F0 m (pc + 1) ls (.int (nI n) :: rest))) : W p l e R s m args below meth c H locs cells slots Q (F0 m pc ls (.ref (ga E k) :: rest)) := by
  obtain ⟨hx, hb, -, hown, hts, -, hK, -⟩ := C
  have hty : ∃ ty, (tysE E)[t]? = some (E.2.1 t, ty) := by
    rcases (show t = 0 ∨ t = 1 ∨ t = 2 by omega) with rfl | rfl | rfl <;> exact ⟨_, rfl⟩
  obtain ⟨ty, hty⟩ := hty
  exact va_alen hx hb hK g.1 k t (wx_int hs ht) hty rfl hdg kk
/-- an array of references -/
theorem gx_aald (C : Cx p E base s m args meth c cc nL own) (g : GW E base s σ H locs) {k t r n : Nat} {rs : List Nat} {i : Int32} (hdg : decode cc pc = .ok (.aaload, 1)) (hs : shs[k]? = some (.inr (t, some n, rs))) (ht : t = 4 ∨ t = 5) (hin : vp_in i n) (hr : rs[i.toNatClampNeg]? = some r) (hr6 : r ≠ 36)
    (kk : W p l e R s m args below meth c H locs cells slots Q (F0 m (pc + 1) ls (.ref (ga E r) :: rest))) : W p l e R s m args below meth c H locs cells slots Q (F0 m pc ls (.int i :: .ref (ga E k) :: rest)) := by
  obtain ⟨hx, hb, -, hown, hts, -, hK, -⟩ := C
  have hty : ∃ ty, (tysE E)[t]? = some (E.2.1 t, ty) ∧ ty.isReference = true := by
    rcases ht with rfl | rfl <;> exact ⟨_, rfl, rfl⟩
  obtain ⟨ty, hty, href⟩ := hty
  have hlt : i.toNatClampNeg < n := Nat.not_le.mp fun q => hin (Or.inr q)
  have hc := g.1 k _ (wx_ref (E := E) (σ := σ) hs (by omega))
  refine W.aald (v := .ref (ga E r)) (ty := ty) hx hb hc ((hK.2 t _ hty).1 n (fun j => va_rf ((rs[j]?).map (adr E σ)))) href (fun q => by cases q) (by show ¬ (i < 0 ∨ (arrV _ _ _).slots.size ≤ _); rw [arrV_size]; exact hin) ?_ rfl rfl hdg kk
  show (arrV _ _ _).slots[_]? = _
  rw [arrV_read _ _ hlt]
  show some (va_rf ((rs[i.toNatClampNeg]?).map (adr E σ))) = _
  rw [hr]
  show some (Value.ref (adr E σ r)) = _
  rw [adr_ne hr6]
/-- the law's code -/
theorem gx_getC (C : Cx p E base s m args meth c cc nL own) (g : GW E base s σ H locs) {k j ci index : Nat} {fs : List (Option Nat)} (hf : FL own index ci j) (hdg : decode cc pc = .ok (.getfield index, 3)) (hs : shs[k]? = some (.inl (ci, fs))) (hj : fs[j]? = some (some 36))
    (kk : W p l e R s m args below meth c H locs cells slots Q (F0 m (pc + 3) ls (.ref (gc σ) :: rest))) : W p l e R s m args below meth c H locs cells slots Q (F0 m pc ls (.ref (ga E k) :: rest)) := by
  obtain ⟨hx, hb, -, hown, hts, -, hK, -⟩ := C
  obtain ⟨_, T, N, ⟨hc, hin, -⟩, hjN, hl⟩ := hf
  exact va_get hx hb hts hin hown hK g.1 k (wx_obj hs) hc j hjN (hts _ hl) (fun _ h => h) (fld_ref hj) hdg kk
theorem gx_caldC (C : Cx p E base s m args meth c cc nL own) (g : GW E base s σ H locs) {i : Int32} (hdg : decode cc pc = .ok (.iaload, 1)) (hin : vp_in i (gn σ))
    (kk : W p l e R s m args below meth c H locs cells slots Q (F0 m (pc + 1) ls (.int (gv σ 36 i.toNatClampNeg) :: rest))) : W p l e R s m args below meth c H locs cells slots Q (F0 m pc ls (.int i :: .ref (gc σ) :: rest)) := by
  obtain ⟨hx, hb, -, hown, hts, -, hK, -⟩ := C
  exact va_iald hx hb hK g.1 36 0 wx_code rfl hin hdg kk
theorem gx_castC (C : Cx p E base s m args meth c cc nL own) (g : GW E base s σ H locs) {i x : Int32} (hdg : decode cc pc = .ok (.iastore, 1)) (hin : vp_in i (gn σ))
    (kk : ∀ (H1 : Heap) (locs1 : List Loc) (τ : St), τ = pv σ 36 i.toNatClampNeg x → GW E base s τ H1 locs1 → W p l e R s m args below meth c H1 locs1 cells slots Q (F0 m (pc + 1) ls rest)) : W p l e R s m args below meth c H locs cells slots Q (F0 m pc ls (.int x :: .int i :: .ref (gc σ) :: rest)) := by
  obtain ⟨hx, hb, -, hown, hts, -, hK, -⟩ := C
  obtain ⟨hP, hD, hS⟩ := g
  refine va_iast hx hb hK hP hD hS 36 0 wx_code rfl hin hdg (fun H1 locs1 h1 h2 h3 => ?_)
  rw [wx_pc] at h1 h2
  exact kk H1 locs1 _ rfl ⟨h1, h2, h3⟩
theorem gx_clenC (C : Cx p E base s m args meth c cc nL own) (g : GW E base s σ H locs) (hdg : decode cc pc = .ok (.arraylength, 1))
    (kk : W p l e R s m args below meth c H locs cells slots Q (F0 m (pc + 1) ls (.int (nI (gn σ)) :: rest))) : W p l e R s m args below meth c H locs cells slots Q (F0 m pc ls (.ref (gc σ) :: rest)) := by
  obtain ⟨hx, hb, -, hown, hts, -, hK, -⟩ := C
  exact va_alen hx hb hK g.1 36 0 wx_code rfl rfl hdg kk
/-- contracts -/
def MetI (l : Launch) (y : MethodName) (cc : ByteArray) (n : Nat) (ret : Option FieldType) (rm : Room) (E : EE) (base : Nat) (σ : St) (av : List Value) (Q : Int32 → St → Prop) : Prop := Met l y (wy y cc n ret) rm (va_Pc av (fun U => SW E base σ U)) (va_Qi Q (fun τ t => SW E base τ t) (fun q => base ≤ q)) rm.cells rm.slots (fun q => base ≤ q)
def MetL (l : Launch) (y : MethodName) (cc : ByteArray) (n : Nat) (ret : Option FieldType) (rm : Room) (E : EE) (base : Nat) (σ : St) (av : List Value) (Q : Int64 → St → Prop) : Prop := Met l y (wy y cc n ret) rm (va_Pc av (fun U => SW E base σ U)) (va_Ql Q (fun τ t => SW E base τ t) (fun q => base ≤ q)) rm.cells rm.slots (fun q => base ≤ q)
def MetV (l : Launch) (y : MethodName) (cc : ByteArray) (n : Nat) (ret : Option FieldType) (rm : Room) (E : EE) (base : Nat) (σ : St) (av : List Value) (Q : St → Prop) : Prop := Met l y (wy y cc n ret) rm (va_Pc av (fun U => SW E base σ U)) (va_Qv Q (fun τ t => SW E base τ t) (fun q => base ≤ q)) rm.cells rm.slots (fun q => base ≤ q)
def QI (E : EE) (base : Nat) (Q : Int32 → St → Prop) : Array Value → State → Outcome → State → Prop := va_Qi Q (fun τ t => SW E base τ t) (fun q => base ≤ q)
def QL (E : EE) (base : Nat) (Q : Int64 → St → Prop) : Array Value → State → Outcome → State → Prop := va_Ql Q (fun τ t => SW E base τ t) (fun q => base ≤ q)
def QV (E : EE) (base : Nat) (Q : St → Prop) : Array Value → State → Outcome → State → Prop := va_Qv Q (fun τ t => SW E base τ t) (fun q => base ≤ q)
theorem met_of {y : MethodName} {maxL : Nat} {ret : Option FieldType} {rm : Room} {av : List Value} {Qc : Array Value → State → Outcome → State → Prop} (hy : plainName y.cls = true) (hn : (lg_sl av).length ≤ maxL)
    (body : ∀ (p : Program) (e : Env) (s : State) (m : MethodId) (args : Array Value) (below : List Frame) (meth : Method) (c : Code), Cx p E base s m args meth c cc maxL y.cls → meth.sig.returnType = ret → GW E base s σ s.heap [] → ∀ ls : Array Slot, lv_has ls maxL (lv_args 0 av) →
      W p l e rm s m args below meth c s.heap [] 0 0 (MQ below Qc args s rm.cells rm.slots (fun q => base ≤ q)) (F0 m 0 ls [])) : Met l y (wy y cc maxL ret) rm (va_Pc av (fun U => SW E base σ U)) Qc rm.cells rm.slots (fun q => base ≤ q) := by
  refine Met.ofW (cc := cc) (maxL := maxL) (ret := ret) hy rfl ?_
  intro p e s m args below meth c s₁ B hml hv
  obtain ⟨rfl, hP, hD, hK, hbs, hz⟩ := hv
  have hts := atoms_spec (ws := wy y cc maxL ret) B.pre
  have hl := lv_entry av (n := maxL) hn
  rw [lg_entry_eq]
  exact body p e s m _ below meth c ⟨B.exec, B.bytes, hml, findClass_of_methodNamed B.named, fun w hw => hts w (List.mem_cons_of_mem _ hw), B.notSynchronized, hK, hbs, hz⟩ B.returns ⟨hP, hD, va_S.rf⟩ _ hl
theorem gx_iret (C : Cx p E base s m args meth c cc nL own) (hr : meth.sig.returnType = some .int) (g : GW E base s σ H locs) {QQ : Int32 → St → Prop} {v : Int32} (hdg : decode cc pc = .ok (.ireturn, 1)) (h : QQ v σ) :
    W p l e R s m args below meth c H locs cells slots (MQ below (QI E base QQ) args s cells slots (fun q => base ≤ q)) (F0 m pc ls [.int v]) :=
  W.iret C.1 C.2.1 hr (fun t ht hW => ⟨⟨v, σ, rfl, h, g.out C ht hW⟩, g.2.2.F ht⟩) g.2.2.2.2 hdg C.2.2.2.2.2.1
theorem gx_zret (C : Cx p E base s m args meth c cc nL own) {ty : FieldType} (hr : meth.sig.returnType = some ty) (g : GW E base s σ H locs) {QQ : Int32 → St → Prop} {v : Int32} (hdg : decode cc pc = .ok (.ireturn, 1)) (hn : narrow ty (.int v) = .int v) (h : QQ v σ) :
    W p l e R s m args below meth c H locs cells slots (MQ below (QI E base QQ) args s cells slots (fun q => base ≤ q)) (F0 m pc ls [.int v]) :=
  W.zret C.1 C.2.1 hr hn (fun t ht hW => ⟨⟨v, σ, rfl, h, g.out C ht hW⟩, g.2.2.F ht⟩) g.2.2.2.2 hdg C.2.2.2.2.2.1
theorem gx_lret (C : Cx p E base s m args meth c cc nL own) (hr : meth.sig.returnType = some .long) (g : GW E base s σ H locs) {QQ : Int64 → St → Prop} {v : Int64} (hdg : decode cc pc = .ok (.lreturn, 1)) (h : QQ v σ) :
    W p l e R s m args below meth c H locs cells slots (MQ below (QL E base QQ) args s cells slots (fun q => base ≤ q)) (F0 m pc ls [.long v]) :=
  W.lret C.1 C.2.1 hr (fun t ht hW => ⟨⟨v, σ, rfl, h, g.out C ht hW⟩, g.2.2.F ht⟩) g.2.2.2.2 hdg C.2.2.2.2.2.1
theorem gx_vret (C : Cx p E base s m args meth c cc nL own) (hr : meth.sig.returnType = none) (g : GW E base s σ H locs) {QQ : St → Prop} (hdg : decode cc pc = .ok (.return_, 1)) (h : QQ σ) :
    W p l e R s m args below meth c H locs cells slots (MQ below (QV E base QQ) args s cells slots (fun q => base ≤ q)) (F0 m pc ls []) :=
  W.vret C.1 C.2.1 hr (fun t ht hW => ⟨⟨σ, rfl, h, g.out C ht hW⟩, g.2.2.F ht⟩) g.2.2.2.2 hdg C.2.2.2.2.2.1
/-- a method of an object, by its words -/
def MB (y : MethodName) (C : String) (bytes : ByteArray) (n : Nat) (ret : Option FieldType) (np : Nat) : Prop := Cond.code y bytes n ret ∈ tb ∧ Cond.instanceMethod y ∈ tb ∧ Cond.selects C y y ∈ tb ∧ Cond.initialized C ∈ tb ∧ (y.cls = C ∧ y.cls ≠ "java/lang/invoke/MethodHandle" ∧ y.cls ≠ "java/lang/invoke/VarHandle" ∧ (parseMethodDescriptor y.desc).map (fun d => d.parameters.length) = some np)
def MS (y : MethodName) (bytes : ByteArray) (n : Nat) (ret : Option FieldType) (np : Nat) : Prop := Cond.code y bytes n ret ∈ tb ∧ Cond.static y ∈ tb ∧ Cond.initialized y.cls ∈ tb ∧ (y.cls ≠ "java/lang/invoke/MethodHandle" ∧ y.cls ≠ "java/lang/invoke/VarHandle" ∧ (parseMethodDescriptor y.desc).map (fun d => d.parameters.length) = some np)
theorem gx_runV (C : Cx p E base s m args meth c cc nL own) (g : GW E base s σ H locs) {y : MethodName} {bytes : ByteArray} {n np index k ci : Nat} {fs : List (Option Nat)} {ret : Option FieldType} {rm : Room} {Cn : String} {T : u_T} {N : Nat} {As : List Value} {Qc : Array Value → State → Outcome → State → Prop} (hb : MB y Cn bytes n ret np) (hl : Cond.methodLink own index y ∈ tb) (hc : vwCl[ci]? = some (Cn, T, N)) (hs : shs[k]? = some (.inl (ci, fs)))
    (hM : Met l y (wy y bytes n ret) rm (va_Pc (.ref (ga E k) :: As) (fun U => SW E base σ U)) Qc rm.cells rm.slots (fun q => base ≤ q)) (hR : rm.frames + 1 ≤ R.frames ∧ 8 + (n + 11) + rm.locals ≤ R.locals) (hcs : cells + rm.cells ≤ R.cells ∧ slots + rm.slots ≤ R.slots)
    (hn : As.length = np) (hls : ls.size = nL) {st : List Value} (hst : st = As.reverse ++ .ref (ga E k) :: rest) (hcat : (rest.map fun v => v.category).sum ≤ 8) (hdg : decode cc pc = .ok (.invokevirtual index, 3)) :
    va_Run p l e R s m args below meth c H locs cells slots rm.cells rm.slots (F0 m pc ls st) rest (Qc (Value.ref (ga E k) :: As).toArray) (fun q => base ≤ q) := by
  obtain ⟨h1, h2, h3, h4, h5⟩ := hb
  have hC := C
  obtain ⟨hx, hcb, hml, hown, hts, -, hK, -⟩ := C
  refine va_runV (C := Cn) (b := ga E k) (As := As) (Ts := tb) ⟨hx, hcb, hml, hown, hts⟩ hM (cwV np hts (tb_gi (fun w hw => ?_)) rfl rfl rfl h5 hR) ⟨SW.blind, va_recv hK g.1 hc (wx_obj hs), fun U hU hW => ⟨rfl, g.out hC hU hW⟩⟩ rfl hn hls hst (lv_room hcat) hdg hcs
  rcases List.mem_append.mp hw with q | q
  · simp only [List.mem_cons, List.not_mem_nil, or_false] at q
    rcases q with rfl | rfl | rfl | rfl
    · exact hl
    · exact h2
    · exact h3
    · exact h4
  · exact wy_in h1 w q
theorem gx_runS (C : Cx p E base s m args meth c cc nL own) (g : GW E base s σ H locs) {y : MethodName} {bytes : ByteArray} {n np index : Nat} {ret : Option FieldType} {rm : Room} {As : List Value} {Qc : Array Value → State → Outcome → State → Prop} (hb : MS y bytes n ret np) (hl : Cond.methodLink own index y ∈ tb)
    (hM : Met l y (wy y bytes n ret) rm (va_Pc As (fun U => SW E base σ U)) Qc rm.cells rm.slots (fun q => base ≤ q)) (hR : rm.frames + 1 ≤ R.frames ∧ 8 + (n + 11) + rm.locals ≤ R.locals) (hcs : cells + rm.cells ≤ R.cells ∧ slots + rm.slots ≤ R.slots)
    (hn : As.length = np) (hls : ls.size = nL) {st : List Value} (hst : st = As.reverse ++ rest) (hcat : (rest.map fun v => v.category).sum ≤ 8) (hdg : decode cc pc = .ok (.invokestatic index, 3)) :
    va_Run p l e R s m args below meth c H locs cells slots rm.cells rm.slots (F0 m pc ls st) rest (Qc As.toArray) (fun q => base ≤ q) := by
  obtain ⟨h1, h2, h3, h4⟩ := hb
  have hC := C
  obtain ⟨hx, hcb, hml, hown, hts, -, hK, -⟩ := C
  refine va_runS (As := As) (Ts := tb) ⟨hx, hcb, hml, hown, hts⟩ hM (va_cwS np hts (tb_gi (fun w hw => ?_)) rfl rfl rfl h4 hR) ⟨SW.blind, fun U hU hW => ⟨rfl, g.out hC hU hW⟩⟩ rfl hn hls hst (lv_room hcat) hdg hcs
  rcases List.mem_append.mp hw with q | q
  · simp only [List.mem_cons, List.not_mem_nil, or_false] at q
    rcases q with rfl | rfl | rfl
    · exact hl
    · exact h2
    · exact h3
  · exact wy_in h1 w q
theorem gx_calli (g : GW E base s σ H locs) {st0 : List Value} {mc ms : Nat} {QQ : Int32 → St → Prop} {a : Array Value} (hr : va_Run p l e R s m args below meth c H locs cells slots mc ms (F0 m pc ls st0) rest (QI E base QQ a) (fun q => base ≤ q))
    (kk : ∀ (r : Int32) (τ : St) (H1 : Heap) (locs1 : List Loc), QQ r τ → GW E base s τ H1 locs1 → W p l e R s m args below meth c H1 locs1 (cells + mc) (slots + ms) Q (F0 m (pc + 3) ls (.int r :: rest))) : W p l e R s m args below meth c H locs cells slots Q (F0 m pc ls st0) := by
  refine va_calli hr g.2.2 (fun _ _ h => h) (fun _ h => h) (fun r τ t H1 locs1 ht hvm hq hB hz hk hS => ?_)
  exact kk r τ H1 locs1 hq ⟨by rw [← ht]; exact hB.1, hB.2.1, hS⟩
theorem gx_calll (g : GW E base s σ H locs) {st0 : List Value} {mc ms : Nat} {QQ : Int64 → St → Prop} {a : Array Value} (hr : va_Run p l e R s m args below meth c H locs cells slots mc ms (F0 m pc ls st0) rest (QL E base QQ a) (fun q => base ≤ q))
    (kk : ∀ (r : Int64) (τ : St) (H1 : Heap) (locs1 : List Loc), QQ r τ → GW E base s τ H1 locs1 → W p l e R s m args below meth c H1 locs1 (cells + mc) (slots + ms) Q (F0 m (pc + 3) ls (.long r :: rest))) : W p l e R s m args below meth c H locs cells slots Q (F0 m pc ls st0) := by
  refine va_calll hr g.2.2 (fun _ _ h => h) (fun _ h => h) (fun r τ t H1 locs1 ht hvm hq hB hz hk hS => ?_)
  exact kk r τ H1 locs1 hq ⟨by rw [← ht]; exact hB.1, hB.2.1, hS⟩
theorem gx_callv (g : GW E base s σ H locs) {st0 : List Value} {mc ms : Nat} {QQ : St → Prop} {a : Array Value} (hr : va_Run p l e R s m args below meth c H locs cells slots mc ms (F0 m pc ls st0) rest (QV E base QQ a) (fun q => base ≤ q))
    (kk : ∀ (τ : St) (H1 : Heap) (locs1 : List Loc), QQ τ → GW E base s τ H1 locs1 → W p l e R s m args below meth c H1 locs1 (cells + mc) (slots + ms) Q (F0 m (pc + 3) ls rest)) : W p l e R s m args below meth c H locs cells slots Q (F0 m pc ls st0) := by
  refine va_callv hr g.2.2 (fun _ _ h => h) (fun _ h => h) (fun τ t H1 locs1 ht hvm hq hB hz hk hS => ?_)
  exact kk τ H1 locs1 hq ⟨by rw [← ht]; exact hB.1, hB.2.1, hS⟩
end RW
