/-! More rows: stages by a variable, constants, max and min, switches, calls that make nothing. -/
def Stg (k : Nat) : Prop := ∃ i, i < 8 ∧ k = 100 + 13 * i
theorem stg_cases {k : Nat} {P : Nat → Prop} (h : Stg k) (h0 : P 100) (h1 : P 113) (h2 : P 126) (h3 : P 139) (h4 : P 152) (h5 : P 165) (h6 : P 178) (h7 : P 191) : P k := by
  obtain ⟨i, hi, rfl⟩ := h
  rcases (show i = 0 ∨ i = 1 ∨ i = 2 ∨ i = 3 ∨ i = 4 ∨ i = 5 ∨ i = 6 ∨ i = 7 by omega) with rfl | rfl | rfl | rfl | rfl | rfl | rfl | rfl
  · exact h0
  · exact h1
  · exact h2
  · exact h3
  · exact h4
  · exact h5
  · exact h6
  · exact h7
theorem stg_100 : Stg 100 := ⟨0, by decide, rfl⟩
theorem stg_113 : Stg 113 := ⟨1, by decide, rfl⟩
set_option maxRecDepth 100000 in
theorem stg_obj {k : Nat} (h : Stg k) : shs[k]? = some (.inl (7, [some (k + 1), some (k + 2), none, none, none])) := stg_cases (P := fun k => shs[k]? = some (.inl (7, [some (k + 1), some (k + 2), none, none, none]))) h sh_100 sh_113 sh_126 sh_139 sh_152 sh_165 sh_178 sh_191
set_option maxRecDepth 100000 in
theorem stg_row {k : Nat} (h : Stg k) : shs[k + 1]? = some (.inr (5, some 10, [k + 3, k + 4, k + 5, k + 6, k + 7, k + 8, k + 9, k + 10, k + 11, k + 12])) := stg_cases (P := fun k => shs[k + 1]? = some (.inr (5, some 10, [k + 3, k + 4, k + 5, k + 6, k + 7, k + 8, k + 9, k + 10, k + 11, k + 12]))) h sh_101 sh_114 sh_127 sh_140 sh_153 sh_166 sh_179 sh_192
set_option maxRecDepth 100000 in
theorem stg_arr {k : Nat} (h : Stg k) (j : Nat) (h1 : 2 ≤ j) (h2 : j ≤ 12) : shs[k + j]? = some (.inr (0, some 7, [])) := by
  obtain ⟨i, hi, rfl⟩ := h
  have ha : ((List.range 8).all fun i => (List.range 11).all fun j => decide (shs[100 + 13 * i + (j + 2)]? = some (.inr (0, some 7, [])))) = true := by decide +kernel
  have hb := List.all_eq_true.mp (List.all_eq_true.mp ha i (List.mem_range.mpr hi)) (j - 2) (List.mem_range.mpr (by omega))
  have hc := of_decide_eq_true hb
  rw [show j - 2 + 2 = j by omega] at hc
  exact hc
theorem vp_lt {i : Int32} {n : Nat} (h : vp_in i n) : i.toNatClampNeg < n := Nat.not_le.mp fun q => h (Or.inr q)
theorem stg_arrx {k : Nat} (h : Stg k) {i : Int32} (hi : vp_in i 10) : shs[k + (3 + i.toNatClampNeg)]? = some (.inr (0, some 7, [])) := stg_arr h _ (by omega) (by have := vp_lt hi; omega)
theorem stg_ne {k : Nat} (h : Stg k) (j : Nat) : k + j ≠ 36 := by
  obtain ⟨i, hi, rfl⟩ := h
  omega
theorem stg_nex {k : Nat} (h : Stg k) {j : Nat} : k + (3 + j) ≠ 36 := stg_ne h _
theorem stg_rowx (k : Nat) {i : Int32} (hi : vp_in i 10) : [k + 3, k + 4, k + 5, k + 6, k + 7, k + 8, k + 9, k + 10, k + 11, k + 12][i.toNatClampNeg]? = some (k + (3 + i.toNatClampNeg)) := by
  have h := vp_lt hi
  generalize i.toNatClampNeg = j at h ⊢
  rcases (show j = 0 ∨ j = 1 ∨ j = 2 ∨ j = 3 ∨ j = 4 ∨ j = 5 ∨ j = 6 ∨ j = 7 ∨ j = 8 ∨ j = 9 by omega) with rfl | rfl | rfl | rfl | rfl | rfl | rfl | rfl | rfl | rfl <;> rfl
theorem stg_of {i : Int32} (hi : vp_in i 6) : Stg (126 + 13 * i.toNatClampNeg) := ⟨2 + i.toNatClampNeg, by have := vp_lt hi; omega, by omega⟩
theorem stg_at {i : Int32} (hi : vp_in i 6) : [126, 139, 152, 165, 178, 191][i.toNatClampNeg]? = some (126 + 13 * i.toNatClampNeg) := by
  have h := vp_lt hi
  generalize i.toNatClampNeg = j at h ⊢
  rcases (show j = 0 ∨ j = 1 ∨ j = 2 ∨ j = 3 ∨ j = 4 ∨ j = 5 by omega) with rfl | rfl | rfl | rfl | rfl | rfl <;> rfl
theorem vi_0 : vp_in 0 10 := by unfold vp_in; decide
theorem vi_1 : vp_in 1 10 := by unfold vp_in; decide
theorem vi_2 : vp_in 2 10 := by unfold vp_in; decide
theorem vi_3 : vp_in 3 10 := by unfold vp_in; decide
theorem vi_4 : vp_in 4 10 := by unfold vp_in; decide
theorem vi_5 : vp_in 5 10 := by unfold vp_in; decide
theorem vi_6 : vp_in 6 10 := by unfold vp_in; decide
theorem vi_7 : vp_in 7 10 := by unfold vp_in; decide
theorem vi_8 : vp_in 8 10 := by unfold vp_in; decide
theorem vi_9 : vp_in 9 10 := by unfold vp_in; decide
abbrev jmax (x y : Int32) : Int32 := if x < y then y else x
abbrev jmin (x y : Int32) : Int32 := if y < x then y else x
section RX
variable {p : Program} {l : Launch} {e : Env} {R : Room} {s : State} {m : MethodId} {args : Array Value} {below : List Frame} {meth : Method} {c : Code} {H : Heap} {locs : List Loc} {cells slots : Nat} {Q : State → Prop}
variable {cc : ByteArray} {pc nL : Nat} {ls : Array Slot} {rest : List Value} {E : EE} {base : Nat} {σ : St} {own : String}
theorem gx_ldc (C : Cx p E base s m args meth c cc nL own) {index : Nat} {v : Int32} (hk : Cond.constant own index v ∈ tb) (hdg : decode cc pc = .ok (.ldc index, 2)) (k : W p l e R s m args below meth c H locs cells slots Q (F0 m (pc + 2) ls (.int v :: rest))) : W p l e R s m args below meth c H locs cells slots Q (F0 m pc ls rest) := lv_ldc C.1 C.2.1 C.2.2.2.1 (C.2.2.2.2.1 _ hk) hdg k
theorem gx_ldc2 (C : Cx p E base s m args meth c cc nL own) {index : Nat} {v : Int64} (hk : Cond.constantLong own index v ∈ tb) (hdg : decode cc pc = .ok (.ldc2_w index, 3)) (k : W p l e R s m args below meth c H locs cells slots Q (F0 m (pc + 3) ls (.long v :: rest))) : W p l e R s m args below meth c H locs cells slots Q (F0 m pc ls rest) := lv_ldc2 C.1 C.2.1 C.2.2.2.1 (C.2.2.2.2.1 _ hk) hdg k
theorem gx_max (C : Cx p E base s m args meth c cc nL own) {index : Nat} (hk : Cond.methodLink own index yJ9_max_7cf53 ∈ tb) (hls : ls.size = nL) (hf : 1 ≤ R.frames) (hlo : (rest.map fun v => v.category).sum + 13 ≤ R.locals) (hc : cells ≤ R.cells) (hs : slots ≤ R.slots) {x y : Int32} (hdg : decode cc pc = .ok (.invokestatic index, 3))
    (kk : W p l e R s m args below meth c H locs cells slots Q (F0 m (pc + 3) ls (.int (jmax x y) :: rest))) : W p l e R s m args below meth c H locs cells slots Q (F0 m pc ls (.int y :: .int x :: rest)) := by
  obtain ⟨hx, hb, hml, hown, hts, -⟩ := C
  obtain ⟨h1, h2, h3, -⟩ := ms_J9_max_7cf53
  exact va_mmax hx hb (hml.trans hls.symm) hown (hts _ hk) (hts _ h2) (hts _ h3) (hts _ h1) hf hlo hc hs hdg kk
theorem gx_min (C : Cx p E base s m args meth c cc nL own) {index : Nat} (hk : Cond.methodLink own index yJ9_min_7cf53 ∈ tb) (hls : ls.size = nL) (hf : 1 ≤ R.frames) (hlo : (rest.map fun v => v.category).sum + 13 ≤ R.locals) (hc : cells ≤ R.cells) (hs : slots ≤ R.slots) {x y : Int32} (hdg : decode cc pc = .ok (.invokestatic index, 3))
    (kk : W p l e R s m args below meth c H locs cells slots Q (F0 m (pc + 3) ls (.int (jmin x y) :: rest))) : W p l e R s m args below meth c H locs cells slots Q (F0 m pc ls (.int y :: .int x :: rest)) := by
  obtain ⟨hx, hb, hml, hown, hts, -⟩ := C
  obtain ⟨h1, h2, h3, -⟩ := ms_J9_min_7cf53
  exact va_mmin hx hb (hml.trans hls.symm) hown (hts _ hk) (hts _ h2) (hts _ h3) (hts _ h1) hf hlo hc hs hdg kk
theorem gx_tabI (hexec : p.tables.exec = Jvm.exec) (hb : c.code = cc) {dflt lo hi : Int} {offs : Array Int} {len : Nat} {x : Int32} {off : Int} {tgt : Nat} (hdg : decode cc pc = .ok (.tableswitch dflt lo hi offs, len)) {k : Int32} (hk : x = k) (ho : ¬ k.toInt < lo ∧ ¬ hi < k.toInt ∧ offs[(k.toInt - lo).toNat]? = some off) (ht : (pc : Int) + off = (tgt : Int))
    (kk : W p l e R s m args below meth c H locs cells slots Q (F0 m tgt ls rest)) : W p l e R s m args below meth c H locs cells slots Q (F0 m pc ls (.int x :: rest)) := by
  subst hk
  exact lv_tableIn hexec hb hdg ho.1 ho.2.1 ho.2.2 ht kk
theorem gx_tabD (hexec : p.tables.exec = Jvm.exec) (hb : c.code = cc) {dflt lo hi : Int} {offs : Array Int} {len : Nat} {x : Int32} {tgt : Nat} (hdg : decode cc pc = .ok (.tableswitch dflt lo hi offs, len)) (cs : List Int32) (hcs : ∀ k ∈ cs, ¬ x = k) (hall : (List.range offs.size).all (fun j => offs[j]? == some dflt || cs.any (fun k => k.toInt == lo + j)) = true) (hsz : hi - lo + 1 = offs.size) (ht : (pc : Int) + dflt = (tgt : Int))
    (kk : W p l e R s m args below meth c H locs cells slots Q (F0 m tgt ls rest)) : W p l e R s m args below meth c H locs cells slots Q (F0 m pc ls (.int x :: rest)) := by
  by_cases h : x.toInt < lo ∨ hi < x.toInt
  · exact lv_tableOut hexec hb hdg h ht kk
  · have h1 : ¬ x.toInt < lo := fun q => h (Or.inl q)
    have h2 : ¬ hi < x.toInt := fun q => h (Or.inr q)
    have hj : (x.toInt - lo).toNat < offs.size := by omega
    have hq := List.all_eq_true.mp hall (x.toInt - lo).toNat (List.mem_range.mpr hj)
    rcases Bool.or_eq_true_iff.mp hq with hq | hq
    · exact lv_tableIn hexec hb hdg h1 h2 (by simpa using hq) ht kk
    · exfalso
      obtain ⟨k, hk, hke⟩ := List.any_eq_true.mp hq
      have e : k.toInt = lo + ((x.toInt - lo).toNat : Int) := by simpa using hke
      exact hcs k hk (Int32.toInt_inj.mp (by rw [e]; omega))
theorem gx_calli0 (g : GW E base s σ H locs) {st0 : List Value} {mc ms : Nat} {QQ : Int32 → St → Prop} {a : Array Value} (hr : va_Run p l e R s m args below meth c H locs cells slots mc ms (F0 m pc ls st0) rest (QI E base QQ a) (fun q => base ≤ q)) (h1 : mc = 0) (h2 : ms = 0)
    (kk : ∀ (r : Int32) (τ : St) (H1 : Heap) (locs1 : List Loc), QQ r τ → GW E base s τ H1 locs1 → W p l e R s m args below meth c H1 locs1 cells slots Q (F0 m (pc + 3) ls (.int r :: rest))) : W p l e R s m args below meth c H locs cells slots Q (F0 m pc ls st0) := by
  subst h1; subst h2
  exact gx_calli g hr kk
theorem gx_calll0 (g : GW E base s σ H locs) {st0 : List Value} {mc ms : Nat} {QQ : Int64 → St → Prop} {a : Array Value} (hr : va_Run p l e R s m args below meth c H locs cells slots mc ms (F0 m pc ls st0) rest (QL E base QQ a) (fun q => base ≤ q)) (h1 : mc = 0) (h2 : ms = 0)
    (kk : ∀ (r : Int64) (τ : St) (H1 : Heap) (locs1 : List Loc), QQ r τ → GW E base s τ H1 locs1 → W p l e R s m args below meth c H1 locs1 cells slots Q (F0 m (pc + 3) ls (.long r :: rest))) : W p l e R s m args below meth c H locs cells slots Q (F0 m pc ls st0) := by
  subst h1; subst h2
  exact gx_calll g hr kk
theorem gx_callv0 (g : GW E base s σ H locs) {st0 : List Value} {mc ms : Nat} {QQ : St → Prop} {a : Array Value} (hr : va_Run p l e R s m args below meth c H locs cells slots mc ms (F0 m pc ls st0) rest (QV E base QQ a) (fun q => base ≤ q)) (h1 : mc = 0) (h2 : ms = 0)
    (kk : ∀ (τ : St) (H1 : Heap) (locs1 : List Loc), QQ τ → GW E base s τ H1 locs1 → W p l e R s m args below meth c H1 locs1 cells slots Q (F0 m (pc + 3) ls rest)) : W p l e R s m args below meth c H locs cells slots Q (F0 m pc ls st0) := by
  subst h1; subst h2
  exact gx_callv g hr kk
end RX
