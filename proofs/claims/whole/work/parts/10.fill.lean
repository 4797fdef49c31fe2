/-! Whole arrays: fill, arraycopy; an array's numbers beyond its length are nobody's. -/
set_option maxRecDepth 100000 in
theorem ac_stat : Cond.static arraycopyName ∈ tb := tb3 62 rfl rfl
set_option maxRecDepth 100000 in
theorem ac_nat : Cond.native arraycopyName ∈ tb := tb3 63 rfl rfl
set_option maxRecDepth 100000 in
theorem ac_ini : Cond.initialized "java/lang/System" ∈ tb := tb1 20 rfl rfl
set_option maxRecDepth 100000 in
theorem al_J7_150 : Cond.methodLink RJ7 150 arraycopyName ∈ tb := tb3 61 rfl rfl
set_option maxRecDepth 100000 in
theorem al_X7_36 : Cond.methodLink RX7 36 arraycopyName ∈ tb := tb4 109 rfl rfl
set_option maxRecDepth 100000 in
theorem al_X5_65 : Cond.methodLink RX5 65 arraycopyName ∈ tb := tb4 132 rfl rfl
theorem pa_pa {σ : St} {k : Nat} {f g : Nat → Int32} : pa (pa σ k f) k g = pa σ k g := by
  unfold pa
  congr 1
  funext a
  by_cases h : a = k <;> simp [h]
theorem pv_pa {σ : St} {k j : Nat} {f : Nat → Int32} {x : Int32} : pv (pa σ k f) k j x = pa σ k (upd f j x) := by
  unfold pv
  rw [gr_pa_eq, pa_pa]
theorem pa_self {σ : St} {k : Nat} : pa σ k (gr σ k) = σ := by
  unfold pa gr
  have e : (fun a => if a = k then σ.1 k else σ.1 a) = σ.1 := by
    funext a
    by_cases h : a = k <;> simp [h]
  rw [e]
theorem vp_cell_congr {cA : ClassId} {n : Nat} {f g : Nat → Int32} (h : ∀ j, j < n → f j = g j) : vp_cell cA (n, .inl f) = vp_cell cA (n, .inl g) := by
  rw [vp_cell_i, vp_cell_i]
  unfold arrV
  congr 2
  funext j
  show Value.int (f j.val) = Value.int (g j.val)
  rw [h j.val j.isLt]
theorem GW.congr {E : EE} {base : Nat} {s : State} {σ : St} {H : Heap} {locs : List Loc} {k t n : Nat} {rs : List Nat} {f g : Nat → Int32} (hs : shs[k]? = some (.inr (t, some n, rs))) (ht : t < 3) (h : ∀ j, j < n → f j = g j) (w : GW E base s (pa σ k f) H locs) : GW E base s (pa σ k g) H locs := by
  obtain ⟨hP, hD, hS⟩ := w
  have e : (wx E (pa σ k f)).set k (ga E k, .inl (E.2.1 t, n, .inl g)) = wx E (pa σ k g) := by rw [wx_pa hs ht, pa_pa]
  have h0 : (wx E (pa σ k f))[k]? = some (ga E k, .inl (E.2.1 t, n, .inl f)) := by rw [wx_int hs ht, gr_pa_eq]
  refine ⟨?_, ?_, hS⟩
  · intro i q hq
    rw [← e, List.getElem?_set] at hq
    by_cases hi : k = i
    · subst hi
      have hk : k < (wx E (pa σ k f)).length := (List.getElem?_eq_some_iff.mp h0).1
      rw [if_pos rfl, if_pos hk] at hq
      cases hq
      have := hP k _ h0
      show H[ga E k]? = some (vp_cell _ _)
      rw [← vp_cell_congr h]
      exact this
    · rw [if_neg hi] at hq
      exact hP i q hq
  · rw [← e]
    exact hD.set h0
section RF
variable {p : Program} {l : Launch} {e : Env} {R : Room} {s : State} {m : MethodId} {args : Array Value} {below : List Frame} {meth : Method} {c : Code} {H : Heap} {locs : List Loc} {cells slots : Nat} {Q : State → Prop}
variable {cc : ByteArray} {pc nL : Nat} {ls : Array Slot} {rest : List Value} {E : EE} {base : Nat} {σ : St} {own : String}
theorem gx_ldc_w (C : Cx p E base s m args meth c cc nL own) {index : Nat} {v : Int32} (hk : Cond.constant own index v ∈ tb) (hdg : decode cc pc = .ok (.ldc_w index, 3)) (k : W p l e R s m args below meth c H locs cells slots Q (F0 m (pc + 3) ls (.int v :: rest))) : W p l e R s m args below meth c H locs cells slots Q (F0 m pc ls rest) := lv_ldcw C.1 C.2.1 C.2.2.2.1 (C.2.2.2.2.1 _ hk) hdg k
abbrev rmJ7_fill_53178 : Room := { frames := 0, cells := 0, slots := 0, locals := 0 }
set_option maxHeartbeats 4000000 in
theorem tFill (C : Cx p E base s m args meth c cJ7_fill_53178 4 RJ7) (hr : meth.sig.returnType = none) {QQ : St → Prop} {k n : Nat} {rs : List Nat} (hs : shs[k]? = some (.inr (0, some n, rs))) (hn : n < 2 ^ 31) {v : Int32} (hq : QQ (pa σ k (fun _ => v))) : ∀ (d i : Nat) (H : Heap) (locs : List Loc) (ls : Array Slot), i + d = n → lv_has ls 4 [(0, .ref (ga E k)), (1, .int v), (2, .int (nI i)), (3, .int (nI n))] → GW E base s (pa σ k (fun j => if j < i then v else gr σ k j)) H locs → W p l e rmJ7_fill_53178 s m args below meth c H locs 0 0 (MQ below (QV E base QQ) args s 0 0 (fun q => base ≤ q)) (F0 m 5 ls []) := by
  intro d
  induction d with
  | zero =>
    intro i H locs ls hi hl g
    refine lv_iload_n C.1 C.2.1 dJ7_fill_53178_5 rfl (lv_at hl 2 rfl) ?_
    refine lv_iload_n C.1 C.2.1 dJ7_fill_53178_6 rfl (lv_at hl 3 rfl) ?_
    refine lv_icmp_ge (tgt := 20) C.1 C.2.1 dJ7_fill_53178_7 (by decide) (fun _ => ?_) (fun c1 => absurd (nI_le (a := n) (b := i) (by omega) (by omega)) c1)
    exact gx_vret C hr (g.congr hs (by decide) (g := fun _ => v) (fun j hj => if_pos (by omega))) dJ7_fill_53178_20 hq
  | succ d ih =>
    intro i H locs ls hi hl g
    refine lv_iload_n C.1 C.2.1 dJ7_fill_53178_5 rfl (lv_at hl 2 rfl) ?_
    refine lv_iload_n C.1 C.2.1 dJ7_fill_53178_6 rfl (lv_at hl 3 rfl) ?_
    refine lv_icmp_ge (tgt := 20) C.1 C.2.1 dJ7_fill_53178_7 (by decide) (fun c1 => absurd c1 (nI_ge (by omega) hn)) (fun _ => ?_)
    refine lv_aload_n C.1 C.2.1 dJ7_fill_53178_10 rfl (lv_at hl 0 rfl) ?_
    refine lv_iload_n C.1 C.2.1 dJ7_fill_53178_11 rfl (lv_at hl 2 rfl) ?_
    refine lv_iload_n C.1 C.2.1 dJ7_fill_53178_12 rfl (lv_at hl 1 rfl) ?_
    refine gx_iast C g dJ7_fill_53178_13 hs (vp_in_nI (by omega) hn) (fun H locs τ e g => ?_)
    refine lv_iinc (v := nI (i + 1)) (lv' := [(2, .int (nI (i + 1))), (0, .ref (ga E k)), (1, .int v), (3, .int (nI n))]) C.1 C.2.1 dJ7_fill_53178_14 hl (k := 2) rfl (nI_1 i) (by decide) rfl (fun ls hl => ?_)
    refine lv_goto (tgt := 5) C.1 C.2.1 dJ7_fill_53178_17 (by decide) ?_
    refine ih (i + 1) H locs ls (by omega) (lv_sub hl [1, 2, 0, 3] rfl) ?_
    rw [e, pv_pa, nI_clamp (by omega)] at g
    have e2 : upd (fun j => if j < i then v else gr σ k j) i v = (fun j => if j < i + 1 then v else gr σ k j) := by
      funext j
      unfold upd
      by_cases h1 : j = i
      · subst h1
        rw [if_pos rfl, if_pos (by omega)]
      · rw [if_neg h1]
        show (if j < i then v else gr σ k j) = if j < i + 1 then v else gr σ k j
        by_cases h2 : j < i
        · rw [if_pos h2, if_pos (by omega)]
        · rw [if_neg h2, if_neg (by omega)]
    rw [e2] at g
    exact g
theorem mFill {k n : Nat} {rs : List Nat} (hs : shs[k]? = some (.inr (0, some n, rs))) (hn : n < 2 ^ 31) (v : Int32) {QQ : St → Prop} (hq : QQ (pa σ k (fun _ => v))) : Met l yJ7_fill_53178 (wy yJ7_fill_53178 cJ7_fill_53178 4 none) rmJ7_fill_53178 (va_Pc [.ref (ga E k), .int v] (fun U => SW E base σ U)) (QV E base QQ) (rmJ7_fill_53178).cells (rmJ7_fill_53178).slots (fun q => base ≤ q) := by
  refine met_of (by decide) (Nat.le_of_ble_eq_true rfl) (fun p e s m args below meth c C hr g ls hl => ?_)
  refine lv_iconst (v := 0) C.1 C.2.1 dJ7_fill_53178_0 (by decide) ?_
  refine lv_istore_n (lv' := [(2, .int 0), (0, .ref (ga E k)), (1, .int v)]) C.1 C.2.1 dJ7_fill_53178_1 rfl hl (by decide) rfl (fun ls hl => ?_)
  refine lv_aload_n C.1 C.2.1 dJ7_fill_53178_2 rfl (lv_at hl 1 rfl) ?_
  refine gx_alen C g dJ7_fill_53178_3 hs (by decide) ?_
  refine lv_istore_n (lv' := [(3, .int (nI n)), (2, .int 0), (0, .ref (ga E k)), (1, .int v)]) C.1 C.2.1 dJ7_fill_53178_4 rfl hl (by decide) rfl (fun ls hl => ?_)
  refine tFill C hr hs hn hq n 0 _ _ ls (by omega) (lv_sub hl [2, 3, 1, 0] rfl) ?_
  have e2 : (fun j => if j < 0 then v else gr σ k j) = gr σ k := by
    funext j
    exact if_neg (Nat.not_lt_zero j)
  rw [e2, pa_self]
  exact g
/-- arraycopy of a whole row onto another -/
theorem gx_copy (C : Cx p E base s m args meth c cc nL own) (g : GW E base s σ H locs) {k0 k1 n index : Nat} {r0 r1 : List Nat} {N : Int32} (hk : Cond.methodLink own index arraycopyName ∈ tb) (hls : ls.size = nL) (hf : 1 ≤ R.frames) (hlo : (rest.map fun v => v.category).sum + (nativeFrameWords "java/lang/System" "arraycopy" 5 + 11) ≤ R.locals)
    (hs0 : shs[k0]? = some (.inr (0, some n, r0))) (hs1 : shs[k1]? = some (.inr (0, some n, r1))) (hN : N = nI n) (hn : n < 2 ^ 31) (hdg : decode cc pc = .ok (.invokestatic index, 3))
    (kk : ∀ (H1 : Heap) (locs1 : List Loc) (τ : St), τ = pa σ k1 (gr σ k0) → GW E base s τ H1 locs1 → W p l e R s m args below meth c H1 locs1 cells slots Q (F0 m (pc + 3) ls rest)) : W p l e R s m args below meth c H locs cells slots Q (F0 m pc ls (.int N :: .int 0 :: .ref (ga E k1) :: .int 0 :: .ref (ga E k0) :: rest)) := by
  subst hN
  have hC := C
  obtain ⟨hx, hb, hml, hown, hts, -, hK, -⟩ := C
  obtain ⟨hP, hD, hS⟩ := g
  have h3 : (nI n).toNatClampNeg = n := nI_clamp hn
  refine va_copyi hx hb (hml.trans hls.symm) hown (hts _ hk) (hts _ ac_nat) (hts _ ac_stat) (hts _ ac_ini) hK hP hD hS k0 k1 0 0 (wx_int hs0 (by decide)) (wx_int hs1 (by decide)) rfl rfl rfl (by decide) (by decide) (nI_pos hn) (by rw [h3]; exact Nat.le_of_eq (Nat.zero_add n)) (by rw [h3]; exact Nat.le_of_eq (Nat.zero_add n)) (fun i _ => rfl) hf hlo hdg (fun H1 locs1 h1 h2 h4 => ?_)
  rw [wx_pa hs1 (by decide)] at h1 h2
  refine kk H1 locs1 _ rfl ?_
  refine GW.congr (f := va_cpy (gr σ k0) (gr σ k1) (Int32.toNatClampNeg 0) (Int32.toNatClampNeg 0) (nI n).toNatClampNeg) hs1 (by decide) (fun j hj => ?_) ⟨h1, h2, h4⟩
  rw [h3]
  exact (if_pos ⟨Nat.zero_le _, by show j < 0 + n; omega⟩).trans (by show gr σ k0 (0 + (j - 0)) = _; rw [Nat.zero_add, Nat.sub_zero])
end RF
