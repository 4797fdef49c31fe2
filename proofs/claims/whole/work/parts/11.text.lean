/-! The text constant: length and charAt. -/
set_option maxRecDepth 100000 in
theorem tf_38 : Cond.fieldLink RJ0 38 "java/lang/String" "COMPACT_STRINGS" "Z" ∈ tb := tb2 238 rfl rfl
set_option maxRecDepth 100000 in
theorem tf_9 : Cond.fieldLink RJ0 9 "java/lang/String" "value" "[B" ∈ tb := tb6 174 rfl rfl
set_option maxRecDepth 100000 in
theorem tf_15 : Cond.fieldLink RJ0 15 "java/lang/String" "coder" "B" ∈ tb := tb6 175 rfl rfl
set_option maxRecDepth 100000 in
theorem tf_1053 : Cond.fieldLink RJ0 1053 "jdk/internal/util/Preconditions" "SIOOBE_FORMATTER" "Ljava/util/function/BiFunction;" ∈ tb := tb3 14 rfl rfl
def wch (j : Nat) : Int32 := wbyt.getD j 0
theorem wch_all : ((List.range 184).all fun j => decide (((wch j &&& 255).toUInt32 % 65536).toInt32 = wch j) && decide (narrow .char (.int (wch j)) = .int (wch j))) = true := by decide +kernel
theorem wch_ok {j : Nat} (h : j < 184) : ((wch j &&& 255).toUInt32 % 65536).toInt32 = wch j ∧ narrow .char (.int (wch j)) = .int (wch j) := by
  have q := List.all_eq_true.mp wch_all j (List.mem_range.mpr h)
  have q2 := Bool.and_eq_true_iff.mp q
  exact ⟨of_decide_eq_true q2.1, of_decide_eq_true q2.2⟩
section RT
variable {p : Program} {l : Launch} {e : Env} {R : Room} {s : State} {m : MethodId} {args : Array Value} {below : List Frame} {meth : Method} {c : Code} {H : Heap} {locs : List Loc} {cells slots : Nat} {Q : State → Prop}
variable {cc : ByteArray} {pc nL : Nat} {ls : Array Slot} {rest : List Value} {E : EE} {base : Nat} {σ : St} {own : String}
theorem gx_ldcS (C : Cx p E base s m args meth c cc nL RX9) (hdg : decode cc pc = .ok (.ldc 54, 2)) (k : W p l e R s m args below meth c H locs cells slots Q (F0 m (pc + 2) ls (.ref (ga E 1000) :: rest))) : W p l e R s m args below meth c H locs cells slots Q (F0 m pc ls rest) := by
  obtain ⟨hx, hb, -, hown, -, -, -, -, hz⟩ := C
  exact va_ldcS hx hb hown hz.1 hdg k
theorem gx_runT (C : Cx p E base s m args meth c cc nL own) (g : GW E base s σ H locs) {y : MethodName} {bytes : ByteArray} {n np index : Nat} {ret : Option FieldType} {rm : Room} {As : List Value} {Qc : Array Value → State → Outcome → State → Prop} (hb : MB y "java/lang/String" bytes n ret np) (hl : Cond.methodLink own index y ∈ tb)
    (hM : Met l y (wy y bytes n ret) rm (va_Pc (.ref (ga E 1000) :: As) (fun U => SW E base σ U)) Qc rm.cells rm.slots (fun q => base ≤ q)) (hR : rm.frames + 1 ≤ R.frames ∧ 8 + (n + 11) + rm.locals ≤ R.locals) (hcs : cells + rm.cells ≤ R.cells ∧ slots + rm.slots ≤ R.slots)
    (hn : As.length = np) (hls : ls.size = nL) {st : List Value} (hst : st = As.reverse ++ .ref (ga E 1000) :: rest) (hcat : (rest.map fun v => v.category).sum ≤ 8) (hdg : decode cc pc = .ok (.invokevirtual index, 3)) :
    va_Run p l e R s m args below meth c H locs cells slots rm.cells rm.slots (F0 m pc ls st) rest (Qc (Value.ref (ga E 1000) :: As).toArray) (fun q => base ≤ q) := by
  obtain ⟨h1, h2, h3, h4, h5⟩ := hb
  have hC := C
  obtain ⟨hx, hcb, hml, hown, hts, -, hK, -, hz⟩ := C
  refine va_runV (C := "java/lang/String") (b := ga E 1000) (As := As) (Ts := tb) ⟨hx, hcb, hml, hown, hts⟩ hM (cwV np hts (tb_gi (fun w hw => ?_)) rfl rfl rfl h5 hR) ⟨SW.blind, vk_recv (i := 0) hz.2.1 (by decide) g.2.2, fun U hU hW => ⟨rfl, g.out hC hU hW⟩⟩ rfl hn hls hst (lv_room hcat) hdg hcs
  rcases List.mem_append.mp hw with q | q
  · simp only [List.mem_cons, List.not_mem_nil, or_false] at q
    rcases q with rfl | rfl | rfl | rfl
    · exact hl
    · exact h2
    · exact h3
    · exact h4
  · exact wy_in h1 w q
abbrev rmZZ : Room := { frames := 0, cells := 0, slots := 0, locals := 0 }
theorem mCoder {QQ : Int32 → St → Prop} (h : QQ 0 σ) : Met l yJ0_coder_7d493 (wy yJ0_coder_7d493 cJ0_coder_7d493 1 (some .byte)) rmZZ (va_Pc [.ref (ga E 1000)] (fun U => SW E base σ U)) (QI E base QQ) rmZZ.cells rmZZ.slots (fun q => base ≤ q) := by
  refine met_of (by decide) (Nat.le_of_ble_eq_true rfl) (fun p e s m args below meth c C hr g ls hl => ?_)
  have hz := C.2.2.2.2.2.2.2.2
  refine va_gets (own := RJ0) C.1 C.2.1 hz.2.2.1 g.2.2 C.2.2.2.1 (C.2.2.2.2.1 _ tf_38) (fun _ h => h) dJ0_coder_7d493_0 ?_
  refine lv_if_eq (tgt := 13) C.1 C.2.1 dJ0_coder_7d493_3 (by decide) (fun c => absurd c (by decide)) (fun _ => ?_)
  refine lv_aload_n C.1 C.2.1 dJ0_coder_7d493_6 rfl (lv_at hl 0 rfl) ?_
  refine vk_getf (own := RJ0) C.1 C.2.1 (hz.2.1.1 0 (by decide)).2.1 g.2.2 C.2.2.2.1 (C.2.2.2.2.1 _ tf_15) (fun _ h => h) dJ0_coder_7d493_7 ?_
  refine lv_goto (tgt := 14) C.1 C.2.1 dJ0_coder_7d493_10 (by decide) ?_
  exact gx_zret C hr g dJ0_coder_7d493_14 (by decide) h
theorem mLatin1 {QQ : Int32 → St → Prop} (h : QQ 1 σ) : Met l yJ0_isLatin1_aae02 (wy yJ0_isLatin1_aae02 cJ0_isLatin1_aae02 1 (some .boolean)) rmZZ (va_Pc [.ref (ga E 1000)] (fun U => SW E base σ U)) (QI E base QQ) rmZZ.cells rmZZ.slots (fun q => base ≤ q) := by
  refine met_of (by decide) (Nat.le_of_ble_eq_true rfl) (fun p e s m args below meth c C hr g ls hl => ?_)
  have hz := C.2.2.2.2.2.2.2.2
  refine va_gets (own := RJ0) C.1 C.2.1 hz.2.2.1 g.2.2 C.2.2.2.1 (C.2.2.2.2.1 _ tf_38) (fun _ h => h) dJ0_isLatin1_aae02_0 ?_
  refine lv_if_eq (tgt := 17) C.1 C.2.1 dJ0_isLatin1_aae02_3 (by decide) (fun c => absurd c (by decide)) (fun _ => ?_)
  refine lv_aload_n C.1 C.2.1 dJ0_isLatin1_aae02_6 rfl (lv_at hl 0 rfl) ?_
  refine vk_getf (own := RJ0) C.1 C.2.1 (hz.2.1.1 0 (by decide)).2.1 g.2.2 C.2.2.2.1 (C.2.2.2.2.1 _ tf_15) (fun _ h => h) dJ0_isLatin1_aae02_7 ?_
  refine lv_if_ne (tgt := 17) C.1 C.2.1 dJ0_isLatin1_aae02_10 (by decide) (fun c => absurd rfl c) (fun _ => ?_)
  refine lv_iconst (v := 1) C.1 C.2.1 dJ0_isLatin1_aae02_13 (by decide) ?_
  refine lv_goto (tgt := 18) C.1 C.2.1 dJ0_isLatin1_aae02_14 (by decide) ?_
  exact gx_zret C hr g dJ0_isLatin1_aae02_18 (by decide) h
abbrev rmLen : Room := { frames := 1, cells := 0, slots := 0, locals := 20 }
theorem mLength {QQ : Int32 → St → Prop} (h : QQ 184 σ) : Met l yJ0_length_8abf5 (wy yJ0_length_8abf5 cJ0_length_8abf5 1 (some .int)) rmLen (va_Pc [.ref (ga E 1000)] (fun U => SW E base σ U)) (QI E base QQ) rmLen.cells rmLen.slots (fun q => base ≤ q) := by
  refine met_of (by decide) (Nat.le_of_ble_eq_true rfl) (fun p e s m args below meth c C hr g ls hl => ?_)
  have hz := C.2.2.2.2.2.2.2.2
  refine lv_aload_n C.1 C.2.1 dJ0_length_8abf5_0 rfl (lv_at hl 0 rfl) ?_
  refine vk_getf (own := RJ0) C.1 C.2.1 (hz.2.1.1 0 (by decide)).2.2.1 g.2.2 C.2.2.2.1 (C.2.2.2.2.1 _ tf_9) (fun _ h => h) dJ0_length_8abf5_1 ?_
  refine va_tlen (v := 184) C.1 C.2.1 (hz.2.1.1 0 (by decide)).2.2.2 g.2.2 rfl dJ0_length_8abf5_4 ?_
  refine lv_aload_n C.1 C.2.1 dJ0_length_8abf5_5 rfl (lv_at hl 0 rfl) ?_
  refine gx_calli0 g (gx_runT (rest := [.int 184]) C g mb_J0_coder_7d493 ml_J0_335 (mCoder (QQ := fun r τ => r = 0 ∧ τ = σ) ⟨rfl, rfl⟩) ⟨Nat.le_of_ble_eq_true rfl, Nat.le_of_ble_eq_true rfl⟩ ⟨Nat.le_refl _, Nat.le_refl _⟩ rfl hl.1 rfl (Nat.le_of_ble_eq_true rfl) dJ0_length_8abf5_6) rfl rfl (fun r τ H locs hq g => ?_)
  rw [hq.2] at g
  rw [hq.1]
  refine lv_ishr C.1 C.2.1 dJ0_length_8abf5_9 ?_
  exact gx_iret C hr g dJ0_length_8abf5_10 h
theorem mCheckP {fv : Value} (hfv : fv = .null ∨ ∃ t, fv = .ref t) {i n : Int32} (h1 : ¬ i < 0) (h2 : i < n) {QQ : Int32 → St → Prop} (h : QQ i σ) : Met l yJ3_checkIndex_8e157 (wy yJ3_checkIndex_8e157 cJ3_checkIndex_8e157 3 (some .int)) rmZZ (va_Pc [.int i, .int n, fv] (fun U => SW E base σ U)) (QI E base QQ) rmZZ.cells rmZZ.slots (fun q => base ≤ q) := by
  rcases hfv with rfl | ⟨t, rfl⟩
  all_goals
    refine met_of (by decide) (Nat.le_of_ble_eq_true rfl) (fun p e s m args below meth c C hr g ls hl => ?_)
    refine lv_iload_n C.1 C.2.1 dJ3_checkIndex_8e157_0 rfl (lv_at hl 0 rfl) ?_
    refine lv_if_lt (tgt := 9) C.1 C.2.1 dJ3_checkIndex_8e157_1 (by decide) (fun c => absurd c h1) (fun _ => ?_)
    refine lv_iload_n C.1 C.2.1 dJ3_checkIndex_8e157_4 rfl (lv_at hl 0 rfl) ?_
    refine lv_iload_n C.1 C.2.1 dJ3_checkIndex_8e157_5 rfl (lv_at hl 1 rfl) ?_
    refine lv_icmp_lt (tgt := 16) C.1 C.2.1 dJ3_checkIndex_8e157_6 (by decide) (fun _ => ?_) (fun c => absurd h2 c)
    refine lv_iload_n C.1 C.2.1 dJ3_checkIndex_8e157_16 rfl (lv_at hl 0 rfl) ?_
    exact gx_iret C hr g dJ3_checkIndex_8e157_17 h
abbrev rmChk : Room := { frames := 1, cells := 0, slots := 0, locals := 22 }
theorem mCheck {i n : Int32} (h1 : ¬ i < 0) (h2 : i < n) {QQ : St → Prop} (h : QQ σ) : Met l yJ0_checkIndex_df160 (wy yJ0_checkIndex_df160 cJ0_checkIndex_df160 2 none) rmChk (va_Pc [.int i, .int n] (fun U => SW E base σ U)) (QV E base QQ) rmChk.cells rmChk.slots (fun q => base ≤ q) := by
  refine met_of (by decide) (Nat.le_of_ble_eq_true rfl) (fun p e s m args below meth c C hr g ls hl => ?_)
  have hz := C.2.2.2.2.2.2.2.2
  refine lv_iload_n C.1 C.2.1 dJ0_checkIndex_df160_0 rfl (lv_at hl 0 rfl) ?_
  refine lv_iload_n C.1 C.2.1 dJ0_checkIndex_df160_1 rfl (lv_at hl 1 rfl) ?_
  have hf : ∃ fv : Value, (fv = .null ∨ ∃ t, fv = .ref t) ∧ va_Z "jdk/internal/util/Preconditions" "SIOOBE_FORMATTER" "Ljava/util/function/BiFunction;" fv (fun q => base ≤ q) s s.heap := by
    rcases hz.2.2.2 with q | ⟨t, q⟩
    · exact ⟨_, Or.inl rfl, q⟩
    · exact ⟨_, Or.inr ⟨t, rfl⟩, q⟩
  obtain ⟨fv, hfv, hZ⟩ := hf
  refine va_gets (own := RJ0) C.1 C.2.1 hZ g.2.2 C.2.2.2.1 (C.2.2.2.2.1 _ tf_1053) (fun _ h => h) dJ0_checkIndex_df160_2 ?_
  refine gx_calli0 g (gx_runS (rest := []) C g ms_J3_checkIndex_8e157 ml_J0_1059 (mCheckP hfv h1 h2 (QQ := fun r τ => τ = σ) rfl) ⟨Nat.le_of_ble_eq_true rfl, Nat.le_of_ble_eq_true rfl⟩ ⟨Nat.le_refl _, Nat.le_refl _⟩ rfl hl.1 rfl (Nat.le_of_ble_eq_true rfl) dJ0_checkIndex_df160_5) rfl rfl (fun r τ H locs hq g => ?_)
  rw [hq] at g
  refine lv_pop C.1 C.2.1 dJ0_checkIndex_df160_8 rfl ?_
  exact gx_vret C hr g dJ0_checkIndex_df160_9 h
abbrev rmLat : Room := { frames := 2, cells := 0, slots := 0, locals := 43 }
theorem mLatCharAt {i : Int32} (hi : vp_in i 184) {QQ : Int32 → St → Prop} (h : QQ (wch i.toNatClampNeg) σ) : Met l yJ1_charAt_3b067 (wy yJ1_charAt_3b067 cJ1_charAt_3b067 2 (some .char)) rmLat (va_Pc [.ref (ga E 1001), .int i] (fun U => SW E base σ U)) (QI E base QQ) rmLat.cells rmLat.slots (fun q => base ≤ q) := by
  refine met_of (by decide) (Nat.le_of_ble_eq_true rfl) (fun p e s m args below meth c C hr g ls hl => ?_)
  have hz := C.2.2.2.2.2.2.2.2
  have hT := (hz.2.1.1 0 (by decide)).2.2.2
  have h1 : ¬ i < 0 := fun q => hi (Or.inl q)
  have h2 : i < 184 := by
    obtain ⟨j, hj, rfl⟩ := vp_in_of hi (by decide)
    exact nI_lt hj (by decide)
  refine lv_iload_n C.1 C.2.1 dJ1_charAt_3b067_0 rfl (lv_at hl 1 rfl) ?_
  refine lv_aload_n C.1 C.2.1 dJ1_charAt_3b067_1 rfl (lv_at hl 0 rfl) ?_
  refine va_tlen (v := 184) C.1 C.2.1 hT g.2.2 rfl dJ1_charAt_3b067_2 ?_
  refine gx_callv0 g (gx_runS (rest := []) C g ms_J0_checkIndex_df160 ml_J1_9 (mCheck h1 h2 (QQ := fun τ => τ = σ) rfl) ⟨Nat.le_of_ble_eq_true rfl, Nat.le_of_ble_eq_true rfl⟩ ⟨Nat.le_refl _, Nat.le_refl _⟩ rfl hl.1 rfl (Nat.le_of_ble_eq_true rfl) dJ1_charAt_3b067_3) rfl rfl (fun τ H locs hq g => ?_)
  rw [hq] at g
  refine lv_aload_n C.1 C.2.1 dJ1_charAt_3b067_6 rfl (lv_at hl 0 rfl) ?_
  refine lv_iload_n C.1 C.2.1 dJ1_charAt_3b067_7 rfl (lv_at hl 1 rfl) ?_
  refine va_tb (v := .int (wch i.toNatClampNeg)) C.1 C.2.1 hT g.2.2 hi rfl dJ1_charAt_3b067_8 ?_
  refine lv_sipush (v := 255) C.1 C.2.1 dJ1_charAt_3b067_9 (by decide) ?_
  refine lv_iand C.1 C.2.1 dJ1_charAt_3b067_12 ?_
  refine lv_i2c (v := wch i.toNatClampNeg) C.1 C.2.1 dJ1_charAt_3b067_13 (wch_ok (vp_lt hi)).1 ?_
  exact gx_zret C hr g dJ1_charAt_3b067_14 (wch_ok (vp_lt hi)).2 h
abbrev rmChr : Room := { frames := 3, cells := 0, slots := 0, locals := 64 }
theorem mCharAt {i : Int32} (hi : vp_in i 184) {QQ : Int32 → St → Prop} (h : QQ (wch i.toNatClampNeg) σ) : Met l yJ0_charAt_5068e (wy yJ0_charAt_5068e cJ0_charAt_5068e 2 (some .char)) rmChr (va_Pc [.ref (ga E 1000), .int i] (fun U => SW E base σ U)) (QI E base QQ) rmChr.cells rmChr.slots (fun q => base ≤ q) := by
  refine met_of (by decide) (Nat.le_of_ble_eq_true rfl) (fun p e s m args below meth c C hr g ls hl => ?_)
  have hz := C.2.2.2.2.2.2.2.2
  refine lv_aload_n C.1 C.2.1 dJ0_charAt_5068e_0 rfl (lv_at hl 0 rfl) ?_
  refine gx_calli0 g (gx_runT (rest := []) C g mb_J0_isLatin1_aae02 ml_J0_492 (mLatin1 (QQ := fun r τ => r = 1 ∧ τ = σ) ⟨rfl, rfl⟩) ⟨Nat.le_of_ble_eq_true rfl, Nat.le_of_ble_eq_true rfl⟩ ⟨Nat.le_refl _, Nat.le_refl _⟩ rfl hl.1 rfl (Nat.le_of_ble_eq_true rfl) dJ0_charAt_5068e_1) rfl rfl (fun r τ H locs hq g => ?_)
  rw [hq.2] at g
  rw [hq.1]
  refine lv_if_eq (tgt := 16) C.1 C.2.1 dJ0_charAt_5068e_4 (by decide) (fun c => absurd c (by decide)) (fun _ => ?_)
  refine lv_aload_n C.1 C.2.1 dJ0_charAt_5068e_7 rfl (lv_at hl 0 rfl) ?_
  refine vk_getf (own := RJ0) C.1 C.2.1 (hz.2.1.1 0 (by decide)).2.2.1 g.2.2 C.2.2.2.1 (C.2.2.2.2.1 _ tf_9) (fun _ h => h) dJ0_charAt_5068e_8 ?_
  refine lv_iload_n C.1 C.2.1 dJ0_charAt_5068e_11 rfl (lv_at hl 1 rfl) ?_
  refine gx_calli0 g (gx_runS (rest := []) C g ms_J1_charAt_3b067 ml_J0_495 (mLatCharAt hi (QQ := fun r τ => r = wch i.toNatClampNeg ∧ τ = σ) ⟨rfl, rfl⟩) ⟨Nat.le_of_ble_eq_true rfl, Nat.le_of_ble_eq_true rfl⟩ ⟨Nat.le_refl _, Nat.le_refl _⟩ rfl hl.1 rfl (Nat.le_of_ble_eq_true rfl) dJ0_charAt_5068e_12) rfl rfl (fun r τ H locs hq g => ?_)
  rw [hq.2] at g
  rw [hq.1]
  exact gx_zret C hr g dJ0_charAt_5068e_15 (wch_ok (vp_lt hi)).2 h
end RT
