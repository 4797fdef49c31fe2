/-! The law's code made anew: copyOf, startDraft. -/
set_option maxRecDepth 100000 in
theorem ac_int : Cond.arrayClass .int ∈ tb := tb1 81 rfl rfl
set_option maxRecDepth 100000 in
theorem fc_59 : Cond.fieldLink RX2 59 "MillStream$Law" "code" "[I" ∈ tb := tb1 189 rfl rfl
/-- the code made anew: length N, address c; the old numbers ahead, 0 behind -/
def rc (σ : St) (N c : Nat) : St := (fun a => if a = 36 then (fun j => if j < gn σ then gr σ 36 j else 0) else σ.1 a, σ.2.1, N, c)
theorem shs_len : shs.length = 205 := by decide +kernel
theorem wx_len {E : EE} {σ : St} : (wx E σ).length = 205 := by
  unfold wx
  rw [List.length_mapIdx, shs_len]
theorem set_last {α : Type} (l : List α) (x y : α) : (l ++ [x]).set l.length y = l ++ [y] := by
  rw [List.set_append_right _ _ (Nat.le_refl _)]
  simp
def noc (sh : Sh) : Bool := match sh with
  | .inl (_, fs) => !fs.contains (some 36)
  | .inr (_, _, rs) => !rs.contains 36
theorem noc_all : ((List.range 205).all fun k => k == 8 || (match shs[k]? with | some sh => noc sh | none => true)) = true := by decide +kernel
theorem noc_of {k : Nat} {sh : Sh} (hk : k ≠ 8) (h : shs[k]? = some sh) : noc sh = true := by
  have hl : k < 205 := by
    have := (List.getElem?_eq_some_iff.mp h).1
    rw [shs_len] at this
    exact this
  have q := List.all_eq_true.mp noc_all k (List.mem_range.mpr hl)
  rw [h] at q
  rcases Bool.or_eq_true_iff.mp q with q | q
  · exact absurd (by simpa using q) hk
  · exact q
theorem nod_all : ((List.range 205).all fun k => k == 36 || (match shs[k]? with | some (.inr (_, none, _)) => false | _ => true)) = true := by decide +kernel
theorem nod_of {k t : Nat} {rs : List Nat} (h : shs[k]? = some (.inr (t, none, rs))) : k = 36 := by
  have hl : k < 205 := by
    have := (List.getElem?_eq_some_iff.mp h).1
    rw [shs_len] at this
    exact this
  have q := List.all_eq_true.mp nod_all k (List.mem_range.mpr hl)
  rw [h] at q
  simpa using q
theorem ent_rc {E : EE} {σ : St} {N c k : Nat} {sh : Sh} (hk : k ≠ 36) (h : noc sh = true) (ho : ∀ t rs, sh ≠ .inr (t, none, rs)) : ent E (rc σ N c) k sh = ent E σ k sh := by
  have hg : ∀ j, gv (rc σ N c) k j = gv σ k j := fun j => by
    show (if k = 36 then _ else σ.1 k) j = σ.1 k j
    rw [if_neg hk]
  have hr : gr (rc σ N c) k = gr σ k := funext hg
  rcases sh with ⟨ci, fs⟩ | ⟨t, o, rs⟩
  · have hc : ¬ some 36 ∈ fs := by simpa [noc] using h
    have e : fld E (rc σ N c) k fs = fld E σ k fs := by
      unfold fld
      apply List.ext_getElem?
      intro i
      rw [List.getElem?_mapIdx, List.getElem?_mapIdx]
      cases hf : fs[i]? with
      | none => rfl
      | some z =>
        cases z with
        | none => simp only [Option.map_some, hg]
        | some r =>
          have hr36 : r ≠ 36 := fun q => hc (by subst q; exact List.mem_of_getElem? hf)
          simp only [Option.map_some, adr_ne hr36]
    simp only [ent, e]
  · have hc : ¬ 36 ∈ rs := by simpa [noc] using h
    cases o with
    | none => exact absurd rfl (ho t rs)
    | some n =>
      have e : (fun (j : Nat) => (rs[j]?).map (adr E (rc σ N c))) = (fun (j : Nat) => (rs[j]?).map (adr E σ)) := by
        funext j
        cases hf : rs[j]? with
        | none => rfl
        | some r =>
          have hr36 : r ≠ 36 := fun q => hc (by subst q; exact List.mem_of_getElem? hf)
          simp only [Option.map_some, adr_ne hr36]
      simp only [ent, e, hr, Option.getD_some]
      rfl
theorem fld_rc {E : EE} {σ : St} {N ra : Nat} {fs : List (Option Nat)} (hj : fs[14]? = some (some 36)) (hu : ∀ i : Nat, fs[i]? = some (some 36) → i = 14) : fld E (rc σ N ra) 8 fs = (fld E σ 8 fs).set 14 (.ref ra) := by
  have hl : 14 < (fld E σ 8 fs).length := (List.getElem?_eq_some_iff.mp (fld_ref (E := E) (σ := σ) (k := 8) hj)).1
  apply List.ext_getElem?
  intro i
  rw [List.getElem?_set]
  by_cases hi : 14 = i
  · subst hi
    rw [if_pos rfl, if_pos hl, fld_ref hj, adr_code]
    rfl
  · rw [if_neg hi]
    unfold fld
    rw [List.getElem?_mapIdx, List.getElem?_mapIdx]
    cases hf : fs[i]? with
    | none => rfl
    | some z =>
      cases z with
      | none =>
        have hg : gv (rc σ N ra) 8 i = gv σ 8 i := by
          show (rc σ N ra).1 8 i = σ.1 8 i
          unfold rc
          simp
        simp only [Option.map_some, hg]
      | some r =>
        have hr36 : r ≠ 36 := fun q => hi (by subst q; exact (hu i hf).symm)
        simp only [Option.map_some, adr_ne hr36]
abbrev lawF : List (Option Nat) := [none, none, none, none, none, some 27, some 28, some 29, some 30, some 31, some 32, some 33, some 34, some 35, some 36, none, some 37, some 38, none]
theorem lawF_u : ∀ i : Nat, lawF[i]? = some (some 36) → i = 14 := by
  intro i h
  have hl : i < 19 := (List.getElem?_eq_some_iff.mp h).1
  have ha : ((List.range 19).all fun i => i == 14 || decide (lawF[i]? ≠ some (some 36))) = true := by decide +kernel
  rcases Bool.or_eq_true_iff.mp (List.all_eq_true.mp ha i (List.mem_range.mpr hl)) with q | q
  · simpa using q
  · exact absurd h (of_decide_eq_true q)
/-- the cell of the code made anew -/
abbrev nwc (E : EE) (σ : St) (N q : Nat) : Nat × va_E := (q, .inl (E.2.1 0, N, .inl (fun j => if j < gn σ then gr σ 36 j else 0)))
def CB (E : EE) (base : Nat) (σ : St) (N q : Nat) (t : State) : Prop := va_P E.1 vwCl (wx E σ ++ [nwc E σ N q]) t.heap ∧ va_D (fun q => base ≤ q) (wx E σ ++ [nwc E σ N q])
section RC
variable {p : Program} {l : Launch} {e : Env} {R : Room} {s : State} {m : MethodId} {args : Array Value} {below : List Frame} {meth : Method} {c : Code} {H : Heap} {locs : List Loc} {cells slots : Nat} {Q : State → Prop}
variable {cc : ByteArray} {pc nL : Nat} {ls : Array Slot} {rest : List Value} {E : EE} {base : Nat} {σ : St} {own : String}
abbrev rmCopy : Room := { frames := 1, cells := 1, slots := 7000, locals := 40 }
set_option maxHeartbeats 4000000 in
set_option maxRecDepth 100000 in
theorem mCopyOf {n : Int32} {N : Nat} (h0 : ¬ n < 0) (hN : n.toNatClampNeg = N) (hgt : gn σ < N) (hM : N ≤ 7000) : Met l yJ7_copyOf_59c91 (wy yJ7_copyOf_59c91 cJ7_copyOf_59c91 3 (some (.array .int))) rmCopy (va_Pc [.ref (gc σ), .int n] (fun U => SW E base σ U)) (va_Qr (fun (_ : Unit) => True) (fun _ q t => CB E base σ N q t) (fun q => base ≤ q)) rmCopy.cells rmCopy.slots (fun q => base ≤ q) := by
  refine met_of (by decide) (Nat.le_of_ble_eq_true rfl) (fun p e s m args below meth c C hr g ls hl => ?_)
  have hg31 : gn σ < 2 ^ 31 := by omega
  have hnN : n = nI N := by
    obtain ⟨j, hj, rfl⟩ := nI_of h0
    rw [nI_clamp hj] at hN
    rw [hN]
  have hx := C.1
  have hb := C.2.1
  have hK : va_K E.1 vwCl (tysE E) s := C.2.2.2.2.2.2.1
  have hts := C.2.2.2.2.1
  have hbs := C.2.2.2.2.2.2.2.1
  refine lv_iload_n hx hb dJ7_copyOf_59c91_0 rfl (lv_at hl 1 rfl) ?_
  refine lv_aload_n hx hb dJ7_copyOf_59c91_1 rfl (lv_at hl 0 rfl) ?_
  refine gx_clenC C g dJ7_copyOf_59c91_2 ?_
  refine lv_icmp_ne (tgt := 14) hx hb dJ7_copyOf_59c91_3 (by decide) (fun _ => ?_) (fun q => ?_)
  · refine lv_iload_n hx hb dJ7_copyOf_59c91_14 rfl (lv_at hl 1 rfl) ?_
    obtain ⟨hP, hD, hS⟩ := g
    refine va_newa (atype := .int) (a0 := (N, .inl (fun _ => 0))) (ty := .int) hx hb (hts _ ac_int) rfl hK hP hD hS (fun q h => Nat.le_trans hbs h) (fun cA => rfl) h0 hN (by show N * 4 ≤ _; omega) (by show 0 + 1 ≤ 1; omega) (by show 0 + N ≤ 7000; omega) dJ7_copyOf_59c91_15 (fun q cA H hK2 hP hD hS => ?_)
    have e1 : s.vm.findClass ("[" ++ FieldType.int.toString) = some cA := (hK2.2 6 (cA, .int) rfl).2
    have e2 : s.vm.findClass ("[" ++ FieldType.int.toString) = some (E.2.1 0) := (hK.2 0 (E.2.1 0, .int) rfl).2
    have e3 : cA = E.2.1 0 := Option.some.inj (e1.symm.trans e2)
    subst e3
    refine lv_astore_n (lv' := [(2, .ref q), (0, .ref (gc σ)), (1, .int n)]) hx hb dJ7_copyOf_59c91_17 rfl hl (by decide) rfl (fun ls hl => ?_)
    refine lv_aload_n hx hb dJ7_copyOf_59c91_18 rfl (lv_at hl 1 rfl) ?_
    refine lv_iconst (v := 0) hx hb dJ7_copyOf_59c91_19 (by decide) ?_
    refine lv_aload_n hx hb dJ7_copyOf_59c91_20 rfl (lv_at hl 0 rfl) ?_
    refine lv_iconst (v := 0) hx hb dJ7_copyOf_59c91_21 (by decide) ?_
    refine lv_aload_n hx hb dJ7_copyOf_59c91_22 rfl (lv_at hl 1 rfl) ?_
    have h36 : (wx E σ ++ [(q, Sum.inl (E.2.1 0, N, Sum.inl fun _ => 0))])[36]? = some (gc σ, .inl (E.2.1 0, gn σ, .inl (gr σ 36))) := by
      rw [List.getElem?_append_left (by rw [wx_len]; decide)]
      exact wx_code
    have h204 : (wx E σ ++ [(q, Sum.inl (E.2.1 0, N, Sum.inl fun _ => 0))])[(wx E σ).length]? = some (q, .inl (E.2.1 0, N, .inl fun _ => 0)) := by
      rw [List.getElem?_append_right (Nat.le_refl _), Nat.sub_self]
      rfl
    refine va_alen (v := nI (gn σ)) hx hb hK hP 36 0 h36 rfl rfl dJ7_copyOf_59c91_23 ?_
    refine lv_iload_n hx hb dJ7_copyOf_59c91_24 rfl (lv_at hl 2 rfl) ?_
    refine gx_min (rest := [.int 0, .ref q, .int 0, .ref (gc σ)]) C ml_J7_304 hl.1 (Nat.le_of_ble_eq_true rfl) (Nat.le_of_ble_eq_true rfl) (by show 0 + 1 ≤ 1; omega) (by show 0 + N ≤ 7000; omega) dJ7_copyOf_59c91_25 ?_
    have hmin : jmin (nI (gn σ)) n = nI (gn σ) := by
      show (if n < nI (gn σ) then n else nI (gn σ)) = nI (gn σ)
      rw [hnN]
      exact if_neg (nI_nlt (Nat.le_of_lt hgt) (by omega))
    rw [hmin]
    refine va_copyi hx hb (C.2.2.1.trans hl.1.symm) C.2.2.2.1 (hts _ al_J7_150) (hts _ ac_nat) (hts _ ac_stat) (hts _ ac_ini) hK hP hD hS 36 (wx E σ).length 0 0 h36 h204 rfl rfl rfl (by decide) (by decide) (nI_pos hg31) (by rw [nI_clamp hg31]; exact Nat.le_of_eq (Nat.zero_add _)) (by rw [nI_clamp hg31]; show 0 + gn σ ≤ N; omega) (fun i _ => rfl) (Nat.le_of_ble_eq_true rfl) (Nat.le_of_ble_eq_true rfl) dJ7_copyOf_59c91_28 (fun H locs hP hD hS => ?_)
    have ef : va_cpy (gr σ 36) (fun _ => 0) (Int32.toNatClampNeg 0) (Int32.toNatClampNeg 0) (nI (gn σ)).toNatClampNeg = (fun j => if j < gn σ then gr σ 36 j else 0) := by
      rw [nI_clamp hg31]
      funext j
      show (if 0 ≤ j ∧ j < 0 + gn σ then gr σ 36 (0 + (j - 0)) else 0) = _
      by_cases hj : j < gn σ
      · rw [if_pos ⟨Nat.zero_le _, by omega⟩, if_pos hj, Nat.zero_add, Nat.sub_zero]
      · rw [if_neg (by omega), if_neg hj]
    rw [set_last, ef] at hP hD
    refine lv_aload_n hx hb dJ7_copyOf_59c91_31 rfl (lv_at hl 0 rfl) ?_
    refine W.widen (k := 1) (n := 7000) (by omega) (by omega) ?_
    exact W.aret hx hb hr (Or.inr ⟨_, rfl⟩) (Or.inr ⟨q, rfl⟩) (fun t ht hW => ⟨⟨(), q, rfl, trivial, by rw [ht]; exact hP, hD⟩, hS.F ht⟩) hS.2.2 dJ7_copyOf_59c91_32 C.2.2.2.2.2.1
  · exfalso
    rw [hnN] at q
    have := (nI_eq (by omega) hg31).mp q
    omega
def wX2_startDraft (σ : St) (Q : St → Prop) : Prop := ∀ σ1 : St, σ1 = pv σ 8 2 (gv σ 8 0) → ∀ σ2 : St, σ2 = pv σ1 8 3 (gv σ1 8 1) → ∀ σ3 : St, σ3 = pv σ2 8 4 (gv σ2 8 15) → (((gv σ3 8 15) + (600 : Int32) ≤ nI (gn σ3) → Q σ3) ∧ (¬ ((gv σ3 8 15) + (600 : Int32) ≤ nI (gn σ3)) → ¬ (gv σ3 8 15) + (600 : Int32) < 0 ∧ gn σ3 < ((gv σ3 8 15) + (600 : Int32)).toNatClampNeg ∧ ((gv σ3 8 15) + (600 : Int32)).toNatClampNeg ≤ 7000 ∧ ∀ c : Nat, Q (rc σ3 ((gv σ3 8 15) + (600 : Int32)).toNatClampNeg c)))
abbrev rmX2_startDraft : Room := { frames := 2, cells := 1, slots := 7000, locals := 62 }
theorem rc_world {N ra : Nat} (hP : va_P E.1 vwCl ((wx E σ ++ [nwc E σ N ra]).set 8 (ga E 8, .inr (2, (fld E σ 8 lawF).set 14 (.ref ra)))) H) (hD : va_D (fun q => base ≤ q) ((wx E σ ++ [nwc E σ N ra]).set 8 (ga E 8, .inr (2, (fld E σ 8 lawF).set 14 (.ref ra))))) :
    va_P E.1 vwCl (wx E (rc σ N ra)) H ∧ va_D (fun q => base ≤ q) (wx E (rc σ N ra)) := by
  have hs : shs[8]? = some (.inl (2, lawF)) := sh_8
  have hg : ∀ (k : Nat) (q : Nat × va_E), (wx E (rc σ N ra))[k]? = some q → ((wx E σ ++ [nwc E σ N ra]).set 8 (ga E 8, .inr (2, (fld E σ 8 lawF).set 14 (.ref ra))))[if k = 36 then 205 else k]? = some q := by
    intro k q hq
    have hk : k < 205 := by
      have := (List.getElem?_eq_some_iff.mp hq).1
      rw [wx_len] at this
      exact this
    obtain ⟨sh, hsh⟩ : ∃ sh, shs[k]? = some sh := ⟨_, List.getElem?_eq_getElem (by rw [shs_len]; exact hk)⟩
    rw [wx_get hsh] at hq
    cases hq
    by_cases h36 : k = 36
    · subst h36
      rw [if_pos rfl, List.getElem?_set_ne (by decide), List.getElem?_append_right (by rw [wx_len]; decide), wx_len]
      rw [shs_36] at hsh
      cases hsh
      rfl
    · rw [if_neg h36]
      by_cases h8 : k = 8
      · subst h8
        rw [hs] at hsh
        cases hsh
        rw [List.getElem?_set_self (by rw [List.length_append, wx_len]; show 8 < 205 + 1; decide), adr_obj hs]
        show _ = some (ga E 8, Sum.inr (2, fld E (rc σ N ra) 8 lawF))
        rw [fld_rc rfl lawF_u]
      · rw [List.getElem?_set_ne (fun q => h8 q.symm), List.getElem?_append_left (by rw [wx_len]; exact hk), wx_get hsh]
        rw [ent_rc h36 (noc_of h8 hsh) (fun t rs q => ?_), adr_ne h36, adr_ne h36]
        subst q
        have := nod_of hsh
        exact h36 this
  refine ⟨hP.by _ hg, hD.by _ hg (fun i j hi hj hij => ?_)⟩
  rw [wx_len] at hi hj
  have hij : (if i = 36 then 205 else i) = (if j = 36 then 205 else j) := hij
  by_cases h1 : i = 36
  · by_cases h2 : j = 36
    · rw [h1, h2]
    · rw [if_pos h1, if_neg h2] at hij
      omega
  · by_cases h2 : j = 36
    · rw [if_neg h1, if_pos h2] at hij
      omega
    · rw [if_neg h1, if_neg h2] at hij
      exact hij
set_option maxHeartbeats 4000000 in
set_option maxRecDepth 100000 in
theorem mX2_startDraft (σ : St) (QQ : St → Prop) (h : wX2_startDraft σ QQ) : Met l yX2_startDraft (wy yX2_startDraft cX2_startDraft 1 none) rmX2_startDraft (va_Pc [.ref (ga E 8)] (fun U => SW E base σ U)) (QV E base QQ) rmX2_startDraft.cells rmX2_startDraft.slots (fun q => base ≤ q) := by
  refine met_of (by decide) (Nat.le_of_ble_eq_true rfl) (fun p e s m args below meth c C hr g ls hl => ?_)
  refine lv_aload_n C.1 C.2.1 dX2_startDraft_0 rfl (lv_at hl 0 rfl) ?_
  refine lv_aload_n C.1 C.2.1 dX2_startDraft_1 rfl (lv_at hl 0 rfl) ?_
  refine gx_getI C g fl_X2_9 dX2_startDraft_2 sh_8 rfl ?_
  refine gx_putI C g fi_X2_18 dX2_startDraft_5 sh_8 rfl (fun H locs σ1 e1 g => ?_)
  have h := h σ1 e1
  refine lv_aload_n C.1 C.2.1 dX2_startDraft_8 rfl (lv_at hl 0 rfl) ?_
  refine lv_aload_n C.1 C.2.1 dX2_startDraft_9 rfl (lv_at hl 0 rfl) ?_
  refine gx_getI C g fl_X2_15 dX2_startDraft_10 sh_8 rfl ?_
  refine gx_putI C g fi_X2_21 dX2_startDraft_13 sh_8 rfl (fun H locs σ2 e2 g => ?_)
  have h := h σ2 e2
  refine lv_aload_n C.1 C.2.1 dX2_startDraft_16 rfl (lv_at hl 0 rfl) ?_
  refine lv_aload_n C.1 C.2.1 dX2_startDraft_17 rfl (lv_at hl 0 rfl) ?_
  refine gx_getI C g fl_X2_62 dX2_startDraft_18 sh_8 rfl ?_
  refine gx_putI C g fi_X2_24 dX2_startDraft_21 sh_8 rfl (fun H locs σ3 e3 g => ?_)
  have h := h σ3 e3
  refine lv_aload_n C.1 C.2.1 dX2_startDraft_24 rfl (lv_at hl 0 rfl) ?_
  refine gx_getC C g fl_X2_59 dX2_startDraft_25 sh_8 rfl ?_
  refine gx_clenC C g dX2_startDraft_28 ?_
  refine lv_aload_n C.1 C.2.1 dX2_startDraft_29 rfl (lv_at hl 0 rfl) ?_
  refine gx_getI C g fl_X2_62 dX2_startDraft_30 sh_8 rfl ?_
  refine lv_sipush (v := 600) C.1 C.2.1 dX2_startDraft_33 (by decide) ?_
  refine lv_iadd C.1 C.2.1 dX2_startDraft_36 ?_
  refine lv_icmp_ge (tgt := 59) C.1 C.2.1 dX2_startDraft_37 (by decide) (fun c1 => ?_) (fun c1 => ?_)
  · refine W.widen (k := 1) (n := 7000) (by omega) (by omega) ?_
    exact gx_vret C hr g dX2_startDraft_59 (h.1 c1)
  · obtain ⟨h0, hgt, hM, h⟩ := h.2 c1
    refine lv_aload_n C.1 C.2.1 dX2_startDraft_40 rfl (lv_at hl 0 rfl) ?_
    refine lv_aload_n C.1 C.2.1 dX2_startDraft_41 rfl (lv_at hl 0 rfl) ?_
    refine gx_getC C g fl_X2_59 dX2_startDraft_42 sh_8 rfl ?_
    refine lv_aload_n C.1 C.2.1 dX2_startDraft_45 rfl (lv_at hl 0 rfl) ?_
    refine gx_getI C g fl_X2_62 dX2_startDraft_46 sh_8 rfl ?_
    refine lv_sipush (v := 600) C.1 C.2.1 dX2_startDraft_49 (by decide) ?_
    refine lv_iadd C.1 C.2.1 dX2_startDraft_52 ?_
    refine va_callr (gx_runS (rest := [.ref (ga E 8)]) C g ms_J7_copyOf_59c91 ml_X2_74 (mCopyOf h0 rfl hgt hM) ⟨Nat.le_of_ble_eq_true rfl, Nat.le_of_ble_eq_true rfl⟩ ⟨Nat.le_of_ble_eq_true rfl, Nat.le_of_ble_eq_true rfl⟩ rfl hl.1 rfl (Nat.le_of_ble_eq_true rfl) dX2_startDraft_53) g.2.2 (fun _ _ h => h) (fun _ h => h) (fun u ra t H1 locs1 ht hvm hq hB hz hk hS => ?_)
    obtain ⟨hP, hD⟩ := hB
    rw [ht] at hP
    have hK : va_K E.1 vwCl (tysE E) s := C.2.2.2.2.2.2.1
    have h8 : (wx E σ3 ++ [nwc E σ3 ((gv σ3 8 15) + (600 : Int32)).toNatClampNeg ra])[8]? = some (ga E 8, .inr (2, fld E σ3 8 lawF)) := by
      rw [List.getElem?_append_left (by rw [wx_len]; decide)]
      exact wx_obj sh_8
    refine va_put (v := .ref ra) (ty := .array .int) C.1 C.2.1 C.2.2.2.2.1 co_X2.2.1 tyX2 tyX2_ok nmX2 C.2.2.2.1 hK hP hD hS 8 h8 rfl 14 (by decide) (C.2.2.2.2.1 _ fc_59) (fun _ h => h) rfl (tyX2_ok 14 (by decide)) rfl rfl (Nat.le_of_ble_eq_true rfl) dX2_startDraft_56 (fun H locs hP hD hS => ?_)
    obtain ⟨hP, hD⟩ := rc_world hP hD
    exact gx_vret C hr ⟨hP, hD, hS⟩ dX2_startDraft_59 (h ra)
end RC
