/-! The words that all methods share, the state of both systems as numbers, and the world that holds it. -/
def tb : List Cond := lw_tbl.filter goodWord
theorem tb_good : tb.all goodWord = true := by
  rw [List.all_eq_true]
  intro w hw
  exact (List.mem_filter.mp hw).2
theorem tb_in {w : Cond} (h : w ∈ lw_tbl) (g : goodWord w = true) : w ∈ tb := List.mem_filter.mpr ⟨h, g⟩
/-- a word of tables_1 by its place -/
theorem tb_at {w : Cond} (i : Nat) (h : tables_1[i]? = some w) (g : goodWord w = true) : w ∈ tb := tb_in (List.mem_append_right _ (List.mem_of_getElem? h)) g
theorem tb1 {w : Cond} (i : Nat) (h : tables_1_1[i]? = some w) (g : goodWord w = true) : w ∈ tb := tb_in (List.mem_append_right _ (List.mem_append_left _ (List.mem_of_getElem? h))) g
theorem tb2 {w : Cond} (i : Nat) (h : tables_1_2[i]? = some w) (g : goodWord w = true) : w ∈ tb := tb_in (List.mem_append_right _ (List.mem_append_right _ (List.mem_append_left _ (List.mem_of_getElem? h)))) g
theorem tb3 {w : Cond} (i : Nat) (h : tables_1_3[i]? = some w) (g : goodWord w = true) : w ∈ tb := tb_in (List.mem_append_right _ (List.mem_append_right _ (List.mem_append_right _ (List.mem_append_left _ (List.mem_of_getElem? h))))) g
theorem tb4 {w : Cond} (i : Nat) (h : tables_1_4[i]? = some w) (g : goodWord w = true) : w ∈ tb := tb_in (List.mem_append_right _ (List.mem_append_right _ (List.mem_append_right _ (List.mem_append_right _ (List.mem_append_left _ (List.mem_of_getElem? h)))))) g
theorem tb5 {w : Cond} (i : Nat) (h : tables_1_5[i]? = some w) (g : goodWord w = true) : w ∈ tb := tb_in (List.mem_append_right _ (List.mem_append_right _ (List.mem_append_right _ (List.mem_append_right _ (List.mem_append_right _ (List.mem_append_left _ (List.mem_of_getElem? h))))))) g
theorem tb6 {w : Cond} (i : Nat) (h : tables_1_6[i]? = some w) (g : goodWord w = true) : w ∈ tb := tb_in (List.mem_append_right _ (List.mem_append_right _ (List.mem_append_right _ (List.mem_append_right _ (List.mem_append_right _ (List.mem_append_right _ (List.mem_of_getElem? h))))))) g
/-- 'selects' of a private method -/
theorem tb_sel {w : Cond} (i : Nat) (h : (k2_sels lw_privs)[i]? = some w) (g : goodWord w = true) : w ∈ tb := tb_in (List.mem_append_left _ (List.mem_of_getElem? h)) g
def wy (y : MethodName) (cc : ByteArray) (n : Nat) (ret : Option FieldType) : List Cond := .code y cc n ret :: tb
theorem tb_gi {ws : List Cond} (h : ∀ w ∈ ws, w ∈ tb) : GoodIn tb ws := fun w hw => ⟨h w hw, good_of_word (List.all_eq_true.mp tb_good w (h w hw))⟩
theorem wy_in {y : MethodName} {cc : ByteArray} {n : Nat} {ret : Option FieldType} (h : Cond.code y cc n ret ∈ tb) : ∀ w ∈ wy y cc n ret, w ∈ tb := fun w hw => (List.mem_cons.mp hw).elim (fun e => e ▸ h) id
/-- ints by cell and place, longs by cell and place, the length and the address of the law's code (the one array that is made anew) -/
abbrev St : Type := (Nat → Nat → Int32) × (Nat → Nat → Int64) × Nat × Nat
def gr (σ : St) (k : Nat) : Nat → Int32 := σ.1 k
def gv (σ : St) (k j : Nat) : Int32 := σ.1 k j
def gw (σ : St) (k : Nat) : Nat → Int64 := σ.2.1 k
def gn (σ : St) : Nat := σ.2.2.1
def gc (σ : St) : Nat := σ.2.2.2
def pa (σ : St) (k : Nat) (f : Nat → Int32) : St := (fun a => if a = k then f else σ.1 a, σ.2)
def pv (σ : St) (k j : Nat) (x : Int32) : St := pa σ k (upd (gr σ k) j x)
def pw (σ : St) (k j : Nat) (x : Int64) : St := (σ.1, fun a => if a = k then vp_updL (gw σ k) j x else σ.2.1 a, σ.2.2)
/-- a cell's shape: an object (its class; none: an int, some k: the cell k), an array (its sort 0 int, 1 byte, 2 boolean, 3 long, 4 and 5 of references; its length, but for the law's code; the cells that it holds) -/
abbrev Sh : Type := (Nat × List (Option Nat)) ⊕ (Nat × Option Nat × List Nat)
abbrev EE : Type := va_G × (Nat → ClassId) × (Nat → Nat)
def ga (E : EE) (k : Nat) : Nat := E.2.2 k
def adr (E : EE) (σ : St) (k : Nat) : Nat := if k = 36 then gc σ else ga E k
def fld (E : EE) (σ : St) (k : Nat) (fs : List (Option Nat)) : List Value := fs.mapIdx (fun j f => match f with | none => .int (gv σ k j) | some r => .ref (adr E σ r))
def ent (E : EE) (σ : St) (k : Nat) (sh : Sh) : va_E := match sh with
  | .inl (ci, fs) => .inr (ci, fld E σ k fs)
  | .inr (t, o, rs) => .inl (E.2.1 t, o.getD (gn σ), if t = 3 then .inr (.inl (gw σ k)) else if t < 3 then .inl (gr σ k) else .inr (.inr (.inr (.inr (fun j => (rs[j]?).map (adr E σ))))))
def wx (E : EE) (σ : St) : va_W := shs.mapIdx (fun k sh => (adr E σ k, ent E σ k sh))
theorem shs_36 : shs[36]? = some (.inr (0, none, [])) := by decide +kernel
theorem adr_obj {E : EE} {σ : St} {k : Nat} {x : Nat × List (Option Nat)} (h : shs[k]? = some (.inl x)) : adr E σ k = ga E k := if_neg (fun e => by subst e; rw [shs_36] at h; cases h)
theorem adr_arr {E : EE} {σ : St} {k t n : Nat} {rs : List Nat} (h : shs[k]? = some (.inr (t, some n, rs))) : adr E σ k = ga E k := if_neg (fun e => by subst e; rw [shs_36] at h; cases h)
theorem adr_code {E : EE} {σ : St} : adr E σ 36 = gc σ := if_pos rfl
theorem adr_ne {E : EE} {σ : St} {k : Nat} (h : k ≠ 36) : adr E σ k = ga E k := if_neg h
theorem wx_get {E : EE} {σ : St} {k : Nat} {sh : Sh} (h : shs[k]? = some sh) : (wx E σ)[k]? = some (adr E σ k, ent E σ k sh) := by
  unfold wx
  rw [List.getElem?_mapIdx, h]
  rfl
theorem wx_obj {E : EE} {σ : St} {k ci : Nat} {fs : List (Option Nat)} (h : shs[k]? = some (.inl (ci, fs))) : (wx E σ)[k]? = some (ga E k, .inr (ci, fld E σ k fs)) := by
  rw [wx_get h, adr_obj h]
  rfl
theorem wx_int {E : EE} {σ : St} {k t n : Nat} {rs : List Nat} (h : shs[k]? = some (.inr (t, some n, rs))) (ht : t < 3) : (wx E σ)[k]? = some (ga E k, .inl (E.2.1 t, n, .inl (gr σ k))) := by
  rw [wx_get h, adr_arr h]
  simp only [ent]
  rw [if_neg (by omega), if_pos ht]
  rfl
theorem wx_code {E : EE} {σ : St} : (wx E σ)[36]? = some (gc σ, .inl (E.2.1 0, gn σ, .inl (gr σ 36))) := by
  rw [wx_get shs_36, adr_code]
  rfl
theorem wx_long {E : EE} {σ : St} {k n : Nat} {rs : List Nat} (h : shs[k]? = some (.inr (3, some n, rs))) : (wx E σ)[k]? = some (ga E k, .inl (E.2.1 3, n, .inr (.inl (gw σ k)))) := by
  rw [wx_get h, adr_arr h]
  rfl
theorem wx_ref {E : EE} {σ : St} {k t n : Nat} {rs : List Nat} (h : shs[k]? = some (.inr (t, some n, rs))) (ht : 3 < t) : (wx E σ)[k]? = some (ga E k, .inl (E.2.1 t, n, .inr (.inr (.inr (.inr (fun j => (rs[j]?).map (adr E σ))))))) := by
  rw [wx_get h, adr_arr h]
  simp only [ent]
  rw [if_neg (by omega), if_neg (by omega)]
  rfl
theorem fld_int {E : EE} {σ : St} {k j : Nat} {fs : List (Option Nat)} (h : fs[j]? = some none) : (fld E σ k fs)[j]? = some (.int (gv σ k j)) := by
  unfold fld
  rw [List.getElem?_mapIdx, h]
  rfl
theorem fld_ref {E : EE} {σ : St} {k j r : Nat} {fs : List (Option Nat)} (h : fs[j]? = some (some r)) : (fld E σ k fs)[j]? = some (.ref (adr E σ r)) := by
  unfold fld
  rw [List.getElem?_mapIdx, h]
  rfl
theorem gr_pa_ne {σ : St} {k a : Nat} {f : Nat → Int32} (h : a ≠ k) : gr (pa σ k f) a = gr σ a := if_neg h
theorem gr_pa_eq {σ : St} {k : Nat} {f : Nat → Int32} : gr (pa σ k f) k = f := if_pos rfl
theorem ent_pa_ne {E : EE} {σ : St} {k a : Nat} {f : Nat → Int32} (h : a ≠ k) (sh : Sh) : ent E (pa σ k f) a sh = ent E σ a sh := by
  have e := gr_pa_ne (σ := σ) (f := f) h
  rcases sh with ⟨ci, fs⟩ | ⟨t, o, rs⟩
  · have e2 : fld E (pa σ k f) a fs = fld E σ a fs := by
      unfold fld gv
      unfold gr at e
      rw [e]
      rfl
    simp only [ent, e2]
  · simp only [ent, e]
    rfl
theorem wx_set {E : EE} {σ τ : St} {k : Nat} {sh : Sh} {x : va_E} (h : shs[k]? = some sh) (ha : ∀ a, adr E τ a = adr E σ a) (hx : ent E τ k sh = x) (hn : ∀ a sh, a ≠ k → ent E τ a sh = ent E σ a sh) : (wx E σ).set k (adr E σ k, x) = wx E τ := by
  have hk : k < (wx E σ).length := (List.getElem?_eq_some_iff.mp (wx_get (E := E) (σ := σ) h)).1
  apply List.ext_getElem?
  intro i
  rw [List.getElem?_set]
  by_cases hi : k = i
  · subst hi
    rw [if_pos rfl, if_pos hk, wx_get h, ha, hx]
  · rw [if_neg hi]
    unfold wx
    rw [List.getElem?_mapIdx, List.getElem?_mapIdx]
    cases shs[i]? with
    | none => rfl
    | some z => simp only [Option.map_some, ha, hn i z (fun e => hi e.symm)]
theorem wx_pa {E : EE} {σ : St} {k t n : Nat} {rs : List Nat} {f : Nat → Int32} (h : shs[k]? = some (.inr (t, some n, rs))) (ht : t < 3) : (wx E σ).set k (ga E k, .inl (E.2.1 t, n, .inl f)) = wx E (pa σ k f) := by
  rw [← adr_arr (E := E) (σ := σ) h]
  refine wx_set h (fun _ => rfl) ?_ (fun a sh ne => ent_pa_ne ne sh)
  simp only [ent]
  rw [if_neg (by omega), if_pos ht, gr_pa_eq]
  rfl
theorem wx_pc {E : EE} {σ : St} {f : Nat → Int32} : (wx E σ).set 36 (gc σ, .inl (E.2.1 0, gn σ, .inl f)) = wx E (pa σ 36 f) := by
  rw [← adr_code (E := E) (σ := σ)]
  refine wx_set shs_36 (fun _ => rfl) ?_ (fun a sh ne => ent_pa_ne ne sh)
  simp only [ent]
  rw [if_neg (by omega), if_pos (by omega), gr_pa_eq]
  rfl
theorem wx_pv {E : EE} {σ : St} {k j ci : Nat} {fs : List (Option Nat)} {x : Int32} (h : shs[k]? = some (.inl (ci, fs))) (hj : fs[j]? = some none) : (wx E σ).set k (ga E k, .inr (ci, (fld E σ k fs).set j (.int x))) = wx E (pv σ k j x) := by
  rw [← adr_obj (E := E) (σ := σ) h]
  refine wx_set h (fun _ => rfl) ?_ (fun a sh ne => ent_pa_ne ne sh)
  have e : fld E (pv σ k j x) k fs = (fld E σ k fs).set j (.int x) := by
    have hl : j < (fld E σ k fs).length := (List.getElem?_eq_some_iff.mp (fld_int (E := E) (σ := σ) (k := k) hj)).1
    apply List.ext_getElem?
    intro i
    rw [List.getElem?_set]
    by_cases hi : j = i
    · subst hi
      rw [if_pos rfl, if_pos hl, fld_int hj]
      show some (Value.int (gr (pa σ k (upd (gr σ k) j x)) k j)) = _
      rw [gr_pa_eq]
      simp [upd]
    · rw [if_neg hi]
      unfold fld
      rw [List.getElem?_mapIdx, List.getElem?_mapIdx]
      cases fs[i]? with
      | none => rfl
      | some z =>
        cases z with
        | some r => rfl
        | none =>
          show some (Value.int (gr (pa σ k (upd (gr σ k) j x)) k i)) = some (Value.int (gr σ k i))
          rw [gr_pa_eq]
          simp only [upd]
          rw [if_neg (fun e : i = j => hi e.symm)]
  simp only [ent, e]
theorem wx_pw {E : EE} {σ : St} {k j n : Nat} {rs : List Nat} {x : Int64} (h : shs[k]? = some (.inr (3, some n, rs))) : (wx E σ).set k (ga E k, .inl (E.2.1 3, n, .inr (.inl (vp_updL (gw σ k) j x)))) = wx E (pw σ k j x) := by
  rw [← adr_arr (E := E) (σ := σ) h]
  have e : gw (pw σ k j x) k = vp_updL (gw σ k) j x := if_pos rfl
  refine wx_set h (fun _ => rfl) ?_ (fun a sh ne => ?_)
  · simp only [ent, e]
    rfl
  · have e : gw (pw σ k j x) a = gw σ a := if_neg ne
    rcases sh with ⟨ci, fs⟩ | ⟨t, o, rs⟩
    · rfl
    · simp only [ent, e]
      rfl
