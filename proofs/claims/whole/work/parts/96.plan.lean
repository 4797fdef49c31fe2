/-! plan: the search as numbers. -/
abbrev PB : Type := Option (Int32 × (Nat → Int32))
def blt (x : Int32) : PB → Bool
  | none => true
  | some b => decide (x < b.1)
section PP
variable (st : Nat → Nat → Rw → Rw) (gd : Nat → Rw → Bool) (mm mw : Nat) (need : Int32)
def wsP (h w : Nat) (r : Rw) (ws : Int32) : Int32 := ws + st h w r 7 mm + st h w r 8 mm
def wkP (h w : Nat) (r : Rw) (wk : Int32) : Int32 := wk + st h w r 6 mm
/-- a mill's wheels from w on at an hour -/
def plL (rec : Rw → Int32 → Int32 → (Nat → Int32) → PB → Nat × PB) (d h : Nat) (r : Rw) (ws wk : Int32) (tr : Nat → Int32) : Nat → Nat → PB → Nat × PB
  | 0, _, b => (1, b)
  | c + 1, w, b => if blt (wsP st mm h w r ws) b && gd h (st h w r) then ((rec (st h w r) (wsP st mm h w r ws) (wkP st mm h w r wk) (upd tr d (nI w)) b).1 + (plL rec d h r ws wk tr c (w + 1) (rec (st h w r) (wsP st mm h w r ws) (wkP st mm h w r wk) (upd tr d (nI w)) b).2).1 + 1, (plL rec d h r ws wk tr c (w + 1) (rec (st h w r) (wsP st mm h w r ws) (wkP st mm h w r wk) (upd tr d (nI w)) b).2).2) else ((plL rec d h r ws wk tr c (w + 1) b).1 + 1, (plL rec d h r ws wk tr c (w + 1) b).2)
/-- e hours more -/
def plE : Nat → Nat → Nat → Rw → Int32 → Int32 → (Nat → Int32) → PB → Nat × PB
  | 0, _, _, _, ws, wk, tr, b => (0, if need ≤ wk then some (ws, tr) else b)
  | e + 1, d, h, r, ws, wk, tr, b => plL st gd mm (plE e (d + 1) (h + 1)) d h r ws wk tr (mw + 1) 0 b
end PP
section PQ
variable {st : Nat → Nat → Rw → Rw} {gd : Nat → Rw → Bool} {mm mw M : Nat} {need : Int32} {Ok : Rw → Prop}
/-- what a step of a plan may do -/
def StB (st : Nat → Nat → Rw → Rw) (mm mw M : Nat) (Ok : Rw → Prop) : Prop := ∀ h w r, w ≤ mw → Ok r → Ok (st h w r) ∧ ∃ th sp, st h w r 7 mm = nI th ∧ th ≤ 27 ∧ st h w r 8 mm = nI sp ∧ sp ≤ 40000 ∧ -800 ≤ (st h w r 6 mm).toInt ∧ (st h w r 6 mm).toInt ≤ M
theorem wsB (hB : StB st mm mw M Ok) {h w d : Nat} {r : Rw} (hw : w ≤ mw) (hr : Ok r) {ws : Int32} (h0 : 0 ≤ ws.toInt) (h1 : ws.toInt ≤ 50000 * d) (hd : d ≤ 6) : ws.toInt ≤ (wsP st mm h w r ws).toInt ∧ (wsP st mm h w r ws).toInt ≤ 50000 * ((d + 1 : Nat) : Int) := by
  obtain ⟨_, th, sp, e1, b1, e2, b2, _⟩ := hB h w r hw hr
  unfold wsP
  rw [e1, e2, i_add (i_add rfl (nI_toInt (n := th) (by omega)) (by omega) (by omega)) (nI_toInt (n := sp) (by omega)) (by omega) (by omega)]
  omega
theorem wkB (hB : StB st mm mw M Ok) (hM : M ≤ 800) {h w d : Nat} {r : Rw} (hw : w ≤ mw) (hr : Ok r) {wk : Int32} (h0 : -800 * (d : Int) ≤ wk.toInt) (h1 : wk.toInt ≤ 800 * d) (hd : d ≤ 6) : -800 * ((d + 1 : Nat) : Int) ≤ (wkP st mm h w r wk).toInt ∧ (wkP st mm h w r wk).toInt ≤ 800 * ((d + 1 : Nat) : Int) ∧ (wkP st mm h w r wk).toInt ≤ wk.toInt + M := by
  obtain ⟨_, th, sp, e1, b1, e2, b2, b3, b4⟩ := hB h w r hw hr
  unfold wkP
  rw [i_add rfl rfl (by omega) (by omega)]
  omega
theorem blt_mono {x y : Int32} {b : PB} (h : x.toInt ≤ y.toInt) (hx : blt x b = false) : blt y b = false := by
  cases b with
  | none => exact hx
  | some b =>
    unfold blt at hx ⊢
    rw [decide_eq_false_iff_not, Int32.lt_iff_toInt_lt] at hx ⊢
    omega
/-- what doesn't waste less is cut off -/
theorem plL_cut (hB : StB st mm mw M Ok) {rec : Rw → Int32 → Int32 → (Nat → Int32) → PB → Nat × PB} {d h : Nat} {r : Rw} {ws wk : Int32} {tr : Nat → Int32} {b : PB} (hr : Ok r) (h0 : 0 ≤ ws.toInt) (h1 : ws.toInt ≤ 50000 * d) (hd : d ≤ 6) (hb : blt ws b = false) : ∀ c w, w + c ≤ mw + 1 → (plL st gd mm rec d h r ws wk tr c w b).2 = b
  | 0, _, _ => rfl
  | c + 1, w, hw => by
    rw [plL, blt_mono (wsB hB (h := h) (by omega) hr h0 h1 hd).1 hb, Bool.false_and, if_neg (by decide)]
    exact plL_cut hB hr h0 h1 hd hb c (w + 1) (by omega)
/-- nor what can't do enough -/
theorem plE_cut (hB : StB st mm mw M Ok) (hM : M ≤ 800) : ∀ (e d h : Nat) (r : Rw) (ws wk : Int32) (tr : Nat → Int32) (b : PB), d + e ≤ 6 → Ok r → -800 * (d : Int) ≤ wk.toInt → wk.toInt ≤ 800 * d → wk.toInt + M * e < need.toInt → (plE st gd mm mw need e d h r ws wk tr b).2 = b := by
  intro e
  induction e with
  | zero =>
    intro d h r ws wk tr b hd hr k0 k1 hn
    rw [plE, if_neg (fun q => ?_)]
    rw [Int32.le_iff_toInt_le] at q
    omega
  | succ e ih =>
    intro d h r ws wk tr b hd hr k0 k1 hn
    rw [plE]
    have key : ∀ c w, w + c ≤ mw + 1 → (plL st gd mm (plE st gd mm mw need e (d + 1) (h + 1)) d h r ws wk tr c w b).2 = b := by
      intro c
      induction c with
      | zero => intro w _; rfl
      | succ c ihc =>
        intro w hw
        rw [plL]
        obtain ⟨q1, q2, q3⟩ := wkB hB hM (h := h) (w := w) (by omega) hr k0 k1 (by omega)
        have e1 : (plE st gd mm mw need e (d + 1) (h + 1) (st h w r) (wsP st mm h w r ws) (wkP st mm h w r wk) (upd tr d (nI w)) b).2 = b := by
          refine ih (d + 1) (h + 1) _ _ _ _ _ (by omega) (hB h w r (by omega) hr).1 q1 q2 ?_
          have : (M : Int) * ((e + 1 : Nat) : Int) = M * e + M := by rw [Int.natCast_add, Int.mul_add]; simp
          rw [this] at hn
          omega
        by_cases q : (blt (wsP st mm h w r ws) b && gd h (st h w r)) = true
        · rw [if_pos q, e1]
          exact ihc (w + 1) (by omega)
        · rw [if_neg q]
          exact ihc (w + 1) (by omega)
    exact key (mw + 1) 0 (by omega)
end PQ
/-! The class's search. -/
def xPl (a j : Nat) : Bool := xG a j || a == 46 || a == 47 || (a == 10 && decide (5 ≤ j))
def xDp (d a j : Nat) : Bool := xV a j || decide (126 + 13 * d ≤ a) || (a == 46 && decide (d ≤ j)) || a == 47 || (a == 10 && j == 5)
theorem xG_Pl {a j : Nat} (h : xPl a j = false) : xG a j = false := by
  unfold xPl at h
  simp only [Bool.or_eq_false_iff] at h
  exact h.1.1.1
theorem xDp_Pl {d a j : Nat} (h : xPl a j = false) : xDp d a j = false := by
  unfold xPl xG at h
  unfold xDp
  simp only [Bool.or_eq_false_iff, Bool.and_eq_false_iff, decide_eq_false_iff_not, beq_eq_false_iff_ne] at h ⊢
  obtain ⟨⟨⟨⟨⟨⟨h1, h2⟩, h3⟩, h4⟩, h5⟩, h6⟩, h7⟩ := h
  refine ⟨⟨⟨⟨h2, by omega⟩, Or.inl h5⟩, h6⟩, ?_⟩
  rcases h7 with q | q
  · exact Or.inl q
  · exact Or.inr (by omega)
theorem xDp_su {d a j : Nat} (h : xDp d a j = false) : xDp (d + 1) a j = false := by
  unfold xDp at h ⊢
  simp only [Bool.or_eq_false_iff, Bool.and_eq_false_iff, decide_eq_false_iff_not] at h ⊢
  obtain ⟨⟨⟨⟨h1, h2⟩, h3⟩, h4⟩, h5⟩ := h
  refine ⟨⟨⟨⟨h1, by omega⟩, ?_⟩, h4⟩, h5⟩
  rcases h3 with q | q
  · exact Or.inl q
  · exact Or.inr (by omega)
theorem xS_Dp {d a j : Nat} (h : xDp d a j = false) : xS (126 + 13 * d) a j = false := by
  unfold xDp at h
  unfold xS
  simp only [Bool.or_eq_false_iff, Bool.and_eq_false_iff, decide_eq_false_iff_not] at h ⊢
  obtain ⟨⟨⟨⟨h1, h2⟩, h3⟩, h4⟩, h5⟩ := h
  exact ⟨Or.inl (by omega), h1⟩
theorem BsD.pl {σ τ : St} {Ls : List Ru} {n O : Nat} (B : BsD σ Ls n O) (f : Fm xPl σ τ) : BsD τ Ls n O := by
  obtain ⟨b1, b2, b3, b4, b5, b6, b7⟩ := B
  refine ⟨b1.fm f rfl (fun a j h1 h2 => ?_), b2, (f.2 2 4 rfl).trans b3, by rw [f.2 2 6 rfl]; exact b4, b5, (f.2 4 4 rfl).trans b6, fun j hj => by rw [f.2 21 j rfl]; exact b7 j hj⟩
  unfold xPl
  rw [xG_no (by omega) (by omega) (by omega) (by omega) (by omega) (by omega)]
  have q1 : a ≠ 46 := by omega
  have q2 : a ≠ 47 := by omega
  have q3 : a ≠ 10 := by omega
  simp [q1, q2, q3]
theorem cfD_pl {σ τ : St} {Ls : List Ru} (f : Fm xPl σ τ) : cfD τ Ls = cfD σ Ls := by
  unfold cfD
  rw [f.2 2 4 rfl, f.gr (k := 12) (fun _ => rfl), f.gr (k := 13) (fun _ => rfl), f.gr (k := 15) (fun _ => rfl), f.2 2 5 rfl, f.2 2 6 rfl, f.gr (k := 16) (fun _ => rfl)]
/-- a step of a plan -/
def stP (σ : St) (Ls : List Ru) (O F mm : Nat) (h w : Nat) (r : Rw) : Rw := setW (cfD σ Ls) (fun m => hdO (gr σ 21) (gr σ 22) (gr σ 23) (-1) (gvO (gr σ 20) O h) (m + 7)) h (entW (cfD σ Ls) (fun m => rtW (gr σ 17) (gr σ 18) F (7 * h + m)) (fun m => if m = mm then nI w else hdO (gr σ 21) (gr σ 22) (gr σ 23) (-1) (gvO (gr σ 20) O h) m) r)
def gdP (σ : St) (Ls : List Ru) (n : Nat) (h : Nat) (r : Rw) : Bool := decide (fdM (bkW (cfD σ Ls) r h) Ls.length n 0 0 = -1)
/-- the planner in its search -/
def PdOk (σ : St) (F mm k M mw : Nat) (need : Int32) (τ : St) : Prop := Fm xPl σ τ ∧ (∀ i, i < 1680 → gv τ 19 i = rtW (gr σ 17) (gr σ 18) F i) ∧ gv τ 10 6 = nI mm ∧ gv τ 10 7 = nI k ∧ gv τ 10 8 = need ∧ gv τ 10 9 = nI M ∧ gv τ 10 10 = nI mw
def EnD (k : Nat) (τ : St) : PB → Prop
  | none => gv τ 10 5 = 2147483647
  | some b => gv τ 10 5 = b.1 ∧ 0 ≤ b.1.toInt ∧ b.1.toInt ≤ 300000 ∧ ∀ i, i < k → gv τ 47 i = b.2 i
section PD
variable {σ : St} {Ls : List Ru} {n O F mm k M mw : Nat} {need : Int32}
theorem PdOk.dp {d : Nat} {τ τ' : St} (h : PdOk σ F mm k M mw need τ) (f : Fm (xDp d) τ τ') : PdOk σ F mm k M mw need τ' := by
  obtain ⟨h1, h2, h3, h4, h5, h6, h7⟩ := h
  have q : ∀ j, j ≠ 5 → xDp d 10 j = false := fun j hj => by simp [xDp, xV, hj]; omega
  exact ⟨h1.tr (f.mono (fun _ _ q => xDp_Pl q)), fun i hi => (f.2 19 i (by simp [xDp, xV]; omega)).trans (h2 i hi), (f.2 10 6 (q 6 (by decide))).trans h3, (f.2 10 7 (q 7 (by decide))).trans h4, (f.2 10 8 (q 8 (by decide))).trans h5, (f.2 10 9 (q 9 (by decide))).trans h6, (f.2 10 10 (q 10 (by decide))).trans h7⟩
theorem EnD.fm {X : Nat → Nat → Bool} {τ τ' : St} {b : PB} (h : EnD k τ b) (f : Fm X τ τ') (h1 : X 10 5 = false) (h2 : ∀ i, X 47 i = false) : EnD k τ' b := by
  cases b with
  | none => exact (f.2 10 5 h1).trans h
  | some b =>
    obtain ⟨q1, q2, q3, q4⟩ := h
    exact ⟨(f.2 10 5 h1).trans q1, q2, q3, fun i hi => (f.2 47 i (h2 i)).trans (q4 i hi)⟩
/-- the class's answer of blt -/
theorem EnD_blt {τ : St} {b : PB} (h : EnD k τ b) {x : Int32} (hx : x.toInt ≤ 1000000) : (gv τ 10 5 ≤ x ↔ blt x b = false) := by
  cases b with
  | none =>
    have h : gv τ 10 5 = 2147483647 := h
    rw [h]
    refine ⟨fun q => ?_, fun q => by cases q⟩
    rw [Int32.le_iff_toInt_le, show (2147483647 : Int32).toInt = 2147483647 by decide] at q
    omega
  | some b =>
    rw [h.1]
    unfold blt
    rw [decide_eq_false_iff_not]
    exact i32_lt.symm
/-- copy, enter, the wheel, settle -/
theorem pstepD {Q : St → Prop} {q k2 h w : Nat} {r : Rw} {τ : St} (B : BsD σ Ls n O) (hq : Stg q) (hd : k2 + 13 ≤ q) (hh : h < 240) (hmm : mm < n) (hP : PdOk σ F mm k M mw need τ) (hS : StAt σ τ k2 n h r (-1) (gvT (gr σ 20) O h) (fun m => m ≠ mm))
    (hQ : ∀ τ', Fm (xS q) τ τ' → StAt σ τ' q n (h + 1) (stP σ Ls O F mm h w r) (-1) (gvT (gr σ 20) O (h + 1)) (fun m => m ≠ mm) → gv τ' q 2 = nI h → Q τ') :
    wX7_copy q k2 τ (fun σ6 => wX10_enter q σ6 (fun σ8 => vp_in (gv σ8 10 6) 7 ∧ ∀ σ10, σ10 = pv σ8 (q + 5) (gv σ8 10 6).toNatClampNeg (nI w) → wX10_settle q σ10 Q)) := by
  have hq1 := (stg_ge hq).1
  have hn := B.2.1
  obtain ⟨p1, p2, p3, p4, p5, p6, p7⟩ := hP
  obtain ⟨s1, s2, s3, s4, s5, s6⟩ := hS
  refine copyD hq (Or.inr hd) (fun τ1 f1 cc cr => ?_)
  have fP1 : Fm xPl σ τ1 := p1.tr (f1.mono (fun _ _ q => xS_G hq1 (xG_Pl q)))
  have B1 := B.pl fP1
  have e20 : gr τ1 20 = gr σ 20 := fP1.gr (fun _ => rfl)
  have e21 : gr τ1 21 = gr σ 21 := fP1.gr (fun _ => rfl)
  have e22 : gr τ1 22 = gr σ 22 := fP1.gr (fun _ => rfl)
  have e23 : gr τ1 23 = gr σ 23 := fP1.gr (fun _ => rfl)
  have S1 : StAt τ1 τ1 q n h r (-1) (gvT (gr σ 20) O h) (fun m => m ≠ mm) := by
    refine ⟨?_, ?_, ?_, fun i m hi hm => ?_, fun m hp hm => ?_, fun m hm => ?_⟩
    · rw [cc 2 (Or.inl rfl)]; exact s1
    · rw [cc 3 (Or.inr (Or.inl rfl))]; exact s2
    · rw [cc 4 (Or.inr (Or.inr rfl))]; exact s3
    · rw [show q + 3 + i = q + 2 + (i + 1) by omega, cr (i + 1) m (by omega), show k2 + 2 + (i + 1) = k2 + 3 + i by omega]
      exact s4 i m hi hm
    · rw [e21, e22, e23]
      exact (cr 3 m (by decide)).trans (s5 m hp hm)
    · rw [e21, e22, e23]
      exact (cr 0 m (by decide)).trans (s6 m hm)
  refine enterD (rn := fun m => rtW (gr σ 17) (gr σ 18) F (7 * h + m)) B1 hq hh Fm.rf S1 (gvT_le h) (fun m hm => ?_) (fun τ2 f2 g2 g3 g01 gw gg => ?_)
  · rw [f1.2 19 _ (by simp [xS, xV]; omega)]
    exact p2 _ (by omega)
  rw [e20, ← gvT_succ] at g3
  rw [e20, e21, e22, e23, ← gvT_succ] at gw gg
  have eqm : gv τ2 10 6 = nI mm := by
    rw [f2.2 10 6 (xE_no (by omega) (by omega) (by omega) (by omega) (by omega)), f1.2 10 6 (by simp [xS, xV]; omega)]
    exact p3
  rw [eqm]
  refine ⟨vp_in_nI (by omega) (by decide), ?_⟩
  rw [nI_clamp (by omega)]
  rintro σ10 rfl
  have fS2 : Fm (xS q) τ1 (pv τ2 (q + 5) mm (nI w)) := (f2.mono (fun _ _ q => xE_S q)).tr (Fm_pv (by simp [xS]))
  have fG3 : Fm xG τ1 (pv τ2 (q + 5) mm (nI w)) := fS2.mono (fun _ _ q => xS_G hq1 q)
  have e5 : gv τ1 2 5 = gv σ 2 5 := fP1.2 2 5 rfl
  refine settleD (W := fun m => if m = mm then nI w else hdO (gr σ 21) (gr σ 22) (gr σ 23) (-1) (gvO (gr σ 20) O h) m) (G := fun m => hdO (gr σ 21) (gr σ 22) (gr σ 23) (-1) (gvO (gr σ 20) O h) (m + 7)) (r := r) (rn := fun m => rtW (gr σ 17) (gr σ 18) F (7 * h + m)) B1 hq hh fG3 ?_ (fun m hm => ⟨?_, ?_, ?_⟩) (fun m hm => ?_) (fun τ3 f3 hr => ?_)
  · rw [gv_pv, if_neg (by omega)]
    exact g2
  · rw [gv_pv, if_neg (by omega)]
    exact (g01 m hm).1
  · rw [gv_pv, if_neg (by omega)]
    exact (g01 m hm).2
  · rw [gv_pv]
    by_cases c : m = mm
    · rw [if_pos ⟨rfl, c⟩, if_pos c]
    · rw [if_neg (fun z => c z.2), if_neg c]
      exact gw m c (by omega)
  · rw [gv_pv, if_neg (by omega)]
    exact gg m (by omega)
  · rw [cfD_pl fP1] at hr
    have lo : ∀ a b, a < q + 5 → a ≠ 37 → a ≠ 38 → a ≠ 8 → gv τ3 a b = gv τ2 a b := fun a b h1 h2 h3 h4 => by
      rw [f3.2 a b (xT_no hq1 (by omega) h2 h3 h4), gv_pv, if_neg (by omega)]
    refine hQ τ3 ((f1.tr fS2).tr (f3.mono (fun _ _ q => xT_S q))) ⟨?_, ?_, ?_, hr, fun m hp hm => ?_, fun m hm => ?_⟩ ?_
    · rw [lo q 2 (by omega) (by omega) (by omega) (by omega), g2]
      exact nI_1 h
    · rw [lo q 3 (by omega) (by omega) (by omega) (by omega)]
      exact g3
    · rw [lo q 4 (by omega) (by omega) (by omega) (by omega), f2.2 q 4 (xE_no (fun _ => by decide) (by omega) (by omega) (by omega) (by omega))]
      exact S1.2.2.1
    · rw [f3.2 (q + 5) m (xT_no hq1 (by omega) (by omega) (by omega) (by omega)), gv_pv, if_neg (fun z => hp z.2)]
      exact gw m hp hm
    · rw [lo (q + 2) m (by omega) (by omega) (by omega) (by omega)]
      exact gg m hm
    · rw [lo q 2 (by omega) (by omega) (by omega) (by omega)]
      exact g2
end PD
