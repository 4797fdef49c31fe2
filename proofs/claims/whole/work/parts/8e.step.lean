/-! An hour in the class: enter, then settle; over a base state's numbers. -/
def xG (a j : Nat) : Bool := decide (100 ≤ a) || xV a j || a == 19 || (a == 3 && j == 4)
theorem xG_no {a j : Nat} (h : a < 100) (h1 : a ≠ 37) (h2 : a ≠ 38) (h3 : a ≠ 19) (h4 : a = 8 → j ≠ 18) (h5 : a = 3 → j ≠ 4) : xG a j = false := by
  unfold xG xV
  have e : decide (100 ≤ a) = false := decide_eq_false (by omega)
  by_cases q : a = 8
  · have := h4 q
    simp [e, q, this]
  · by_cases q2 : a = 3
    · have := h5 q2
      simp [q2, this]
    · simp [e, h1, h2, h3, q, q2]
theorem xE_G {k a j : Nat} (hk : 100 ≤ k) (h : xG a j = false) : xE k a j = false := by
  unfold xG at h
  simp only [Bool.or_eq_false_iff, decide_eq_false_iff_not] at h
  exact xE_out hk (by omega)
theorem xT_G {k a j : Nat} (hk : 100 ≤ k) (h : xG a j = false) : xT k a j = false := by
  unfold xG at h
  simp only [Bool.or_eq_false_iff, decide_eq_false_iff_not] at h
  unfold xT
  have e : decide (k + 6 ≤ a) = false := decide_eq_false (by omega)
  rw [e, h.1.1.2]
  rfl
/-- a base state for the water: mills, factors, orders, law -/
def BsD (σ : St) (Ls : List Ru) (n O : Nat) : Prop := LwD σ Ls ∧ n ≤ 7 ∧ gv σ 2 4 = nI n ∧ FcOk (gv σ 2 6) ∧ O ≤ 200 ∧ gv σ 4 4 = nI O ∧ ∀ j, j < O → ∃ m, m < 7 ∧ gv σ 21 j = nI m
/-- a stage whose next hour is t: rows, orders given -/
def StAt (σ0 σ : St) (k n t : Nat) (r : Rw) (w : Int32) (g : Nat) (P : Nat → Prop) : Prop := gv σ k 2 + 1 = nI t ∧ gv σ k 3 = nI g ∧ gv σ k 4 = w ∧ (∀ i m, i < 10 → m < n → gv σ (k + 3 + i) m = r i m) ∧ (∀ m, P m → m < 7 → gv σ (k + 5) m = hdO (gr σ0 21) (gr σ0 22) (gr σ0 23) w g m) ∧ ∀ m, m < 7 → gv σ (k + 2) m = hdO (gr σ0 21) (gr σ0 22) (gr σ0 23) w g (m + 7)
theorem LwD.fg {σ0 σ : St} {Ls : List Ru} (h : LwD σ0 Ls) (f : Fm xG σ0 σ) : LwD σ Ls := h.fm f rfl (fun a j h1 h2 => xG_no (by omega) (by omega) (by omega) (by omega) (by omega) (by omega))
theorem setW_congr {c : Cf} {G G' : Nat → Int32} {h : Nat} {r r' : Rw} (hok : ∀ x ∈ c.2.2.2.2.2.2, okRu x) (hr : ∀ i m, i < 3 → m < c.1 → r i m = r' i m) (hG : ∀ m, m < c.1 → G m = G' m) {i m : Nat} (hi : 3 ≤ i) (hi2 : i < 10) (hm : m < c.1) : setW c G h r i m = setW c G' h r' i m := by
  have e0 := hr 0 m (by decide) hm
  have e1 := hr 1 m (by decide) hm
  have e2 := hr 2 m (by decide) hm
  have eg : gtW c G h r m = gtW c G' h r' m := by
    unfold gtW
    rw [hG m hm]
    refine opG_congr (fun j hj => ?_) _ _ _ _ hok _
    rcases (show j = 0 ∨ j = 1 ∨ j = 2 ∨ j = 3 ∨ j = 4 ∨ j = 5 ∨ j = 6 ∨ j = 7 ∨ j = 8 ∨ j = 9 ∨ j = 10 ∨ j = 11 by omega) with rfl | rfl | rfl | rfl | rfl | rfl | rfl | rfl | rfl | rfl | rfl | rfl
    · exact e0
    · rfl
    · rfl
    · simp only [envO]
      by_cases q : m + 1 < c.1
      · rw [if_pos q, if_pos q, hr 0 (m + 1) (by decide) q]
      · rw [if_neg q, if_neg q]
    · simp only [envO]
      by_cases q : 0 < m
      · rw [if_pos q, if_pos q, hr 0 (m - 1) (by decide) (by omega)]
      · rw [if_neg q, if_neg q]
    · exact e1
    · exact e2
    all_goals rfl
  have eh : hdW c r m = hdW c r' m := by
    unfold hdW
    rw [e0]
    by_cases q : m + 1 < c.1
    · rw [if_pos q, if_pos q, hr 0 (m + 1) (by decide) q]
    · rw [if_neg q, if_neg q]
  have eu : usW r m = usW r' m := by unfold usW; rw [e0, e1, e2]
  have et : thW c G h r m = thW c G' h r' m := by unfold thW; rw [eg, eu, e0, e1]
  have es : spW c G h r m = spW c G' h r' m := by unfold spW; rw [et, eu, e0, e1]
  unfold setW
  rw [eg, eh, eu, et, es]
  rcases (show i = 3 ∨ i = 4 ∨ i = 5 ∨ i = 6 ∨ i = 7 ∨ i = 8 ∨ i = 9 by omega) with rfl | rfl | rfl | rfl | rfl | rfl | rfl
  all_goals simp only [Nat.reduceEqDiff, if_true, if_false]
section SD
variable {σ0 σ : St} {Q : St → Prop} {Ls : List Ru} {k h n O g : Nat} {r : Rw} {w : Int32} {P : Nat → Prop} {rn : Nat → Int32}
theorem enterD (B : BsD σ0 Ls n O) (hk : Stg k) (hh : h < 240) (f : Fm xG σ0 σ) (hS : StAt σ0 σ k n h r w g P) (hg : g ≤ O) (hrn : ∀ m, m < n → gv σ 19 (7 * h + m) = rn m)
    (hQ : ∀ τ, Fm (xE k) σ τ → gv τ k 2 = nI h → gv τ k 3 = nI (cnO (gr σ0 20) O h O g) → (∀ m, m < n → gv τ (k + 3) m = r 0 m + (r 1 m - r 9 m) ∧ gv τ (k + 4) m = rn m + (if m = 0 then gv σ0 2 5 else r 9 (m - 1))) → (∀ m, P m → m < 7 → gv τ (k + 5) m = hdO (gr σ0 21) (gr σ0 22) (gr σ0 23) w (cnO (gr σ0 20) O h O g) m) → (∀ m, m < 7 → gv τ (k + 2) m = hdO (gr σ0 21) (gr σ0 22) (gr σ0 23) w (cnO (gr σ0 20) O h O g) (m + 7)) → Q τ) : wX10_enter k σ Q := by
  have hk1 := (stg_ge hk).1
  obtain ⟨-, hn, eN, -, hO, eO, hmi⟩ := B
  obtain ⟨s1, s2, s3, s4, s5, s6⟩ := hS
  intro σ1 e1
  rw [s1] at e1
  have f1 : Fm (xE k) σ σ1 := by rw [e1]; exact Fm_pv (by simp [xE])
  have r1 : ∀ a b, a ≠ k → gv σ1 a b = gv σ a b := fun a b ha => by rw [e1, gv_pv, if_neg (fun q => ha q.1)]
  have c0 : ∀ (τ : St), Fm (xE k) σ τ → Fm xG σ0 τ := fun τ ft => f.tr (ft.mono (fun a j q => xE_G hk1 q))
  have eH1 : gv σ1 k 2 = nI h := by rw [e1, gv_pv, if_pos ⟨rfl, rfl⟩]
  have cf : ∀ {τ : St}, Fm xG σ0 τ → gv τ 2 4 = nI n ∧ gv τ 4 4 = nI O ∧ gr τ 20 = gr σ0 20 ∧ gr τ 21 = gr σ0 21 ∧ gr τ 22 = gr σ0 22 ∧ gr τ 23 = gr σ0 23 ∧ gv τ 2 5 = gv σ0 2 5 := fun ft => ⟨(ft.2 2 4 rfl).trans eN, (ft.2 4 4 rfl).trans eO, ft.gr (fun _ => rfl), ft.gr (fun _ => rfl), ft.gr (fun _ => rfl), ft.gr (fun _ => rfl), ft.2 2 5 rfl⟩
  obtain ⟨a1, a2, a3, a4, a5, a6, a7⟩ := cf (c0 _ f1)
  refine ⟨n + 1, lev_loop (σ := σ1) hk hn a1 hh eH1 (fun τ ft f0 f2 f5 hl => ?_) n 0 σ1 (by omega) Fm.rf rfl rfl rfl (fun m' q => absurd q (by omega)) (fun m' _ => ⟨rfl, rfl⟩)⟩
  have ft' := f1.tr ft
  obtain ⟨b1, b2, b3, b4, b5, b6, b7⟩ := cf (c0 _ ft')
  have eHτ : gv τ k 2 = nI h := (congrFun f0 2).trans eH1
  have e3τ : gv τ k 3 = nI g := by
    refine (congrFun f0 3).trans ?_
    show gv σ1 k 3 = nI g
    rw [e1, gv_pv, if_neg (by omega)]
    exact s2
  have e4τ : gv τ k 4 = w := by
    refine (congrFun f0 4).trans ?_
    show gv σ1 k 4 = w
    rw [e1, gv_pv, if_neg (by omega)]
    exact s3
  refine ⟨O + 1, ordD (σ := τ) (P := P) (R := cnO (gr σ0 20) O h O g) hk hO b2 hh eHτ e4τ (fun j hj => ?_) (fun υ fu u3 uw ug => ?_) O g O τ (by omega) (by omega) hg (by rw [b3]) Fm.rf e3τ (fun m hp hm => ?_) (fun m hm => ?_)⟩
  · obtain ⟨m, h1, h2⟩ := hmi j hj
    exact ⟨m, h1, (congrFun b4 j).trans h2⟩
  · have fe : Fm (xE k) τ υ := fu.mono (fun a j q => xO_E q)
    rw [b4, b5, b6] at uw ug
    refine hQ υ (ft'.tr fe) ?_ u3 (fun m hm => ?_) uw ug
    · rw [fu.2 k 2 (xO_no (fun _ => by decide) (by omega) (by omega))]
      exact eHτ
    · rw [fu.2 (k + 3) m (xO_no (by omega) (by omega) (by omega)), fu.2 (k + 4) m (xO_no (by omega) (by omega) (by omega))]
      obtain ⟨q1, q2⟩ := hl m hm
      rw [q1, q2, r1 (k + 3) m (by omega), r1 (k + 4) m (by omega), r1 (k + 12) m (by omega), r1 19 _ (by omega), a7, r1 (k + 12) (m - 1) (by omega), hrn m hm, show gv σ (k + 3) m = r 0 m from s4 0 m (by decide) hm, show gv σ (k + 4) m = r 1 m from s4 1 m (by decide) hm, show gv σ (k + 12) m = r 9 m from s4 9 m (by decide) hm]
      refine ⟨rfl, ?_⟩
      by_cases hm0 : m = 0
      · rw [if_pos hm0, if_pos hm0]
      · rw [if_neg hm0, if_neg hm0, show gv σ (k + 12) (m - 1) = r 9 (m - 1) from s4 9 (m - 1) (by decide) (by omega)]
  · rw [b4, b5, b6]
    refine (congrFun f5 m).trans ?_
    show gv σ1 (k + 5) m = _
    rw [r1 _ _ (by omega)]
    exact s5 m hp hm
  · rw [b4, b5, b6]
    refine (congrFun f2 m).trans ?_
    show gv σ1 (k + 2) m = _
    rw [r1 _ _ (by omega)]
    exact s6 m hm
/-- the whole hour, with wheels W for the mills -/
theorem settleD (B : BsD σ0 Ls n O) (hk : Stg k) (hh : h < 240) {υ : St} (f : Fm xG σ0 υ) {W G : Nat → Int32} (eH : gv υ k 2 = nI h) (h01 : ∀ m, m < n → gv υ (k + 3) m = entW (cfD σ0 Ls) rn W r 0 m ∧ gv υ (k + 4) m = entW (cfD σ0 Ls) rn W r 1 m ∧ gv υ (k + 5) m = W m) (hG : ∀ m, m < n → gv υ (k + 2) m = G m)
    (hQ : ∀ τ, Fm (xT k) υ τ → (∀ i m, i < 10 → m < n → gv τ (k + 3 + i) m = setW (cfD σ0 Ls) G h (entW (cfD σ0 Ls) rn W r) i m) → Q τ) : wX10_settle k υ Q := by
  have hk1 := (stg_ge hk).1
  obtain ⟨hL, hn, eN, hF, hO, eO, hmi⟩ := B
  have ec : cfD υ Ls = cfD σ0 Ls := by
    unfold cfD
    rw [f.2 2 4 rfl, f.gr (k := 12) (fun _ => rfl), f.gr (k := 13) (fun _ => rfl), f.gr (k := 15) (fun _ => rfl), f.2 2 5 rfl, f.2 2 6 rfl, f.gr (k := 16) (fun _ => rfl)]
  have hcn : (cfD σ0 Ls).1 = n := by
    show (gv σ0 2 4).toNatClampNeg = n
    rw [eN]
    exact nI_clamp (by omega)
  have hro : ∀ i m, i < 3 → m < (cfD σ0 Ls).1 → rwD υ k i m = entW (cfD σ0 Ls) rn W r i m := fun i m hi hm => by
    rw [hcn] at hm
    obtain ⟨q0, q1, q2⟩ := h01 m hm
    rcases (show i = 0 ∨ i = 1 ∨ i = 2 by omega) with rfl | rfl | rfl
    · exact q0
    · exact q1
    · exact q2
  refine setD (hL.fg f) hk hn ((f.2 2 4 rfl).trans eN) eH hh (by rw [f.2 2 6 rfl]; exact hF) (fun τ ft hr => hQ τ ft (fun i m hi hm => ?_))
  rw [hr i m hi hm, ec]
  by_cases h3 : 3 ≤ i
  · exact setW_congr hL.2.2.2.1 hro (fun m hm => hG m (by rw [hcn] at hm; exact hm)) h3 hi (by rw [hcn]; exact hm)
  · have e := hro i m (by omega) (by rw [hcn]; exact hm)
    rcases (show i = 0 ∨ i = 1 ∨ i = 2 by omega) with rfl | rfl | rfl <;> exact e
def xS (k a j : Nat) : Bool := (decide (k ≤ a) && decide (a < k + 13)) || xV a j
theorem xE_S {k a j : Nat} (h : xS k a j = false) : xE k a j = false := by
  unfold xS at h
  rw [Bool.or_eq_false_iff, Bool.and_eq_false_iff, decide_eq_false_iff_not, decide_eq_false_iff_not] at h
  exact xE_no (by omega) (by omega) (by omega) (by omega) (by omega)
theorem xT_S {k a j : Nat} (h : xS k a j = false) : xT k a j = false := by
  unfold xS at h
  unfold xT
  rw [Bool.or_eq_false_iff, Bool.and_eq_false_iff, decide_eq_false_iff_not, decide_eq_false_iff_not] at h
  rw [h.2, Bool.or_false, Bool.and_eq_false_iff, decide_eq_false_iff_not, decide_eq_false_iff_not]
  omega
theorem xS_G {k a j : Nat} (hk : 100 ≤ k) (h : xG a j = false) : xS k a j = false := by
  unfold xG at h
  simp only [Bool.or_eq_false_iff, decide_eq_false_iff_not] at h
  unfold xS
  have e : decide (k ≤ a) = false := decide_eq_false (by omega)
  rw [e, h.1.1.2]
  rfl
/-- a step by orders alone -/
theorem stepD (B : BsD σ0 Ls n O) (hk : Stg k) (hh : h < 240) (f : Fm xG σ0 σ) (hS : StAt σ0 σ k n h r w g (fun _ => True)) (hg : g ≤ O) (hrn : ∀ m, m < n → gv σ 19 (7 * h + m) = rn m)
    (hQ : ∀ τ, Fm (xS k) σ τ → StAt σ0 τ k n (h + 1) (setW (cfD σ0 Ls) (fun m => hdO (gr σ0 21) (gr σ0 22) (gr σ0 23) w (cnO (gr σ0 20) O h O g) (m + 7)) h (entW (cfD σ0 Ls) rn (fun m => hdO (gr σ0 21) (gr σ0 22) (gr σ0 23) w (cnO (gr σ0 20) O h O g) m) r)) w (cnO (gr σ0 20) O h O g) (fun _ => True) → Q τ) : wX10_step k σ Q := by
  have hk1 := (stg_ge hk).1
  have hn := B.2.1
  refine enterD B hk hh f hS hg hrn (fun υ fu u2 u3 u01 uw ug => ?_)
  have fG := f.tr (fu.mono (fun a j q => xE_G hk1 q))
  refine settleD (W := fun m => hdO (gr σ0 21) (gr σ0 22) (gr σ0 23) w (cnO (gr σ0 20) O h O g) m) (G := fun m => hdO (gr σ0 21) (gr σ0 22) (gr σ0 23) w (cnO (gr σ0 20) O h O g) (m + 7)) (r := r) (rn := rn) B hk hh fG u2 (fun m hm => ⟨(u01 m hm).1, (u01 m hm).2, uw m trivial (by omega)⟩) (fun m hm => ug m (by omega)) (fun τ ft hr => ?_)
  have lo : ∀ a b, a < k + 6 → a ≠ 37 → a ≠ 38 → a ≠ 8 → gv τ a b = gv υ a b := fun a b h1 h2 h3 h4 => ft.2 a b (xT_no hk1 h1 h2 h3 h4)
  refine hQ τ ((fu.mono (fun a j q => xE_S q)).tr (ft.mono (fun a j q => xT_S q))) ⟨?_, ?_, ?_, hr, fun m _ hm => ?_, fun m hm => ?_⟩
  · rw [lo k 2 (by omega) (by omega) (by omega) (by omega), u2]
    exact nI_1 h
  · rw [lo k 3 (by omega) (by omega) (by omega) (by omega)]
    exact u3
  · rw [lo k 4 (by omega) (by omega) (by omega) (by omega), fu.2 k 4 (xE_no (fun _ => by decide) (by omega) (by omega) (by omega) (by omega))]
    exact hS.2.2.1
  · rw [lo (k + 5) m (by omega) (by omega) (by omega) (by omega)]
    exact uw m trivial hm
  · rw [lo (k + 2) m (by omega) (by omega) (by omega) (by omega)]
    exact ug m hm
end SD
