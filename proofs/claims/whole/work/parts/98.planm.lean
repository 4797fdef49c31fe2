/-! plan: the reference's search. -/
section GD
variable {Ls : List Ru} {n : Nat}
theorem goM_inner {Q : Int32 → St → Prop} {K : Int32 → Int32 → St → Prop} {S : St} {m h : Nat} (hL : LwM S Ls) (hm : m < 7) (hh : h < 240) {v : Nat → Int32} (hv : VrM S (nI m) (nI h) (-1) v) {Bk : Nat → Nat → Bool} (hB : ∀ q x, Ls[q]? = some x → Bk m q = ruB x m (nI (h / 24)) v) {RES : Int32 ⊕ Nat}
    (hin : ∀ x f, RES = .inl x → Q 0 (pa S 92 f)) (hgo : ∀ i' f, RES = .inr i' → K (nI h) (nI (m + 1)) (pa S 92 f)) :
    ∀ (d r : Nat) (f : Nat → Int32), r + d = Ls.length → fdR Bk m d r 0 = RES → wX12_isGood_12 Q K (d + 1) (nI h) (nI m) (nI r) (pa S 92 f) := by
  have h30 := hL.2.1
  intro d
  induction d with
  | zero =>
    intro r f hr hR
    refine ⟨fun _ => ?_, fun c => ?_⟩
    · rintro x5 rfl
      rw [nI_1]
      exact hgo 0 f hR.symm
    · rw [pa_92 (by decide), hL.1, ← hr] at c
      exact absurd (Int32.le_refl _) c
  | succ d ih =>
    intro r f hr hR
    have hrl : r < Ls.length := by omega
    obtain ⟨x, hx⟩ : ∃ x, Ls[r]? = some x := ⟨_, List.getElem?_eq_getElem hrl⟩
    rw [wX12_isGood_12]
    refine ⟨fun c => ?_, fun _ => brkM (hL.keep (f := f)) hx hm hh hv.keep (fun f2 => ?_)⟩
    · rw [pa_92 (by decide), hL.1] at c
      exact absurd c (nI_ge hrl (by omega))
    rw [← hB r x hx, pa_pa]
    rw [fdR] at hR
    cases hb : Bk m r with
    | false =>
      rw [hb, if_neg (by decide)] at hR
      refine ⟨fun _ => ?_, fun c => absurd rfl c⟩
      rintro x6 rfl
      rw [nI_1]
      exact ih (r + 1) f2 (by omega) hR
    | true =>
      rw [hb, if_pos rfl, if_pos rfl] at hR
      exact ⟨fun c => absurd c z10, fun _ => hin _ f2 hR.symm⟩
theorem goM_mid {Q : Int32 → St → Prop} {S0 : St} {h : Nat} {r : Rw} (hL : LwM S0 Ls) (hn : n ≤ 7) (hh : h < 240) (eN : gv S0 11 43 = nI n) (hr : ∀ i m', i < 10 → m' < n → gv S0 88 (10 * (7 * h + m') + i) = r i m') {RES : Int32} (hin : ∀ f, RES ≠ -1 → Q 0 (pa S0 92 f)) (hgo : ∀ f, RES = -1 → Q 1 (pa S0 92 f)) : ∀ (d m : Nat) (f : Nat → Int32), m + d = n → fdM (bkW (cfM S0 Ls) r h) Ls.length d m 0 = RES → wX12_isGood_2 Q (d + 1) (nI h) (nI m) (pa S0 92 f) := by
  have h30 := hL.2.1
  intro d
  induction d with
  | zero =>
    intro m f hm hR
    have hR : (-1 : Int32) = RES := hR
    refine ⟨fun _ => hgo f hR.symm, fun c => ?_⟩
    rw [pa_92 (by decide), eN] at c
    exact absurd (nI_le (by omega) (by omega)) c
  | succ d ih =>
    intro m f hm hR
    have hmn : m < n := by omega
    rw [wX12_isGood_2, pa_92 (by decide), eN]
    refine ⟨fun c => absurd c (nI_ge hmn (by omega)), fun _ => ?_⟩
    have hv := varM_B (Ls := Ls) eN hmn hn hh hr
    refine ⟨Ls.length + 1, goM_inner (m := m) hL (by omega) hh hv (Bk := bkW (cfM S0 Ls) r h) (fun q x hx => bkW_some (c := cfM S0 Ls) hx) (RES := fdR (bkW (cfM S0 Ls) r h) m Ls.length 0 0) (fun x f1 hx => ?_) (fun i' f1 hx => ?_) Ls.length 0 f (by omega) rfl⟩
    · obtain ⟨q, h1, h2⟩ := fdR_inl _ _ _ _ hx
      rw [fdM, hx] at hR
      have hR : x = RES := hR
      refine hin f1 ?_
      rw [← hR, h2]
      exact nI_nm1 (by omega)
    · have hle := fdR_le _ _ _ _ hx
      have e0 : i' = 0 := by omega
      rw [e0] at hx
      rw [fdM, hx] at hR
      exact ih (m + 1) f1 (by omega) hR
theorem goodM {Q : Int32 → St → Prop} {S0 : St} {h : Nat} {r : Rw} (hL : LwM S0 Ls) (hn : n ≤ 7) (hh : h < 240) (eN : gv S0 11 43 = nI n) (hr : ∀ i m', i < 10 → m' < n → gv S0 88 (10 * (7 * h + m') + i) = r i m') {RES : Int32} (hR : fdM (bkW (cfM S0 Ls) r h) Ls.length n 0 0 = RES) (hin : ∀ f, RES ≠ -1 → Q 0 (pa S0 92 f)) (hgo : ∀ f, RES = -1 → Q 1 (pa S0 92 f)) : wX12_isGood (nI h) S0 Q := by
  have key := goM_mid (Q := Q) hL hn hh eN hr hin hgo n 0 (gr S0 92) (by omega) hR
  rw [pa_self] at key
  exact ⟨n + 1, key⟩
end GD
def xQ (a j : Nat) : Bool := xR a j || a == 94 || (a == 96 && decide (1 ≤ j)) || (a == 97 && decide (1 ≤ j)) || a == 95 || (a == 11 && j == 75)
def xMp (d a j : Nat) : Bool := xP a j || (a == 94 && decide (d ≤ j)) || (a == 96 && decide (d + 1 ≤ j)) || (a == 97 && decide (d + 1 ≤ j)) || a == 95 || (a == 11 && j == 75)
theorem xMp_Q {d a j : Nat} (h : xQ a j = false) : xMp d a j = false := by
  unfold xQ at h
  unfold xMp
  simp only [Bool.or_eq_false_iff, Bool.and_eq_false_iff, decide_eq_false_iff_not] at h ⊢
  obtain ⟨⟨⟨⟨⟨h1, h2⟩, h3⟩, h4⟩, h5⟩, h6⟩ := h
  refine ⟨⟨⟨⟨⟨(xR_P h1).1, Or.inl h2⟩, ?_⟩, ?_⟩, h5⟩, h6⟩
  · rcases h3 with q | q
    · exact Or.inl q
    · exact Or.inr (by omega)
  · rcases h4 with q | q
    · exact Or.inl q
    · exact Or.inr (by omega)
theorem xMp_su {d a j : Nat} (h : xMp d a j = false) : xMp (d + 1) a j = false := by
  unfold xMp at h ⊢
  simp only [Bool.or_eq_false_iff, Bool.and_eq_false_iff, decide_eq_false_iff_not] at h ⊢
  obtain ⟨⟨⟨⟨⟨h1, h2⟩, h3⟩, h4⟩, h5⟩, h6⟩ := h
  refine ⟨⟨⟨⟨⟨h1, ?_⟩, ?_⟩, ?_⟩, h5⟩, h6⟩
  · rcases h2 with q | q
    · exact Or.inl q
    · exact Or.inr (by omega)
  · rcases h3 with q | q
    · exact Or.inl q
    · exact Or.inr (by omega)
  · rcases h4 with q | q
    · exact Or.inl q
    · exact Or.inr (by omega)
theorem xP_Mp {d a j : Nat} (h : xMp d a j = false) : xP a j = false := by
  unfold xMp at h
  simp only [Bool.or_eq_false_iff] at h
  exact h.1.1.1.1.1
theorem xQ_no {a j : Nat} (h : a < 88) (h2 : a ≠ 11) : xQ a j = false := by
  unfold xQ
  rw [xR_no (Or.inl h) (fun q => absurd q h2)]
  have q1 : a ≠ 94 := by omega
  have q2 : a ≠ 96 := by omega
  have q3 : a ≠ 97 := by omega
  have q4 : a ≠ 95 := by omega
  simp [q1, q2, q3, q4, h2]
/-- the reference in its search -/
def PmOk (σ : St) (O F : Nat) (τ : St) : Prop := Fm xQ σ τ ∧ (∀ i, i < 1680 → gv τ 89 i = rtW (gr σ 17) (gr σ 18) F i) ∧ (∀ h i, h < 240 → i < 14 → gv τ 90 (14 * h + i) = hdO (gr σ 21) (gr σ 22) (gr σ 23) (-1) (gvO (gr σ 20) O h) i) ∧ gv τ 11 66 = -1
def LvM (n h : Nat) (r : Rw) (τ : St) : Prop := (∀ m, m < n → gv τ 88 (10 * (7 * h + m)) = r 0 m + (r 1 m - r 9 m)) ∧ (h ≠ 0 → ∀ m, m < n → gv τ 88 (10 * (7 * (h - 1) + m) + 9) = r 9 m) ∧ (h = 0 → ∀ m, r 9 m = 0)
def EnM (σ : St) (k : Nat) (best : Int32) (τ : St) : PB → Prop
  | none => best = -1 ∧ gv τ 11 75 = gv σ 11 75 ∧ gr τ 95 = gr σ 95
  | some b => best = b.1 ∧ 0 ≤ b.1.toInt ∧ b.1.toInt ≤ 300000 ∧ gv τ 11 75 = nI k ∧ ∀ i, i < k → gv τ 95 i = b.2 i
section PM
variable {σ : St} {Ls : List Ru} {n O F mm k M mw H : Nat} {need : Int32}
theorem PmOk.mp {d : Nat} {τ τ' : St} (h : PmOk σ O F τ) (f : Fm (xMp d) τ τ') : PmOk σ O F τ' := by
  obtain ⟨h1, h2, h3, h4⟩ := h
  exact ⟨h1.tr (f.mono (fun _ _ q => xMp_Q q)), fun i hi => (f.2 89 i rfl).trans (h2 i hi), fun h i a b => (f.2 90 _ rfl).trans (h3 h i a b), (f.2 11 66 rfl).trans h4⟩
theorem EnM.fm {X : Nat → Nat → Bool} {τ τ' : St} {b : PB} {best : Int32} (h : EnM σ k best τ b) (f : Fm X τ τ') (h1 : X 11 75 = false) (h2 : ∀ i, X 95 i = false) : EnM σ k best τ' b := by
  cases b with
  | none => exact ⟨h.1, (f.2 11 75 h1).trans h.2.1, (f.gr h2).trans h.2.2⟩
  | some b =>
    obtain ⟨q1, q2, q3, q4, q5⟩ := h
    exact ⟨q1, q2, q3, (f.2 11 75 h1).trans q4, fun i hi => (f.2 95 i (h2 i)).trans (q5 i hi)⟩
/-- the reference's answer of blt -/
theorem EnM_blt {τ : St} {b : PB} {best x : Int32} {A C : Prop} (h : EnM σ k best τ b) (hy : blt x b = true → A) (hn : blt x b = false → C) : (best = -1 → A) ∧ (¬ best = -1 → (best ≤ x → C) ∧ (¬ best ≤ x → A)) := by
  cases b with
  | none => exact ⟨fun _ => hy rfl, fun c => absurd h.1 c⟩
  | some b =>
    unfold blt at hy hn
    refine ⟨fun c => ?_, fun _ => ⟨fun c => hn ?_, fun c => hy ?_⟩⟩
    · exfalso
      have q := h.2.1
      rw [← h.1, c] at q
      exact absurd q (by decide)
    · rw [h.1] at c
      exact decide_eq_false (i32_lt.mpr c)
    · rw [h.1] at c
      exact decide_eq_true (i32_le.mp c)
/-- the plan is written down -/
theorem keepM {Q : Int32 → St → Prop} {K : Int32 → Int32 → Int32 → Int32 → Int32 → St → Prop} {x1 x3 x4 x5 : Int32} {τ0 : St} (hk : k ≤ 6) (hQ : ∀ τ, Fm (fun a _ => a == 95) τ0 τ → (∀ i, i < k → gv τ 95 i = gv τ0 94 i) → K x1 (nI k) x3 x4 x5 τ) : ∀ (c j : Nat) (τ : St), j + c = k → Fm (fun a _ => a == 95) τ0 τ → (∀ i, i < j → gv τ 95 i = gv τ0 94 i) → wX12_plan_292 Q K (c + 1) x1 (nI k) x3 x4 x5 (nI j) τ := by
  intro c
  induction c with
  | zero =>
    intro j τ hj f h
    exact ⟨fun _ => hQ τ f (fun i hi => h i (by omega)), fun c => absurd (nI_le (by omega) (by omega)) c⟩
  | succ c ih =>
    intro j τ hj f h
    rw [wX12_plan_292, nI_clamp (show j < 2 ^ 31 by omega)]
    refine ⟨fun c => absurd c (nI_ge (by omega) (by omega)), fun _ => ⟨vp_in_nI (by omega) (by decide), vp_in_nI (by omega) (by decide), ?_⟩⟩
    rintro σ4 rfl x8 rfl
    rw [nI_1]
    refine ih (j + 1) _ (by omega) (f.tr (Fm_pv rfl)) (fun i hi => ?_)
    rw [gv_pv]
    by_cases q : i = j
    · rw [if_pos ⟨rfl, q⟩, f.2 94 j rfl, q]
    · rw [if_neg (fun z => q z.2)]
      exact h i (by omega)
theorem gtOk2 (h76 : gr σ 15 = gr σ 76) (B : Bun σ Ls n O F) (w : Int32) {g m : Nat} (hg : g ≤ O) (hm : m < n) : ∃ x, x ≤ 9 ∧ hdO (gr σ 21) (gr σ 22) (gr σ 23) w g (m + 7) = nI x ∧ hdO (gr σ 21) (gr σ 22) (gr σ 23) w g (m + 7) ≤ (cfD σ Ls).2.2.2.1 m := by
  have q := B.2.2.1.2.2.2.2.2.2.2.2.2.2 w g m hg hm
  rw [B.2.2.2.2.2.1, B.2.2.2.2.2.2.1, B.2.2.2.2.2.2.2.1] at q
  have e : gv σ 76 m = gr σ 15 m := (congrFun h76 m).symm
  rw [e] at q
  exact q
/-- an hour of the reference's plan -/
theorem pstepM {Q : St → Prop} {h w : Nat} {r : Rw} {τ : St} (h76 : gr σ 15 = gr σ 76) (Bn : Bun σ Ls n O F) (hh : h < 240) (hmm : mm < n) (hw : w ≤ 4) (P : PmOk σ O F τ) (hL : LvM n h r τ)
    (hQ : ∀ τ', Fm xP τ τ' → (∀ i m, i < 10 → m < n → gv τ' 88 (10 * (7 * h + m) + i) = stP σ Ls O F mm h w r i m) → (h + 1 < 240 → LvM n (h + 1) (stP σ Ls O F mm h w r) τ') → (∀ j, j < 70 * h → gv τ' 88 j = gv τ 88 j) → Q τ') : wX12_steps (nI h) (nI mm) (nI w) τ Q := by
  obtain ⟨p1, p2, p3, p4⟩ := P
  obtain ⟨l1, l2, l3⟩ := hL
  obtain ⟨hF4, hn, hO⟩ := BunF Bn
  obtain ⟨b1, b2, b3, b4, b5, b6, b7, b8, b9, b10, b11⟩ := Bn.2.2.1
  have e11 : ∀ j, j ≠ 66 → j ≠ 67 → j ≠ 75 → gv τ 11 j = gv σ 11 j := fun j h1 h2 h3 => p1.2 11 j (by unfold xQ; rw [xR_no (Or.inl (by decide)) (fun _ => ⟨h1, h2⟩)]; simp [h3])
  have ec : cfM τ Ls = cfD σ Ls := by
    rw [cfM_fm p1 (fun j hj => by rcases hj with rfl | rfl | rfl <;> rfl) (fun a j h1 h2 => xQ_no (by omega) (by omega)), Bn.2.2.2.1]
  have e76 : ∀ m, gv τ 76 m = gv σ 76 m := fun m => p1.2 76 m rfl
  have g76 : ∀ m, gv σ 76 m = (cfD σ Ls).2.2.2.1 m := fun m => (congrFun h76 m).symm
  refine stepsM (r := r) (rn := fun m => rtW (gr σ 17) (gr σ 18) F (7 * h + m)) (W := fun m => if m = mm then nI w else hdO (gr σ 21) (gr σ 22) (gr σ 23) (-1) (gvO (gr σ 20) O h) m) (G := fun m => hdO (gr σ 21) (gr σ 22) (gr σ 23) (-1) (gvO (gr σ 20) O h) (m + 7)) (b1.fm p1 rfl (fun a j h1 h2 => xQ_no (by omega) (by omega))) hn ((e11 43 (by decide) (by decide) (by decide)).trans b3) hh (by rw [e11 49 (by decide) (by decide) (by decide)]; exact b4) (fun m hm => by rw [p1.2 73 m rfl]; exact b5 m hm) (fun m hm => by rw [e76]; exact b6 m hm) l1 l2 l3 (fun m hm => p2 _ (by omega)) (fun m hm => ?_) (fun m hm => ?_) (fun m hm => ?_) (fun m hm => ?_) (fun τ1 f1 q1 q2 q3 => ?_)
  · by_cases c : m = mm
    · rw [if_pos (by rw [c]), if_pos c]
    · rw [if_neg (fun z => c ((nI_eq (by omega) (by omega)).mp z)), if_neg c]
      exact p3 h m hh (by omega)
  · have := p3 h (7 + m) hh (by omega)
    rw [show 14 * h + (7 + m) = 14 * h + 7 + m by omega, show 7 + m = m + 7 by omega] at this
    exact this
  · rw [e76, g76]
    exact gtOk2 h76 Bn (-1) (gvT_le (h + 1)) hm
  · by_cases c : m = mm
    · rw [if_pos c]
      exact ⟨w, hw, rfl⟩
    · rw [if_neg c]
      exact whOk Bn (-1) (gvT_le (h + 1)) hm
  · rw [ec] at q1 q2
    refine hQ τ1 f1 q1 (fun z => ⟨q2 z, fun _ m hm => ?_, fun z => absurd z (by omega)⟩) q3
    rw [show h + 1 - 1 = h by omega]
    exact q1 9 m (by decide) hm
end PM
