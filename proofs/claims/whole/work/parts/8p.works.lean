/-! The reference's hours. -/
def BsM (σ : St) (Ls : List Ru) (n O : Nat) : Prop := LwM σ Ls ∧ n ≤ 7 ∧ gv σ 11 43 = nI n ∧ FcOk (gv σ 11 49) ∧ (∀ m, m < n → ∃ c, c ≤ 1000 ∧ gv σ 73 m = nI c) ∧ (∀ m, m < n → ∃ g, g ≤ 9 ∧ gv σ 76 m = nI g) ∧ O ≤ 200 ∧ gv σ 11 56 = nI O ∧ (∀ j, j < O → ∃ m, m < 7 ∧ gv σ 82 j = nI m) ∧
  (∀ w g m, g ≤ O → m < n → ∃ x, x ≤ 4 ∧ hdO (gr σ 82) (gr σ 83) (gr σ 84) w g m = nI x) ∧ ∀ w g m, g ≤ O → m < n → ∃ x, x ≤ 9 ∧ hdO (gr σ 82) (gr σ 83) (gr σ 84) w g (m + 7) = nI x ∧ hdO (gr σ 82) (gr σ 83) (gr σ 84) w g (m + 7) ≤ gv σ 76 m
def xR (a j : Nat) : Bool := (decide (88 ≤ a) && decide (a ≤ 93)) || (a == 11 && (j == 66 || j == 67))
theorem xR_no {a j : Nat} (h : a < 88 ∨ 93 < a) (h2 : a = 11 → j ≠ 66 ∧ j ≠ 67) : xR a j = false := by
  unfold xR
  have e : (decide (88 ≤ a) && decide (a ≤ 93)) = false := by
    rcases h with h | h
    · rw [decide_eq_false (by omega), Bool.false_and]
    · rw [show decide (a ≤ 93) = false from decide_eq_false (by omega), Bool.and_false]
  rw [e, Bool.false_or]
  by_cases q : a = 11
  · have := h2 q
    simp [this.1, this.2]
  · simp [q]
theorem xR_P {a j : Nat} (h : xR a j = false) : xP a j = false ∧ xW a j = false ∧ (a == 89) = false ∧ (a == 88) = false ∧ (a == 92) = false := by
  unfold xR at h
  rw [Bool.or_eq_false_iff, Bool.and_eq_false_iff, decide_eq_false_iff_not, decide_eq_false_iff_not] at h
  have : a < 88 ∨ 93 < a := by omega
  unfold xP xW
  have h1 : a ≠ 88 := by omega
  have h2 : a ≠ 89 := by omega
  have h3 : a ≠ 90 := by omega
  have h4 : a ≠ 91 := by omega
  have h5 : a ≠ 92 := by omega
  have h6 : a ≠ 93 := by omega
  simp [h1, h2, h3, h4, h5, h6]
theorem BsM.fm {σ τ : St} {Ls : List Ru} {n O : Nat} (B : BsM σ Ls n O) (f : Fm xR σ τ) : BsM τ Ls n O := by
  obtain ⟨b1, b2, b3, b4, b5, b6, b7, b8, b9, b10, b11⟩ := B
  have g : ∀ a, a < 88 → a ≠ 11 → gr τ a = gr σ a := fun a h1 h2 => f.gr (fun j => xR_no (Or.inl h1) (fun q => absurd q h2))
  have v : ∀ a j, a < 88 → a ≠ 11 → gv τ a j = gv σ a j := fun a j h1 h2 => f.2 a j (xR_no (Or.inl h1) (fun q => absurd q h2))
  refine ⟨b1.fm f rfl (fun a j h1 h2 => xR_no (Or.inl (by omega)) (by omega)), b2, (f.2 11 43 rfl).trans b3, by rw [f.2 11 49 rfl]; exact b4, fun m hm => by rw [v 73 m (by decide) (by decide)]; exact b5 m hm, fun m hm => by rw [v 76 m (by decide) (by decide)]; exact b6 m hm, b7, (f.2 11 56 rfl).trans b8, fun j hj => by rw [v 82 j (by decide) (by decide)]; exact b9 j hj, ?_, ?_⟩
  · rw [g 82 (by decide) (by decide), g 83 (by decide) (by decide), g 84 (by decide) (by decide)]
    exact b10
  · rw [g 82 (by decide) (by decide), g 83 (by decide) (by decide), g 84 (by decide) (by decide)]
    intro w g' m h1 h2
    rw [v 76 m (by decide) (by decide)]
    exact b11 w g' m h1 h2
theorem cfM_R {σ τ : St} {Ls : List Ru} (f : Fm xR σ τ) : cfM τ Ls = cfM σ Ls := cfM_fm f (fun j hj => by rcases hj with rfl | rfl | rfl <;> rfl) (fun a j h1 h2 => xR_no (Or.inl (by omega)) (by omega))
def simM (σ : St) (Ls : List Ru) (O N : Nat) (w : Int32) (cl am : Nat → Int32) : Nat → Rw := simW (cfM σ Ls) (fun h m => rtW cl am N (7 * h + m)) (fun h m => hdO (gr σ 82) (gr σ 83) (gr σ 84) w (gvO (gr σ 81) O h) m) (fun h m => hdO (gr σ 82) (gr σ 83) (gr σ 84) w (gvO (gr σ 81) O h) (m + 7))
/-- a state that holds the hours of the base state σ -/
def NowM (σ : St) (Ls : List Ru) (n O N : Nat) (w : Int32) (cl am : Nat → Int32) (τ : St) : Prop := gv τ 11 66 = nI N ∧ gv τ 11 67 = w ∧ (∀ h m i, h < 240 → m < n → i < 10 → gv τ 88 (10 * (7 * h + m) + i) = simM σ Ls O N w cl am (h + 1) i m) ∧ (∀ i, i < 1680 → gv τ 89 i = rtW cl am N i) ∧ ∀ h i, h < 240 → i < 14 → gv τ 90 (14 * h + i) = hdO (gr σ 82) (gr σ 83) (gr σ 84) w (gvO (gr σ 81) O h) i
theorem gvO_T {hr : Nat → Int32} {O : Nat} (h : Nat) : gvO hr O h = gvT hr O (h + 1) := rfl
section WM
variable {σ : St} {Q : St → Prop} {Ls : List Ru} {n O N : Nat} {w : Int32} {cl am : Nat → Int32}
theorem hours_loop (B : BsM σ Ls n O) (hQ : ∀ τ, Fm xR σ τ → NowM σ Ls n O N w cl am τ → Q τ) : ∀ (d h : Nat) (τ : St), h + d = 240 → Fm xR σ τ → (∀ i, i < 1680 → gv τ 89 i = rtW cl am N i) → (∀ h i, h < 240 → i < 14 → gv τ 90 (14 * h + i) = hdO (gr σ 82) (gr σ 83) (gr σ 84) w (gvO (gr σ 81) O h) i) → (∀ h' m i, h' < h → m < n → i < 10 → gv τ 88 (10 * (7 * h' + m) + i) = simM σ Ls O N w cl am (h' + 1) i m) → (h < 240 → ∀ m, m < n → gv τ 88 (10 * (7 * h + m)) = simM σ Ls O N w cl am h 0 m + (simM σ Ls O N w cl am h 1 m - simM σ Ls O N w cl am h 9 m)) → wX12_works_55 Q (d + 1) (nI N) w (nI h) τ := by
  intro d
  induction d with
  | zero =>
    intro h τ hh f h89 h90 ha _
    have e : h = 240 := by omega
    subst e
    refine ⟨fun _ => ?_, fun c => absurd (by decide) c⟩
    rintro σ2 rfl σ3 rfl
    refine hQ _ ((f.tr (Fm_pv rfl)).tr (Fm_pv rfl)) ⟨?_, ?_, fun h m i h1 h2 h3 => ?_, fun i hi => ?_, fun h i h1 h2 => ?_⟩
    · rw [gv_pv, if_neg (by omega), gv_pv, if_pos ⟨rfl, rfl⟩]
    · rw [gv_pv, if_pos ⟨rfl, rfl⟩]
    · rw [gv_pv, if_neg (by omega), gv_pv, if_neg (by omega)]
      exact ha h m i h1 h2 h3
    · rw [gv_pv, if_neg (by omega), gv_pv, if_neg (by omega)]
      exact h89 i hi
    · rw [gv_pv, if_neg (by omega), gv_pv, if_neg (by omega)]
      exact h90 h i h1 h2
  | succ d ih =>
    intro h τ hh f h89 h90 ha hl
    rw [wX12_works_55]
    refine ⟨fun c => absurd c (nI_ge (show h < 240 by omega) (by decide)), fun _ => ?_⟩
    have ecf : cfM τ Ls = cfM σ Ls := cfM_R f
    obtain ⟨b1, b2, b3, b4, b5, b6, b7, b8, b9, b10, b11⟩ := B.fm f
    have B' := B
    obtain ⟨-, -, -, -, -, -, -, -, -, c10, c11⟩ := B'
    have g76 : ∀ m, gv τ 76 m = gv σ 76 m := fun m => f.2 76 m rfl
    have hle : ∀ h, gvO (gr σ 81) O h ≤ O := fun h => gvT_le (h + 1)
    refine stepsM (r := simM σ Ls O N w cl am h) (rn := fun m => rtW cl am N (7 * h + m)) (W := fun m => hdO (gr σ 82) (gr σ 83) (gr σ 84) w (gvO (gr σ 81) O h) m) (G := fun m => hdO (gr σ 82) (gr σ 83) (gr σ 84) w (gvO (gr σ 81) O h) (m + 7)) b1 b2 b3 (by omega) b4 b5 b6 (hl (by omega)) (fun hne m hm => ?_) (fun h0 m => by rw [h0]; rfl) (fun m hm => h89 _ (by omega)) (fun m hm => ?_) (fun m hm => ?_) (fun m hm => by rw [g76]; exact c11 w _ m (hle h) hm) (fun m hm => c10 w _ m (hle h) hm) (fun τ2 f2 h2 hl2 hj2 => ?_)
    · have := ha (h - 1) m 9 (by omega) hm (by decide)
      rwa [show h - 1 + 1 = h by omega] at this
    · rw [if_neg (nI_neg1 (by omega))]
      exact h90 h m (by omega) (by omega)
    · have := h90 h (m + 7) (by omega) (by omega)
      rwa [show 14 * h + (m + 7) = 14 * h + 7 + m by omega] at this
    · rw [ecf] at h2 hl2
      have fP : Fm xR τ τ2 := f2.mono (fun a j q => (xR_P q).1)
      intro x3 e3
      rw [e3, nI_1]
      refine ih (h + 1) τ2 (by omega) (f.tr fP) (fun i hi => ?_) (fun h' i h1 hi => ?_) (fun h' m i h1 hm hi => ?_) (fun h1 m hm => hl2 h1 m hm)
      · rw [f2.2 89 i rfl]
        exact h89 i hi
      · rw [f2.2 90 _ rfl]
        exact h90 h' i h1 hi
      · by_cases q : h' = h
        · subst q
          exact h2 i m hi hm
        · rw [hj2 _ (by omega)]
          exact ha h' m i (by omega) hm hi
theorem lev0_loop (hn : n ≤ 7) (eN : gv σ 11 43 = nI n) {x1 x2 : Int32} (hQ : ∀ τ, Fm (fun a _ => a == 88) σ τ → (∀ m, m < n → gv τ 88 (10 * (7 * 0 + m)) = 0) → ∃ j, wX12_works_55 Q j x1 x2 0 τ) : ∀ (d m : Nat) (τ : St), m + d = n → Fm (fun a _ => a == 88) σ τ → (∀ m', m' < m → gv τ 88 (10 * (7 * 0 + m')) = 0) → wX12_works_29 Q (d + 1) x1 x2 (nI m) τ := by
  intro d
  induction d with
  | zero =>
    intro m τ hm f ha
    have e : m = n := by omega
    subst e
    refine ⟨fun _ => hQ τ f ha, fun c => ?_⟩
    rw [f.2 11 43 rfl, eN] at c
    exact absurd (Int32.le_refl _) c
  | succ d ih =>
    intro m τ hm f ha
    have e10 : (10 : Int32) * nI m = nI (10 * m) := by rw [show (10 : Int32) = nI 10 from rfl, pk_mul]
    rw [wX12_works_29, f.2 11 43 rfl, eN, e10, nI_clamp (by omega)]
    refine ⟨fun c => absurd c (nI_ge (by omega) (by omega)), fun _ => ⟨vp_in_nI (by omega) (by decide), ?_⟩⟩
    rintro σ3 rfl x3 rfl
    rw [nI_1]
    refine ih (m + 1) _ (by omega) (f.tr (Fm_pv rfl)) (fun m' hm' => ?_)
    rw [gv_pv]
    by_cases q : m' = m
    · subst q
      rw [if_pos ⟨rfl, by omega⟩]
    · rw [if_neg (by omega)]
      exact ha m' (by omega)
theorem worksM (B : BsM σ Ls n O) (hN : N ≤ 400) (hc : ∀ j, j < N → ∃ h m, 7 * h + m < 1680 ∧ h < 240 ∧ m < 7 ∧ gv σ 78 j = nI h ∧ gv σ 79 j = nI m ∧ cl j = nI (7 * h + m) ∧ gv σ 80 j = am j) (hcache : gv σ 11 66 = nI N → gv σ 11 67 = w → NowM σ Ls n O N w cl am σ) (hQ : ∀ τ, Fm xR σ τ → NowM σ Ls n O N w cl am τ → Q τ) : wX12_works (nI N) w σ Q := by
  have hn := B.2.1
  have eN := B.2.2.1
  have l17 : wX12_works_17 Q (nI N) w σ := by
    refine knowsM (cl := cl) (am := am) hN hc (fun τ1 f1 h1 => ?_)
    have F1 : Fm xR σ τ1 := f1.mono (fun a j q => (xR_P q).2.2.1)
    have B1 := B.fm F1
    refine setsM (O := O) B1.2.2.2.2.2.2.1 B1.2.2.2.2.2.2.2.1 B1.2.2.2.2.2.2.2.2.1 (fun τ2 f2 h2 => ?_)
    rw [f1.gr (k := 81) (fun _ => rfl), f1.gr (k := 82) (fun _ => rfl), f1.gr (k := 83) (fun _ => rfl), f1.gr (k := 84) (fun _ => rfl)] at h2
    have F2 : Fm xR σ τ2 := F1.tr (f2.mono (fun a j q => (xR_P q).2.1))
    refine ⟨n + 1, lev0_loop (σ := τ2) hn ((F2.2 11 43 rfl).trans eN) (fun τ3 f3 h3 => ?_) n 0 τ2 (by omega) Fm.rf (fun _ q => absurd q (by omega))⟩
    have F3 : Fm xR σ τ3 := F2.tr (f3.mono (fun a j q => (xR_P q).2.2.2.1))
    refine ⟨241, hours_loop B hQ 240 0 τ3 (by omega) F3 (fun i hi => ?_) (fun h i hh hi => ?_) (fun _ _ _ q => absurd q (by omega)) (fun _ m hm => ?_)⟩
    · rw [f3.2 89 i rfl, f2.2 89 i rfl]
      exact h1 i hi
    · rw [f3.2 90 _ rfl]
      exact h2 h i hh hi
    · rw [h3 m hm]
      show (0 : Int32) = 0 + (0 - 0)
      decide
  refine ⟨fun c => ⟨fun c2 => hQ σ Fm.rf (hcache c c2), fun _ => l17⟩, fun _ => l17⟩
end WM
