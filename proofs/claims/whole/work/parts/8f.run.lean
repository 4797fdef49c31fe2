/-! The class's runs of hours. -/
def xK (a j : Nat) : Bool := a == 19 || (a == 3 && j == 4)
def gvT (hr : Nat → Int32) (O : Nat) : Nat → Nat
  | 0 => 0
  | t + 1 => gvO hr O t
theorem gvT_succ {hr : Nat → Int32} {O : Nat} : ∀ (t : Nat), gvT hr O (t + 1) = cnO hr O t O (gvT hr O t)
  | 0 => rfl
  | _ + 1 => rfl
theorem cnO_le {hr : Nat → Int32} {O h : Nat} : ∀ (f g : Nat), g ≤ O → cnO hr O h f g ≤ O
  | 0, g, hg => hg
  | f + 1, g, hg => by
    rw [cnO]
    by_cases q : g < O ∧ hr g ≤ nI h
    · rw [if_pos q]
      exact cnO_le f (g + 1) q.1
    · rw [if_neg q]
      exact hg
theorem gvT_le {hr : Nat → Int32} {O : Nat} : ∀ (t : Nat), gvT hr O t ≤ O
  | 0 => Nat.zero_le _
  | t + 1 => by
    rw [gvT_succ]
    exact cnO_le _ _ (gvT_le t)
def simD (σ : St) (Ls : List Ru) (O nn : Nat) (w : Int32) : Nat → Rw := simW (cfD σ Ls) (fun h m => rtW (gr σ 17) (gr σ 18) nn (7 * h + m)) (fun h m => hdO (gr σ 21) (gr σ 22) (gr σ 23) w (gvO (gr σ 20) O h) m) (fun h m => hdO (gr σ 21) (gr σ 22) (gr σ 23) w (gvO (gr σ 20) O h) (m + 7))
/-- a stage that has gone t hours by orders -/
def RnD (σ0 : St) (Ls : List Ru) (n O nn : Nat) (w : Int32) (σ : St) (k t : Nat) : Prop := Fm xG σ0 σ ∧ (∀ i, i < 1680 → gv σ 19 i = rtW (gr σ0 17) (gr σ0 18) nn i) ∧ StAt σ0 σ k n t (simD σ0 Ls O nn w t) w (gvT (gr σ0 20) O t) (fun _ => True)
section KN
variable {σ : St} {Q : St → Prop}
theorem know_loop {F N : Nat} (hF : F ≤ 400) (hN : N ≤ F) (eF : gv σ 3 0 = nI F) (hcl : ∀ j, j < F → ∃ c, c < 1680 ∧ gv σ 17 j = nI c) (hQ : ∀ τ, Fm xK σ τ → gv τ 3 4 = nI N → (∀ i, i < 1680 → gv τ 19 i = rtW (gr σ 17) (gr σ 18) N i) → Q τ) : ∀ (d K : Nat) (τ : St), K + d = N → Fm xK σ τ → gv τ 3 4 = nI K → (∀ i, i < 1680 → gv τ 19 i = rtW (gr σ 17) (gr σ 18) K i) → wX6_know_21 Q (d + 1) (nI N) τ := by
  intro d
  induction d with
  | zero =>
    intro K τ hK f e4 ht
    have e : K = N := by omega
    subst e
    refine ⟨fun _ => hQ τ f e4 ht, fun c => ?_⟩
    rw [e4] at c
    exact absurd (Int32.le_refl _) c
  | succ d ih =>
    intro K τ hK f e4 ht
    have cK : (nI K).toNatClampNeg = K := nI_clamp (by omega)
    obtain ⟨c0, hc0, ec⟩ := hcl K (by omega)
    rw [wX6_know_21, e4, cK, f.2 3 0 rfl, f.2 17 K rfl, f.2 18 K rfl, eF, ec]
    refine ⟨fun c => absurd c (nI_ge (by omega) (by omega)), fun _ => ⟨fun c => absurd c (nI_ge (by omega) (by omega)), fun _ => ⟨vp_in_nI (by omega) (by decide), vp_in_nI (by omega) (by decide), vp_in_nI hc0 (by decide), ?_⟩⟩⟩
    rw [nI_clamp (by omega)]
    rintro σ6 rfl σ7 rfl
    have e4' : gv (pv τ 19 c0 (gv σ 18 K)) 3 4 = nI K := by rw [gv_pv, if_neg (by omega)]; exact e4
    rw [e4', nI_1]
    refine ih (K + 1) _ (by omega) ((f.tr (Fm_pv rfl)).tr (Fm_pv rfl)) (by rw [gv_pv, if_pos ⟨rfl, rfl⟩]) (fun i hi => ?_)
    rw [gv_pv, if_neg (by omega), gv_pv, rtW]
    have ec' : (gr σ 17 K).toNatClampNeg = c0 := by rw [show gr σ 17 K = nI c0 from ec]; exact nI_clamp (by omega)
    rw [ec']
    by_cases hi0 : i = c0
    · subst hi0
      rw [if_pos ⟨rfl, rfl⟩, if_pos rfl]
      rfl
    · rw [if_neg (fun q => hi0 q.2), if_neg (fun q => hi0 q.symm)]
      exact ht i hi
theorem knowD {F N : Nat} (hF : F ≤ 400) (hN : N ≤ F) (eF : gv σ 3 0 = nI F) (hcl : ∀ j, j < F → ∃ c, c < 1680 ∧ gv σ 17 j = nI c) (hK : IvK (gv σ 3 4) (gv σ 3 0) (gr σ 17) (gr σ 18) (gr σ 19)) (hQ : ∀ τ, Fm xK σ τ → gv τ 3 4 = nI N → (∀ i, i < 1680 → gv τ 19 i = rtW (gr σ 17) (gr σ 18) N i) → Q τ) : wX6_know (nI N) σ Q := by
  obtain ⟨K, e4, hKF, ht⟩ := hK
  rw [eF, nI_clamp (by omega)] at hKF
  refine ⟨fun c => ?_, fun c => ?_⟩
  · rw [e4] at c
    have hKN := (nI_leI (by omega) (by omega)).mp c
    exact ⟨N - K + 1, know_loop hF hN eF hcl hQ (N - K) K σ (by omega) Fm.rf e4 ht⟩
  · rintro σ2 rfl σ3 rfl
    refine ⟨N + 1, know_loop hF hN eF hcl hQ N 0 _ (by omega) ((Fm_pa (fun _ => rfl)).tr (Fm_pv rfl)) (by rw [gv_pv, if_pos ⟨rfl, rfl⟩]; rfl) (fun i hi => ?_)⟩
    rw [gv_pv, if_neg (by omega), gv_pa, if_pos rfl]
    rfl
theorem clear_loop {k : Nat} (hk : Stg k) (hQ : ∀ τ, Fm (xS k) σ τ → gv τ k 2 = -1 → gv τ k 3 = 0 → (∀ i m, i < 10 → gv τ (k + 3 + i) m = 0) → (∀ m, gv τ (k + 2) m = 0) → Q τ) : ∀ (d i : Nat) (τ : St), i + d = 10 → Fm (xS k) σ τ → (∀ i' m, i' < i → gv τ (k + 3 + i') m = 0) → wX7_clear_2 k Q (d + 1) (nI i) τ := by
  have hk1 := (stg_ge hk).1
  have xin : ∀ a j, k ≤ a → a < k + 13 → xS k a j = true := fun a j h1 h2 => by simp [xS, h1, h2]
  intro d
  induction d with
  | zero =>
    intro i τ hi f hr
    have e : i = 10 := by omega
    subst e
    refine ⟨fun _ => ?_, fun c => absurd (by decide) c⟩
    rintro σ2 rfl σ3 rfl σ4 rfl σ5 rfl
    refine hQ _ ((((f.tr (Fm_pa (fun j => xin _ j (by omega) (by omega)))).tr (Fm_pv (xin _ _ (by omega) (by omega)))).tr (Fm_pv (xin _ _ (by omega) (by omega)))).tr (Fm_pv (xin _ _ (by omega) (by omega)))) ?_ ?_ (fun i m hi => ?_) (fun m => ?_)
    · rw [gv_pv, if_neg (by omega), gv_pv, if_neg (by omega), gv_pv, if_pos ⟨rfl, rfl⟩]
    · rw [gv_pv, if_neg (by omega), gv_pv, if_pos ⟨rfl, rfl⟩]
    · rw [gv_pv, if_neg (by omega), gv_pv, if_neg (by omega), gv_pv, if_neg (by omega), gv_pa, if_neg (by omega)]
      exact hr i m hi
    · rw [gv_pv, if_neg (by omega), gv_pv, if_neg (by omega), gv_pv, if_neg (by omega), gv_pa, if_pos rfl]
  | succ d ih =>
    intro i τ hi f hr
    refine ⟨fun c => absurd c (nI_ge (show i < 10 by omega) (by decide)), fun _ => ⟨vp_in_nI (by omega) (by decide), ?_⟩⟩
    rw [nI_clamp (by omega)]
    rintro σ7 rfl x1 rfl
    rw [nI_1]
    refine ih (i + 1) _ (by omega) (f.tr (Fm_pa (fun j => xin _ j (by omega) (by omega)))) (fun i' m hi' => ?_)
    rw [gv_pa]
    by_cases q : i' = i
    · rw [if_pos (by omega)]
    · rw [if_neg (by omega)]
      exact hr i' m (by omega)
theorem clearD {k : Nat} (hk : Stg k) (hQ : ∀ τ, Fm (xS k) σ τ → gv τ k 2 = -1 → gv τ k 3 = 0 → (∀ i m, i < 10 → gv τ (k + 3 + i) m = 0) → (∀ m, gv τ (k + 2) m = 0) → Q τ) : wX7_clear k σ Q := ⟨11, clear_loop hk hQ 10 0 σ (by omega) Fm.rf (fun _ _ q => absurd q (by omega))⟩
end KN
/-- what begin wants of the rain -/
def RaD (σ : St) (F : Nat) : Prop := F ≤ 400 ∧ gv σ 3 0 = nI F ∧ (∀ j, j < F → ∃ c, c < 1680 ∧ gv σ 17 j = nI c) ∧ IvK (gv σ 3 4) (gv σ 3 0) (gr σ 17) (gr σ 18) (gr σ 19)
theorem hdO_zero {mi ga v : Nat → Int32} {w : Int32} {i : Nat} : hdO mi ga v w 0 i = 0 := rfl
section RU
variable {σ0 σ : St} {Q : St → Prop} {Ls : List Ru} {k n O F nn t : Nat} {w : Int32}
theorem beginD (hk : Stg k) (f : Fm xG σ0 σ) (hR : RaD σ F) (hnn : nn ≤ F) (h17 : gr σ 17 = gr σ0 17) (h18 : gr σ 18 = gr σ0 18)
    (hQ : ∀ τ, RnD σ0 Ls n O nn w τ k 0 → gv τ 3 4 = nI nn → (∀ a j, xS k a j = false → xK a j = false → gv τ a j = gv σ a j) → Q τ) : wX10_begin k (nI nn) w σ Q := by
  have hk1 := (stg_ge hk).1
  obtain ⟨hF, eF, hcl, hK⟩ := hR
  refine knowD hF hnn eF hcl hK (fun τ1 f1 k1 t1 => clearD hk (fun τ2 f2 c2 c3 cr co => ?_))
  rintro σ5 rfl
  have lo : ∀ a j, xS k a j = false → gv (pv τ2 k 4 w) a j = gv τ1 a j := fun a j h => by
    rw [gv_pv, if_neg (fun q => ?_), f2.2 a j h]
    rw [q.1] at h
    simp [xS] at h
  refine hQ _ ⟨⟨?_, fun a j h => ?_⟩, fun i hi => ?_, ?_⟩ ?_ (fun a j h1 h2 => ?_)
  · show τ2.2 = σ0.2
    rw [f2.1, f1.1, f.1]
  · rw [lo a j (xS_G hk1 h), f1.2 a j ?_]
    · exact f.2 a j h
    · unfold xG at h
      simp only [Bool.or_eq_false_iff] at h
      unfold xK
      rw [h.1.2, h.2]
      rfl
  · rw [lo 19 i (by simp [xS, xV]; omega), t1 i hi, h17, h18]
  · refine ⟨?_, ?_, ?_, fun i m hi hm => ?_, fun m _ hm => ?_, fun m hm => ?_⟩
    · rw [gv_pv, if_neg (by omega), c2]
      decide
    · rw [gv_pv, if_neg (by omega), c3]
      rfl
    · rw [gv_pv, if_pos ⟨rfl, rfl⟩]
    · rw [gv_pv, if_neg (by omega), cr i m hi]
      rfl
    · rw [gv_pv, if_neg (by omega)]
      exact (cr 2 m (by decide)).trans hdO_zero.symm
    · rw [gv_pv, if_neg (by omega)]
      exact (co m).trans hdO_zero.symm
  · rw [lo 3 4 (by simp [xS, xV]; omega)]
    exact k1
  · rw [lo a j h1, f1.2 a j h2]
theorem stepR (B : BsD σ0 Ls n O) (hk : Stg k) (ht : t < 240) (hS : RnD σ0 Ls n O nn w σ k t) (hQ : ∀ τ, RnD σ0 Ls n O nn w τ k (t + 1) → Fm (xS k) σ τ → Q τ) : wX10_step k σ Q := by
  have hk1 := (stg_ge hk).1
  have hn := B.2.1
  obtain ⟨f, hrn, hst⟩ := hS
  refine stepD (rn := fun m => rtW (gr σ0 17) (gr σ0 18) nn (7 * t + m)) B hk ht f hst (gvT_le t) (fun m hm => hrn _ (by omega)) (fun τ ft hτ => hQ τ ⟨f.tr (ft.mono (fun a j q => xS_G hk1 q)), fun i hi => ?_, ?_⟩ ft)
  · rw [ft.2 19 i (by simp [xS, xV]; omega)]
    exact hrn i hi
  · rw [← gvT_succ] at hτ
    exact hτ
theorem nI_m1 {a b : Nat} (ha : a ≤ 240) (hb : b ≤ 240) : nI a - 1 ≤ nI b - 1 ↔ a ≤ b := by
  rw [Int32.le_iff_toInt_le, show (1 : Int32) = nI 1 from rfl, pk_sub_toInt (by omega) (by decide), pk_sub_toInt (by omega) (by decide)]
  omega
theorem run_loop (B : BsD σ0 Ls n O) (hk : Stg k) {T : Nat} (hT : T ≤ 240) (hQ : ∀ τ, RnD σ0 Ls n O nn w τ k T → Fm (xS k) σ τ → Q τ) : ∀ (d t : Nat) (τ : St), t + d = T → RnD σ0 Ls n O nn w τ k t → Fm (xS k) σ τ → wX10_run_5 k Q (d + 1) (nI T - 1) (nI t - 1) τ := by
  intro d
  induction d with
  | zero =>
    intro t τ ht hS f
    have e : t = T := by omega
    subst e
    exact ⟨fun _ => hQ τ hS f, fun c => absurd (Int32.le_refl _) c⟩
  | succ d ih =>
    intro t τ ht hS f
    rw [wX10_run_5]
    refine ⟨fun c => ?_, fun _ => stepR B hk (by omega) hS (fun τ1 h1 f1 => ?_)⟩
    · have := (nI_m1 (by omega) (by omega)).mp c
      omega
    · intro x3 e3
      have e : nI t - 1 + 1 = nI (t + 1) - 1 := by rw [Int32.sub_add_cancel, nI_pred]
      rw [e3, e]
      exact ih (t + 1) τ1 (by omega) h1 (f.tr f1)
theorem hour_m1 {x : Int32} {t : Nat} (h : x + 1 = nI t) : x = nI t - 1 := by rw [← h, Int32.add_sub_cancel]
theorem runR (B : BsD σ0 Ls n O) (hk : Stg k) {T : Nat} (hT : T ≤ 240) (htT : t ≤ T) (hS : RnD σ0 Ls n O nn w σ k t) (hQ : ∀ τ, RnD σ0 Ls n O nn w τ k T → Fm (xS k) σ τ → Q τ) : wX10_run k (nI T - 1) σ Q := by
  intro x3 e3
  rw [hour_m1 hS.2.2.1] at e3
  rw [e3]
  exact ⟨T - t + 1, run_loop B hk hT hQ (T - t) t σ (by omega) hS Fm.rf⟩
end RU
