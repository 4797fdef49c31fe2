/-! Calls that add: mill, factor, rain, order, grist, feed. -/
section EB
variable {σ : St} {Z : Int32 → St → Prop}
theorem i32_le {a b : Int32} : ¬ a ≤ b ↔ b < a := Int32.not_le
theorem i32_lt {a b : Int32} : ¬ a < b ↔ b ≤ a := Int32.not_lt
theorem both_factor (hI : Inv σ) (x1 x2 : Int32) (hZ : ∀ r σ1, (∀ Z2 : Int32 → St → Prop, (∀ σ2, Inv σ2 → Z2 r σ2) → wX12_factor x1 x2 σ1 Z2) → Z r σ1) : wX11_factor x1 x2 σ Z := by
  obtain ⟨Ls, hT, hM, hS, hF, hC, hR, hO, hG, hP, hp, hK, hN, hL, hk⟩ := id hI
  obtain ⟨e1, e2⟩ := id hF
  have hno : (x1 < 0 ∨ gv σ 2 6 ≤ x1 ∨ x2 < -100 ∨ ¬ x2 ≤ 100) → wX11_factor x1 x2 σ Z := by
    intro h
    have hz : Z 0 σ := hZ _ _ (fun Z2 h2 => by
      have h3 := h2 _ hI
      rcases h with h | h | h | h
      · simp [wX12_factor, h, h3]
      · rw [e1] at h
        simp [wX12_factor, h, h3]
      · simp [wX12_factor, h, h3]
      · simp only [wX12_factor, h, h3, false_implies, not_false_eq_true, true_implies, and_true, true_and, implies_true])
    have hb : narrow .boolean (.int 0) = .int 0 := by decide
    rcases h with h | h | h | h
    · simp [wX11_factor, wX3_setFactor, h, hz, hb]
    · simp [wX11_factor, wX3_setFactor, h, hz, hb]
    · simp [wX11_factor, wX3_setFactor, h, hz, hb]
    · simp only [wX11_factor, wX3_setFactor, h, hz, hb, false_implies, not_false_eq_true, true_implies, and_true, true_and, implies_true, and_self]
  by_cases c1 : x1 < 0
  · exact hno (Or.inl c1)
  by_cases c2 : gv σ 2 6 ≤ x1
  · exact hno (Or.inr (Or.inl c2))
  by_cases c3 : x2 < -100
  · exact hno (Or.inr (Or.inr (Or.inl c3)))
  by_cases c4 : x2 ≤ 100
  · obtain ⟨j, hj, rfl⟩ := nI_of c1
    rcases e2 with e2 | ⟨n, hn1, hn2, e2, e3⟩
    · exfalso
      rw [e2] at c2
      exact c2 (Int32.le_trans (by decide) (nI_pos' hj))
    have hjn : j < n := by
      rw [e2] at c2
      exact Nat.not_le.mp (fun q => c2 ((nI_leI (by omega) hj).mpr q))
    have hv : vp_in (nI j) 20 := vp_in_nI (by omega) (by decide)
    have c2' : ¬ gv σ 11 49 ≤ nI j := by rw [← e1]; exact c2
    have hb : narrow .boolean (.int 1) = .int 1 := by decide
    simp only [wX11_factor, wX3_setFactor, c1, c2, c3, c4, hv, hb, forall_eq, not_false_eq_true, not_true_eq_false, true_implies, false_implies, and_true, true_and]
    refine hZ _ _ (fun Z2 h2 => ?_)
    have e4 : gv (pv σ 16 (nI j).toNatClampNeg x2) 11 49 = gv σ 11 49 := by simp [gv_pv]
    simp only [wX12_factor, wX12_changes, e4, c1, c2', c3, c4, hv, forall_eq, not_false_eq_true, not_true_eq_false, true_implies, false_implies, and_true, true_and]
    refine h2 _ ⟨Ls, ?_⟩
    rw [nI_clamp hj]
    have hF' : IvF (gv σ 2 6) (gv σ 11 49) (upd (gr σ 16) j x2) (upd (gr σ 77) j x2) := by
      refine ⟨e1, Or.inr ⟨n, hn1, hn2, e2, fun i hi => ?_⟩⟩
      by_cases hij : i = j
      · subst hij
        rw [upd_same, upd_same]
        exact ⟨rfl, i32_lt.mp c3, c4⟩
      · rw [upd_ne hij, upd_ne hij]
        exact e3 i hi
    simpa [gv_pv, gr_pv, gw_pv, gn_pv] using ⟨hT, hM, hS, hF', hC, hR, hO, hG, hP, hp, hK, Or.inl rfl, hL, hk⟩
  · exact hno (Or.inr (Or.inr (Or.inr c4)))
/-- the reference's loop over twenty factors -/
theorem fac_loop {Q : Int32 → St → Prop} {σ : St} (h : ∀ f : Nat → Int32, (∀ i, i < 20 → f i = 1) → Q 1 (pv (pa σ 77 f) 11 66 (-1))) : ∃ j, wX12_factors_25 Q j 0 σ := by
  have key : ∃ j, wX12_factors_25 Q j (nI 0) (pa σ 77 (gr σ 77)) := by
    refine pk_loop (σ := Nat → Int32) (fun j i f => wX12_factors_25 Q j (nI i) (pa σ 77 f)) (fun i f => ∀ k, k < i → f k = 1) 20 0 (gr σ 77) (by omega) (fun k hk => absurd hk (by omega)) ?_ ?_
    · intro n f hf
      have hx : wX12_changes (pa σ 77 f) (fun σ5 => Q 1 σ5) := by
        simp only [wX12_changes, forall_eq]
        exact h f hf
      simp only [wX12_factors_25]
      refine ⟨fun _ => hx, fun c => absurd (by decide) c⟩
    · intro n i f hi hf hk
      simp only [wX12_factors_25]
      refine ⟨fun c => absurd c (nI_ge hi (by decide)), fun c => ⟨vp_in_nI (by omega) (by decide), ?_⟩⟩
      rintro σ3 rfl x e
      rw [pv_pa, nI_clamp (by omega)]
      have ex : x = nI (i + 1) := by rw [e]; exact nI_1 i
      rw [ex]
      refine hk _ (fun k hk' => ?_)
      by_cases hki : k = i
      · subst hki
        exact upd_same
      · rw [upd_ne hki]
        exact hf k (by omega)
  rw [pa_self] at key
  exact key
theorem both_factors (hI : Inv σ) (x1 : Int32) (hZ : ∀ r σ1, (∀ Z2 : Int32 → St → Prop, (∀ σ2, Inv σ2 → Z2 r σ2) → wX12_factors x1 σ1 Z2) → Z r σ1) : wX11_factors x1 σ Z := by
  obtain ⟨Ls, hT, hM, hS, hF, hC, hR, hO, hG, hP, hp, hK, hN, hL, hk⟩ := id hI
  have hb1 : narrow .boolean (.int 1) = .int 1 := by decide
  have hb0 : narrow .boolean (.int 0) = .int 0 := by decide
  have hyes : (x1 = -1 ∨ ∃ n, 1 ≤ n ∧ n ≤ 20 ∧ x1 = nI n) → Z 1 (pa (pv σ 2 6 x1) 16 (fun _ => 1)) ∧ True := by
    intro h
    refine ⟨hZ _ _ (fun Z2 h2 => ?_), trivial⟩
    have hl : ∃ j, wX12_factors_25 Z2 j 0 (pv (pa (pv σ 2 6 x1) 16 (fun _ => 1)) 11 49 x1) := by
      refine fac_loop (fun f hf => h2 _ ⟨Ls, ?_⟩)
      have hF' : IvF x1 x1 (fun _ => 1) f := ⟨rfl, h.elim Or.inl (fun ⟨n, h1, h2, h3⟩ => Or.inr ⟨n, h1, h2, h3, fun i hi => ⟨(hf i (by omega)).symm, (by decide : (-100 : Int32) ≤ 1), (by decide : (1 : Int32) ≤ 100)⟩⟩)⟩
      simpa [gv_pv, gr_pv, gw_pv, gn_pv, gv_pa, gr_pa, gw_pa, gn_pa] using ⟨hT, hM, hS, hF', hC, hR, hO, hG, hP, hp, hK, Or.inl rfl, hL, hk⟩
    unfold wX12_factors
    rcases h with h | ⟨n, h1, h3, h⟩
    · subst h
      refine ⟨fun _ => ?_, fun c => absurd rfl c⟩
      simp only [wX12_factors_18, forall_eq]
      exact hl
    · refine ⟨fun c => absurd (h.symm.trans c) (nI_neg1 (by omega)), fun _ => ⟨fun c => ?_, fun _ => ⟨fun _ => ?_, fun c => ?_⟩⟩⟩
      · rw [h] at c
        exact absurd c (nI_nlt h1 (by omega))
      · simp only [wX12_factors_18, forall_eq]
        exact hl
      · rw [h] at c
        exact absurd (nI_le (a := n) (b := 20) h3 (by decide)) c
  have hno : (∀ Z2 : Int32 → St → Prop, Z2 0 σ → wX12_factors x1 σ Z2) → Z 0 σ := fun h => hZ _ _ (fun Z2 h2 => h Z2 (h2 _ hI))
  unfold wX11_factors wX3_makeFactors
  refine ⟨fun c1 => ?_, fun c1 => ⟨fun c2 => ⟨hb0, hno (fun Z2 h => ?_)⟩, fun c2 => ⟨fun c3 => ?_, fun c3 => ⟨hb0, hno (fun Z2 h => ?_)⟩⟩⟩⟩
  · simp only [wX3_makeFactors_18, forall_eq]
    exact ⟨hb1, (hyes (Or.inl c1)).1⟩
  · unfold wX12_factors
    exact ⟨fun c => absurd c c1, fun _ => ⟨fun _ => h, fun c => absurd c2 c⟩⟩
  · simp only [wX3_makeFactors_18, forall_eq]
    refine ⟨hb1, (hyes (Or.inr ?_)).1⟩
    obtain ⟨n, hn, e⟩ := nI_of2 (x := x1) (M := 20) (n := 20) (by decide) (fun q => c2 (Int32.lt_trans q (by decide))) c3
    refine ⟨n, ?_, hn, e⟩
    rw [e] at c2
    exact Nat.pos_of_ne_zero (fun q => c2 (by rw [q]; decide))
  · unfold wX12_factors
    exact ⟨fun c => absurd c c1, fun _ => ⟨fun c => absurd c c2, fun _ => ⟨fun c => absurd c c3, fun _ => h⟩⟩⟩
end EB
