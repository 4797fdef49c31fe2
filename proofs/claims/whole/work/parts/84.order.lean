/-! order, rain, feed. -/
section ED
variable {σ : St} {Z : Int32 → St → Prop}
theorem nb0 : vp_nar .boolean 0 = 0 := rfl
theorem nb1 : vp_nar .boolean 1 = 1 := rfl
theorem both_order (hI : Inv σ) (x1 x2 x3 : Int32) (hx2 : x2 = 0 ∨ x2 = 1) (hZ : ∀ r σ1, (∀ Z2 : Int32 → St → Prop, (∀ σ2, Inv σ2 → Z2 r σ2) → wX12_order x1 x2 x3 σ1 Z2) → Z r σ1) : wX11_order x1 x2 x3 σ Z := by
  obtain ⟨Ls, hT, hM, hS, hF, hC, hR, hO, hG, hP, hp, hK, hN, hL, hk⟩ := id hI
  obtain ⟨m1, m2, m3, m4, m5, n, hn, en, hm⟩ := id hM
  obtain ⟨g1, g2, g3, g4, g5, O, hO6, eO, g6, g7⟩ := id hO
  obtain ⟨k1, ck, hck, ek⟩ := id hC
  have en' : gv σ 11 43 = nI n := by rw [← m1]; exact en
  have eO' : gv σ 11 56 = nI O := by rw [← g1]; exact eO
  have z200 : (200 : Int32) = nI 200 := rfl
  have hnar : vp_nar .boolean x2 = x2 := by rcases hx2 with rfl | rfl <;> rfl
  have hq : ∀ (m : Nat), gv σ 75 m = gv σ 14 m ∧ gv σ 76 m = gv σ 15 m := fun m => ⟨by rw [gv_gr, ← m4]; rfl, by rw [gv_gr, ← m5]; rfl⟩
  -- the setting's most
  obtain ⟨mst, hmst⟩ : ∃ f : Nat → Int32, ∀ m, f m = if x2 = 0 then gv σ 14 m else gv σ 15 m := ⟨_, fun _ => rfl⟩
  have hms : ∀ (m : Nat) (Q : Int32 → St → Prop), m < n → Q (mst m) σ → wX3_mostSetting (nI m) x2 σ Q := by
    intro m Q hm1 q
    rw [hmst] at q
    refine ⟨fun c => ⟨vp_in_nI (by omega) (by decide), ?_⟩, fun c => ⟨vp_in_nI (by omega) (by decide), ?_⟩⟩
    · rw [if_pos c] at q
      rw [nI_clamp (by omega)]
      exact q
    · rw [if_neg c] at q
      rw [nI_clamp (by omega)]
      exact q
  have hno : (¬ O < 200 ∨ (∀ m, m < n → x1 ≠ nI m) ∨ x3 < 0 ∨ ∃ m, m < n ∧ x1 = nI m ∧ ¬ x3 ≤ mst m) → Z (-1) σ := fun h => hZ _ _ (fun Z2 h2 => by
    have hz := h2 _ hI
    refine ⟨fun _ => hz, fun c => isMillM n (by omega) en' (fun m hm e => ⟨fun c => absurd c z10, fun _ => ⟨fun _ => hz, fun c2 => ?_⟩⟩) (fun _ => ⟨fun _ => hz, fun c => absurd rfl c⟩)⟩
    have h' : ¬ x3 ≤ mst m := by
      rcases h with h | h | h | ⟨m', h1, h3, h4⟩
      · rw [eO', z200, nI_eq (by omega) (by decide)] at c
        omega
      · exact absurd e (h m hm)
      · exact absurd h c2
      · rw [e, nI_eq (by omega) (by omega)] at h3
        rw [h3]
        exact h4
    subst e
    rw [hmst] at h'
    refine ⟨fun c => ⟨vp_in_nI (by omega) (by decide), ?_⟩, fun c => ⟨vp_in_nI (by omega) (by decide), ?_⟩⟩
    · rw [if_pos c] at h'
      unfold wX12_order_42
      rw [nI_clamp (by omega), (hq m).1]
      exact ⟨fun c => absurd c h', fun _ => hz⟩
    · rw [if_neg c] at h'
      unfold wX12_order_42
      rw [nI_clamp (by omega), (hq m).2]
      exact ⟨fun c => absurd c h', fun _ => hz⟩)
  refine isMillD n (by omega) en (fun m hm1 e => ⟨fun c => absurd c z10, fun _ => ⟨fun c1 => hno (by simp only [c1, true_or, or_true]), fun c1 => ?_⟩⟩) (fun h => ⟨fun _ => hno (Or.inr (Or.inl h)), fun c => absurd rfl c⟩)
  subst e
  refine hms m _ hm1 ⟨fun c2 => ?_, fun c2 => hno (Or.inr (Or.inr (Or.inr ⟨m, hm1, rfl, c2⟩)))⟩
  by_cases hO7 : O < 200
  case neg =>
    refine ⟨fun c => ?_, fun c => hno (Or.inl hO7)⟩
    rw [eO, z200, nI_ltI (by omega) (by decide)] at c
    exact absurd c hO7
  have c5 : gv σ 4 4 < 200 := by rw [eO]; exact nI_lt hO7 (by decide)
  have hv : vp_in (gv σ 4 4) 200 := by rw [eO]; exact vp_in_nI hO7 (by decide)
  have hcl : (gv σ 4 4).toNatClampNeg = O := by rw [eO]; exact nI_clamp (by omega)
  have hp1 : gv σ 4 4 + 1 = nI (O + 1) := by rw [eO]; exact nI_1 O
  have hpm : nI (O + 1) - 1 = nI O := nI_pred O
  simp only [wX4_add, c5, forall_eq, gv_pv, true_implies, false_implies, not_true_eq_false, not_false_eq_true, implies_true, and_self, and_true, true_and, Nat.reduceEqDiff, false_and, and_false, if_false, if_true, hv, hcl, hp1, hpm, hnar]
  refine hZ _ _ (fun Z2 h2 => ?_)
  have d5 : ¬ gv σ 11 56 = 200 := by
    rw [eO', z200, nI_eq (by omega) (by decide)]
    omega
  have hv' : vp_in (gv σ 11 56) 200 := by rw [← g1]; exact hv
  have hcl' : (gv σ 11 56).toNatClampNeg = O := by rw [← g1]; exact hcl
  have hp1' : gv σ 11 56 + 1 = nI (O + 1) := by rw [← g1]; exact hp1
  obtain ⟨τ, eτ⟩ : ∃ τ, τ = pv (pv (pv (pv (pv σ 20 O (gv σ 0 5)) 21 O (nI m)) 22 O x2) 23 O x3) 4 4 (nI (O + 1)) := ⟨_, rfl⟩
  rw [← eτ]
  have r1 : ∀ j, gv τ 11 j = gv σ 11 j := fun j => by rw [eτ]; simp [gv_pv]
  have r2 : ∀ j, gv τ 75 j = gv σ 14 j := fun j => by rw [eτ]; simp [gv_pv, (hq j).1]
  have r3 : ∀ j, gv τ 76 j = gv σ 15 j := fun j => by rw [eτ]; simp [gv_pv, (hq j).2]
  have hord : ∀ q : Int32, x3 ≤ q → wX12_order_42 Z2 (nI m) x2 x3 x3 q τ := by
    intro q hq2
    simp only [wX12_order_42, wX12_changes, hq2, forall_eq, gv_pv, r1, true_implies, false_implies, not_true_eq_false, not_false_eq_true, implies_true, and_self, and_true, true_and, Nat.reduceEqDiff, false_and, and_false, if_false, if_true, hv', hcl', hp1', hpm, hnar]
    refine h2 _ ⟨Ls, ?_⟩
    have hO' : IvO (nI (O + 1)) (nI (O + 1)) (gv σ 2 4) (gv σ 0 5) (gr σ 14) (gr σ 15) (upd (gr σ 20) O (gv σ 0 5)) (upd (gr σ 21) O (nI m)) (upd (gr σ 22) O x2) (upd (gr σ 23) O x3) (upd (gr σ 81) O (gv σ 11 51)) (upd (gr σ 82) O (nI m)) (upd (gr σ 83) O x2) (upd (gr σ 84) O x3) := by
      refine ⟨rfl, by rw [g2, k1], by rw [g3], by rw [g4], by rw [g5], O + 1, by omega, rfl, fun j hj => ?_, fun i j hij hj => ?_⟩
      · by_cases hjO : j = O
        · subst hjO
          obtain ⟨v, hv9, rfl⟩ := nI_of c1
          obtain ⟨a1, a2, a3, a4, b1, b2, b3, b4, b5, b6, b7, b8, b9, b10⟩ := hm m hm1
          rw [hmst] at c2
          have hv10 : v ≤ 9 := by
            by_cases hx : x2 = 0
            · rw [if_pos hx, gv_gr, b9] at c2
              have := (nI_leI hv9 (by omega)).mp c2
              omega
            · rw [if_neg hx, gv_gr, b10] at c2
              have := (nI_leI hv9 (by omega)).mp c2
              omega
          refine ⟨ck, m, v, by rw [ek, nI_clamp (by omega)]; exact Nat.le_refl _, by rw [en, nI_clamp (by omega)]; exact hm1, hv10, by rw [upd_same, ek], upd_same, by rw [upd_same]; exact hx2, upd_same, ?_⟩
          rw [upd_same, upd_same]
          exact c2
        · rw [upd_ne hjO, upd_ne hjO, upd_ne hjO, upd_ne hjO]
          exact g6 j (by omega)
      · by_cases hjO : j = O
        · subst hjO
          rw [upd_same]
          by_cases hiO : i = j
          · subst hiO
            rw [upd_same]
            exact Int32.le_refl _
          · rw [upd_ne hiO]
            obtain ⟨h', _, _, q1, _, _, q2, _⟩ := g6 i (by omega)
            rw [q2, ek]
            rw [ek, nI_clamp (by omega)] at q1
            exact nI_le q1 (by omega)
        · rw [upd_ne hjO, upd_ne (show i ≠ O by omega)]
          exact g7 i j hij (by omega)
    rw [eτ]
    simpa [gv_pv, gr_pv, gw_pv, gn_pv] using ⟨hT, hM, hS, hF, hC, hR, hO', hG, hP, hp, hK, Or.inl rfl, hL, hk⟩
  refine ⟨fun c => ?_, fun c => isMillM n (by omega) (by rw [r1]; exact en') (fun m' _ _ => ⟨fun c => absurd c z10, fun _ => ⟨fun c => absurd c c1, fun _ => ⟨fun cz => ⟨vp_in_nI (by omega) (by decide), ?_⟩, fun cz => ⟨vp_in_nI (by omega) (by decide), ?_⟩⟩⟩⟩) (fun h => absurd rfl (h m hm1))⟩
  · rw [r1] at c
    exact absurd c d5
  · rw [nI_clamp (by omega), r2]
    rw [hmst, if_pos cz] at c2
    exact hord _ c2
  · rw [nI_clamp (by omega), r3]
    rw [hmst, if_neg cz] at c2
    exact hord _ c2
end ED
