/-! mill, rain, order, grist. -/
section EC
variable {σ : St} {Z : Int32 → St → Prop}
theorem mill_noD {x1 x2 x3 x4 : Int32} (h : gv σ 0 5 ≠ 0 ∨ x1 < 1 ∨ 1000 < x1 ∨ x2 < 0 ∨ x1 < x2 ∨ x3 < 1 ∨ 4 < x3 ∨ x4 < 0 ∨ 9 < x4 ∨ ¬ gv σ 2 4 < 7) (hz : Z (-1) σ) : wX11_mill x1 x2 x3 x4 σ Z := by
  rcases h with h | h | h | h | h | h | h | h | h | h
  · exact ⟨fun c => absurd c h, fun _ => hz⟩
  all_goals
    refine ⟨fun _ => ?_, fun _ => hz⟩
    simp only [wX3_add, wX3_add_25, wX3_add_26, wX3_add_54, wX3_add_55, h, hz, true_implies, false_implies, not_true_eq_false, not_false_eq_true, implies_true, and_self, and_true, true_and]
theorem mill_noM {x1 x2 x3 x4 : Int32} (h : gv σ 11 51 ≠ 0 ∨ x1 < 1 ∨ 1000 < x1 ∨ x2 < 0 ∨ x1 < x2 ∨ x3 < 1 ∨ 4 < x3 ∨ x4 < 0 ∨ 9 < x4 ∨ gv σ 11 43 = 7) (hz : Z (-1) σ) : wX12_mill x1 x2 x3 x4 σ Z := by
  rcases h with h | h | h | h | h | h | h | h | h | h
  · simp only [wX12_mill, h, hz, true_implies, false_implies, not_true_eq_false, not_false_eq_true, implies_true, and_self, and_true, true_and]
  · simp only [wX12_mill, h, hz, true_implies, false_implies, not_true_eq_false, not_false_eq_true, implies_true, and_self, and_true, true_and]
  · simp only [wX12_mill, h, hz, true_implies, false_implies, not_true_eq_false, not_false_eq_true, implies_true, and_self, and_true, true_and]
  · simp only [wX12_mill, h, hz, true_implies, false_implies, not_true_eq_false, not_false_eq_true, implies_true, and_self, and_true, true_and]
  · simp only [wX12_mill, h, hz, true_implies, false_implies, not_true_eq_false, not_false_eq_true, implies_true, and_self, and_true, true_and]
  · simp only [wX12_mill, h, hz, true_implies, false_implies, not_true_eq_false, not_false_eq_true, implies_true, and_self, and_true, true_and]
  · simp only [wX12_mill, h, hz, true_implies, false_implies, not_true_eq_false, not_false_eq_true, implies_true, and_self, and_true, true_and]
  · simp only [wX12_mill, h, hz, true_implies, false_implies, not_true_eq_false, not_false_eq_true, implies_true, and_self, and_true, true_and]
  · have h' : ¬ x4 ≤ 9 := i32_le.mpr h
    simp only [wX12_mill, h', hz, true_implies, false_implies, not_true_eq_false, not_false_eq_true, implies_true, and_self, and_true, true_and]
  · simp only [wX12_mill, h, hz, true_implies, false_implies, not_true_eq_false, not_false_eq_true, implies_true, and_self, and_true, true_and]
theorem nI_of3 {x M : Int32} {n : Nat} (hM : M.toInt = n) (h : ¬ x < 0) (h5 : ¬ M < x) : ∃ j : Nat, j ≤ n ∧ x = nI j := nI_of2 hM h (i32_lt.mp h5)
theorem both_mill (hI : Inv σ) (x1 x2 x3 x4 : Int32) (hZ : ∀ r σ1, (∀ Z2 : Int32 → St → Prop, (∀ σ2, Inv σ2 → Z2 r σ2) → wX12_mill x1 x2 x3 x4 σ1 Z2) → Z r σ1) : wX11_mill x1 x2 x3 x4 σ Z := by
  obtain ⟨Ls, hT, hM, hS, hF, hC, hR, hO, hG, hP, hp, hK, hN, hL, hk⟩ := id hI
  obtain ⟨e1, e2, e3, e4, e5, n, hn, en, hm⟩ := id hM
  have e7 : (gv σ 11 43 = 7) ↔ ¬ gv σ 2 4 < 7 := by
    rw [← e1, en]
    have : (7 : Int32) = nI 7 := rfl
    rw [this, nI_eq (by omega) (by decide), nI_ltI (by omega) (by decide)]
    omega
  have hno : ∀ h : gv σ 0 5 ≠ 0 ∨ x1 < 1 ∨ 1000 < x1 ∨ x2 < 0 ∨ x1 < x2 ∨ x3 < 1 ∨ 4 < x3 ∨ x4 < 0 ∨ 9 < x4 ∨ ¬ gv σ 2 4 < 7, wX11_mill x1 x2 x3 x4 σ Z := fun h => mill_noD h (hZ _ _ (fun Z2 h2 => mill_noM (by rw [hC.1, ← e7] at h; exact h) (h2 _ hI)))
  by_cases c0 : gv σ 0 5 = 0
  case neg => exact hno (Or.inl c0)
  by_cases c1 : x1 < 1
  · exact hno (by simp only [c1, true_or, or_true])
  by_cases c2 : 1000 < x1
  · exact hno (by simp only [c2, true_or, or_true])
  by_cases c3 : x2 < 0
  · exact hno (by simp only [c3, true_or, or_true])
  by_cases c4 : x1 < x2
  · exact hno (by simp only [c4, true_or, or_true])
  by_cases c5 : x3 < 1
  · exact hno (by simp only [c5, true_or, or_true])
  by_cases c6 : 4 < x3
  · exact hno (by simp only [c6, true_or, or_true])
  by_cases c7 : x4 < 0
  · exact hno (by simp only [c7, true_or, or_true])
  by_cases c8 : 9 < x4
  · exact hno (by simp only [c8, true_or, or_true])
  by_cases c9 : gv σ 2 4 < 7
  case neg => exact hno (by simp only [c9, not_false_eq_true, or_true])
  have hn7 : n < 7 := (nI_ltI (by omega) (by decide)).mp (by rw [← en]; exact c9)
  have z10 : ¬ (1 : Int32) = 0 := by decide
  have hv : vp_in (gv σ 2 4) 7 := by rw [en]; exact vp_in_nI hn7 (by decide)
  have hcl : (gv σ 2 4).toNatClampNeg = n := by rw [en]; exact nI_clamp (by omega)
  have hp1 : gv σ 2 4 + 1 = nI (n + 1) := by rw [en]; exact nI_1 n
  have hpm : nI (n + 1) - 1 = nI n := nI_pred n
  simp only [wX11_mill, c0, wX3_add, wX3_add_26, wX3_add_55, c1, c2, c3, c4, c5, c6, c7, c8, c9, z10, forall_eq, gv_pv, true_implies, false_implies, not_true_eq_false, not_false_eq_true, and_true, true_and, Nat.reduceEqDiff, false_and, and_false, if_false, and_self, if_true, hv, hcl, hp1, hpm]
  refine hZ _ _ (fun Z2 h2 => ?_)
  have d0 : gv σ 11 51 = 0 := by rw [← hC.1]; exact c0
  have d9 : ¬ gv σ 11 43 = 7 := fun q => (e7.mp q) c9
  have c8' : x4 ≤ 9 := i32_lt.mp c8
  have hv' : vp_in (gv σ 11 43) 7 := by rw [← e1]; exact hv
  have hcl' : (gv σ 11 43).toNatClampNeg = n := by rw [← e1]; exact hcl
  have hp1' : gv σ 11 43 + 1 = nI (n + 1) := by rw [← e1]; exact hp1
  simp only [wX12_mill, wX12_changes, d0, d9, c1, c2, c3, c4, c5, c6, c7, c8', forall_eq, gv_pv, true_implies, false_implies, not_true_eq_false, not_false_eq_true, and_true, true_and, Nat.reduceEqDiff, false_and, and_false, if_false, and_self, if_true, hv', hcl', hp1', hpm]
  refine h2 _ ⟨Ls, ?_⟩
  have hM' : IvM (nI (n + 1)) (nI (n + 1)) (upd (gr σ 12) n x1) (upd (gr σ 13) n x2) (upd (gr σ 14) n x3) (upd (gr σ 15) n x4) (upd (gr σ 73) n x1) (upd (gr σ 74) n x2) (upd (gr σ 75) n x3) (upd (gr σ 76) n x4) := by
    refine ⟨rfl, by rw [e2], by rw [e3], by rw [e4], by rw [e5], n + 1, by omega, rfl, fun m hm1 => ?_⟩
    by_cases hmn : m = n
    · subst hmn
      obtain ⟨a1, b1, rfl⟩ := nI_of3 (x := x1) (M := 1000) (n := 1000) (by decide) (fun q => c1 (Int32.lt_trans q (by decide))) c2
      obtain ⟨a2, b2, rfl⟩ := nI_of c3
      obtain ⟨a3, b3, rfl⟩ := nI_of3 (x := x3) (M := 4) (n := 4) (by decide) (fun q => c5 (Int32.lt_trans q (by decide))) c6
      obtain ⟨a4, b4, rfl⟩ := nI_of3 (x := x4) (M := 9) (n := 9) (by decide) c7 c8
      have f1 : 1 ≤ a1 := Nat.not_lt.mp (fun q => c1 ((nI_ltI (b := 1) (by omega) (by decide)).mpr q))
      have f2 : a2 ≤ a1 := Nat.not_lt.mp (fun q => c4 ((nI_ltI (by omega) b2).mpr q))
      have f3 : 1 ≤ a3 := Nat.not_lt.mp (fun q => c5 ((nI_ltI (b := 1) (by omega) (by decide)).mpr q))
      exact ⟨a1, a2, a3, a4, f1, b1, f2, f3, b3, b4, upd_same, upd_same, upd_same, upd_same⟩
    · rw [upd_ne hmn, upd_ne hmn, upd_ne hmn, upd_ne hmn]
      exact hm m (by omega)
  have hms : (gv σ 2 4).toNatClampNeg ≤ (nI (n + 1)).toNatClampNeg := by rw [hcl, nI_clamp (by omega)]; omega
  have hO' := hO.mono (ck' := gv σ 0 5) (f14' := upd (gr σ 14) n x3) (f15' := upd (gr σ 15) n x4) hms (Nat.le_refl _) (fun m hm => ⟨upd_ne (by omega), upd_ne (by omega)⟩)
  have hG' := hG.mono (ck' := gv σ 0 5) hms (Nat.le_refl _)
  have hR' := hR.mono hms
  simpa [gv_pv, gr_pv, gw_pv, gn_pv, hcl, hcl', hp1, hp1'] using ⟨hT, hM', hS, hF, hC, hR', hO', hG', hP, hp, hK, Or.inl rfl, hL, hk⟩
theorem isMillD {x : Int32} {Q : Int32 → St → Prop} (n : Nat) (hn : n < 2 ^ 31) (en : gv σ 2 4 = nI n) (h1 : ∀ m, m < n → x = nI m → Q 1 σ) (h0 : (∀ m, m < n → x ≠ nI m) → Q 0 σ) : wX11_isMill x σ Q := by
  refine ⟨fun c => h0 (fun m hm e => ?_), fun c => ⟨fun c2 => h0 (fun m hm e => ?_), fun c2 => ?_⟩⟩
  · rw [e] at c
    exact nI_pos (by omega) c
  · rw [e, en] at c2
    have := (nI_leI (by omega) (by omega)).mp c2
    omega
  · obtain ⟨j, hj, rfl⟩ := nI_of c
    rw [en] at c2
    exact h1 j (Nat.not_le.mp (fun q => c2 ((nI_leI (by omega) (by omega)).mpr q))) rfl
theorem isMillM {x : Int32} {Q : Int32 → St → Prop} (n : Nat) (hn : n < 2 ^ 31) (en : gv σ 11 43 = nI n) (h1 : ∀ m, m < n → x = nI m → Q 1 σ) (h0 : (∀ m, m < n → x ≠ nI m) → Q 0 σ) : wX12_isMill x σ Q := by
  refine ⟨fun c => h0 (fun m hm e => ?_), fun c => ⟨fun c2 => h0 (fun m hm e => ?_), fun c2 => ?_⟩⟩
  · rw [e] at c
    exact nI_pos (by omega) c
  · rw [e, en] at c2
    have := (nI_leI (by omega) (by omega)).mp c2
    omega
  · obtain ⟨j, hj, rfl⟩ := nI_of c
    rw [en] at c2
    exact h1 j (Nat.not_le.mp (fun q => c2 ((nI_leI (by omega) (by omega)).mpr q))) rfl
theorem z10 : ¬ (1 : Int32) = 0 := by decide
/-- grist -/
theorem both_grist (hI : Inv σ) (x1 x2 : Int32) (hZ : ∀ r σ1, (∀ Z2 : Int32 → St → Prop, (∀ σ2, Inv σ2 → Z2 r σ2) → wX12_grist x1 x2 σ1 Z2) → Z r σ1) : wX11_grist x1 x2 σ Z := by
  obtain ⟨Ls, hT, hM, hS, hF, hC, hR, hO, hG, hP, hp, hK, hN, hL, hk⟩ := id hI
  obtain ⟨m1, -, -, -, -, n, hn, en, hm⟩ := id hM
  obtain ⟨g1, g2, g3, g4, G, hG6, eG, g5, g6⟩ := id hG
  obtain ⟨k1, ck, hck, ek⟩ := id hC
  have en' : gv σ 11 43 = nI n := by rw [← m1]; exact en
  have eG' : gv σ 11 61 = nI G := by rw [← g1]; exact eG
  have z60 : (60 : Int32) = nI 60 := rfl
  have hno : (¬ G < 60 ∨ (∀ m, m < n → x1 ≠ nI m) ∨ x2 < 1 ∨ ¬ x2 ≤ 10000) → Z (-1) σ := fun h => hZ _ _ (fun Z2 h2 => by
    have hz := h2 _ hI
    refine ⟨fun _ => hz, fun c => isMillM n (by omega) en' (fun m hm e => ⟨fun c => absurd c z10, fun _ => ⟨fun _ => hz, fun c2 => ⟨fun c3 => ?_, fun _ => hz⟩⟩⟩) (fun _ => ⟨fun _ => hz, fun c => absurd rfl c⟩)⟩
    exfalso
    rcases h with h | h | h | h
    · rw [eG', z60, nI_eq (by omega) (by decide)] at c
      omega
    · exact h m hm e
    · exact c2 h
    · exact h c3)
  refine isMillD n (by omega) en (fun m hm1 e => ⟨fun c => absurd c z10, fun _ => ⟨fun c1 => hno (by simp only [c1, true_or, or_true]), fun c1 => ⟨fun c2 => ?_, fun c2 => hno (by simp only [c2, not_false_eq_true, or_true])⟩⟩⟩) (fun h => ⟨fun _ => hno (Or.inr (Or.inl h)), fun c => absurd rfl c⟩)
  by_cases hG7 : G < 60
  case neg =>
    refine ⟨fun c => ?_, fun c => hno (Or.inl hG7)⟩
    rw [eG, z60, nI_ltI (by omega) (by decide)] at c
    exact absurd c hG7
  have c5 : gv σ 9 5 < 60 := by rw [eG]; exact nI_lt hG7 (by decide)
  have hv : vp_in (gv σ 9 5) 60 := by rw [eG]; exact vp_in_nI hG7 (by decide)
  have hcl : (gv σ 9 5).toNatClampNeg = G := by rw [eG]; exact nI_clamp (by omega)
  have hp1 : gv σ 9 5 + 1 = nI (G + 1) := by rw [eG]; exact nI_1 G
  have hpm : nI (G + 1) - 1 = nI G := nI_pred G
  simp only [wX1_add, c5, forall_eq, gv_pv, true_implies, false_implies, not_true_eq_false, not_false_eq_true, implies_true, and_self, and_true, true_and, Nat.reduceEqDiff, false_and, and_false, if_false, if_true, hv, hcl, hp1, hpm]
  refine hZ _ _ (fun Z2 h2 => ?_)
  have d5 : ¬ gv σ 11 61 = 60 := by
    rw [eG', z60, nI_eq (by omega) (by decide)]
    omega
  have hv' : vp_in (gv σ 11 61) 60 := by rw [← g1]; exact hv
  have hcl' : (gv σ 11 61).toNatClampNeg = G := by rw [← g1]; exact hcl
  have hp1' : gv σ 11 61 + 1 = nI (G + 1) := by rw [← g1]; exact hp1
  have en2 : ∀ a b c d, gv (pv (pv (pv (pv σ 39 G a) 40 G b) 41 G c) 9 5 d) 11 43 = nI n := fun a b c d => by simp [gv_pv, en']
  have im : ∀ (τ : St) (Q : Int32 → St → Prop), gv τ 11 43 = nI n → Q 1 τ → wX12_isMill x1 τ Q := fun τ Q h q => isMillM n (by omega) h (fun _ _ _ => q) (fun h => absurd e (h m hm1))
  refine ⟨fun c => ?_, fun c => im _ _ (en2 _ _ _ _) ⟨fun c => absurd c z10, fun _ => ⟨fun c => absurd c c1, fun _ => ⟨fun _ => ?_, fun c => absurd c2 c⟩⟩⟩⟩
  · simp only [gv_pv, Nat.reduceEqDiff, false_and, and_false, if_false] at c
    exact absurd c d5
  simp only [forall_eq, gv_pv, true_implies, false_implies, not_true_eq_false, not_false_eq_true, implies_true, and_self, and_true, true_and, Nat.reduceEqDiff, false_and, and_false, if_false, if_true, hv', hcl', hp1', hpm]
  refine h2 _ ⟨Ls, ?_⟩
  have hG' : IvG (nI (G + 1)) (nI (G + 1)) (gv σ 2 4) (gv σ 0 5) (upd (gr σ 39) G (gv σ 0 5)) (upd (gr σ 40) G x1) (upd (gr σ 41) G x2) (upd (gr σ 85) G x1) (upd (gr σ 86) G x2) (upd (gr σ 87) G (gv σ 11 51)) := by
    refine ⟨rfl, by rw [g2, k1], by rw [g3], by rw [g4], G + 1, by omega, rfl, fun j hj => ?_, fun i j hij hj => ?_⟩
    · by_cases hjG : j = G
      · subst hjG
        obtain ⟨w, hw, rfl⟩ := nI_of2 (x := x2) (M := 10000) (n := 10000) (by decide) (fun q => c1 (Int32.lt_trans q (by decide))) c2
        have f1 : 1 ≤ w := Nat.not_lt.mp (fun q => c1 ((nI_ltI (b := 1) (by omega) (by decide)).mpr q))
        refine ⟨ck, m, w, by rw [ek, nI_clamp (by omega)]; exact Nat.le_refl _, by rw [en, nI_clamp (by omega)]; exact hm1, f1, hw, by rw [upd_same, ek], by rw [upd_same, e], upd_same⟩
      · rw [upd_ne hjG, upd_ne hjG, upd_ne hjG]
        exact g5 j (by omega)
    · by_cases hjG : j = G
      · subst hjG
        rw [upd_same]
        by_cases hiG : i = j
        · subst hiG
          rw [upd_same]
          exact Int32.le_refl _
        · rw [upd_ne hiG]
          obtain ⟨h', _, _, q1, _, _, _, q2, _⟩ := g5 i (by omega)
          rw [q2, ek]
          rw [ek, nI_clamp (by omega)] at q1
          exact nI_le q1 (by omega)
      · rw [upd_ne hjG, upd_ne (show i ≠ G by omega)]
        exact g6 i j hij (by omega)
  simpa [gv_pv, gr_pv, gw_pv, gn_pv] using ⟨hT, hM, hS, hF, hC, hR, hO, hG', hP, hp, hK, hN, hL, hk⟩
end EC
