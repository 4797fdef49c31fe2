/-! Calls that touch few cells. -/
section EA
variable {σ : St} {Z : Int32 → St → Prop}
theorem both_back (hI : Inv σ) (x1 : Int32) (hZ : ∀ r σ1, (∀ Z2 : Int32 → St → Prop, (∀ σ2, Inv σ2 → Z2 r σ2) → wX12_back x1 σ1 Z2) → Z r σ1) : wX11_back x1 σ Z := by
  obtain ⟨Ls, hT, hM, hS, hF, hC, hR, hO, hG, hP, hp, hK, hN, hL, hk⟩ := id hI
  obtain ⟨t1, t2, t, ht, et⟩ := id hT
  unfold wX11_back
  refine ⟨fun c1 => hZ _ _ (fun Z2 h2 => ?_), fun c1 => ⟨fun c2 => ?_, fun c2 => hZ _ _ (fun Z2 h2 => ?_)⟩⟩
  · simp only [wX12_back, c1, true_implies, not_true_eq_false, false_implies, and_true]
    exact h2 _ hI
  · rintro σ3 rfl
    obtain ⟨n, hn, rfl⟩ := nI_of c1
    rw [et] at c2
    have hnt : n ≤ t := (nI_leI hn (by omega)).mp c2
    have e3 : gv σ 6 0 - nI n = nI (t - n) := by rw [et, pk_sub hnt]
    have e5 : gv (pv σ 6 0 (gv σ 6 0 - nI n)) 6 0 = nI (t - n) := by simp [gv_pv, e3]
    rw [e5]
    refine hZ _ _ (fun Z2 h2 => ?_)
    have e4 : gv σ 11 2 - nI n = nI (t - n) := by rw [← t1, e3]
    have c3 : nI n ≤ gv σ 11 2 := by rw [← t1, et]; exact c2
    simp only [wX12_back, gv_pv, forall_eq]
    simp only [Nat.reduceEqDiff, false_and, and_self, if_true, if_false, e3, e4, c1, c3, not_true_eq_false, not_false_eq_true, true_implies, false_implies, and_true, true_and]
    refine h2 _ ⟨Ls, ?_⟩
    have hT' : IvT (nI (t - n)) (nI (t - n)) (gr σ 24) (gr σ 48) := ⟨rfl, t2, t - n, by omega, rfl⟩
    simpa [gv_pv, gr_pv, gw_pv, gn_pv] using ⟨hT', hM, hS, hF, hC, hR, hO, hG, hP, hp, hK, hN, hL, hk⟩
  · have c3 : ¬ x1 ≤ gv σ 11 2 := by rw [← t1]; exact c2
    simp only [wX12_back, c1, c3, not_false_eq_true, true_implies, false_implies, and_true, true_and]
    exact h2 _ hI
theorem both_place (hI : Inv σ) (hZ : ∀ r σ1, (∀ Z2 : Int32 → St → Prop, (∀ σ2, Inv σ2 → Z2 r σ2) → wX12_place σ1 Z2) → Z r σ1) : wX11_place σ Z := by
  obtain ⟨Ls, hT, hM, hS, hF, hC, hR, hO, hG, hP, hp, hK, hN, hL, hk⟩ := id hI
  unfold wX11_place
  refine hZ _ _ (fun Z2 h2 => ?_)
  unfold wX12_place
  rw [← hp]
  exact h2 _ hI
theorem det_count (x1 : Int32) : ∃ r, ∀ Z, wX11_count x1 σ Z ↔ Z r σ := by
  by_cases c0 : x1 = 0
  · exact ⟨_, fun Z => by simp only [wX11_count, c0, true_implies, not_true_eq_false, false_implies, and_true]; exact Iff.rfl⟩
  by_cases c1 : x1 = 1
  · subst c1; exact ⟨gv σ 3 0, fun Z => by simp [wX11_count]⟩
  by_cases c2 : x1 = 2
  · subst c2; exact ⟨gv σ 4 4, fun Z => by simp [wX11_count]⟩
  by_cases c3 : x1 = 3
  · subst c3; exact ⟨gv σ 9 5, fun Z => by simp [wX11_count]⟩
  by_cases c4 : x1 = 4
  · subst c4; exact ⟨gv σ 8 0, fun Z => by simp [wX11_count]⟩
  by_cases c5 : x1 = 5
  · subst c5; exact ⟨gv σ 8 1, fun Z => by simp [wX11_count]⟩
  by_cases c6 : x1 = 6
  · subst c6; exact ⟨gv σ 0 5, fun Z => by simp [wX11_count]⟩
  by_cases c7 : x1 = 7
  · subst c7; exact ⟨gv σ 2 6, fun Z => by simp [wX11_count]⟩
  by_cases c8 : x1 = 8
  · subst c8; exact ⟨gv σ 6 0, fun Z => by simp [wX11_count]⟩
  exact ⟨-1, fun Z => by simp [wX11_count, c0, c1, c2, c3, c4, c5, c6, c7, c8]⟩
theorem both_count (hI : Inv σ) (x1 : Int32) (hZ : ∀ r σ1, (∀ Z2 : Int32 → St → Prop, (∀ σ2, Inv σ2 → Z2 r σ2) → wX12_count x1 σ1 Z2) → Z r σ1) : wX11_count x1 σ Z := by
  obtain ⟨Ls, hT, hM, hS, hF, hC, hR, hO, hG, hP, hp, hK, hN, hL, hk⟩ := id hI
  obtain ⟨-, -, l1, l2, A, _, _, _, _, -, l3, l4, -⟩ := id hL
  have key : ∀ Z2, wX12_count x1 σ Z2 = wX11_count x1 σ Z2 := fun Z2 => by
    unfold wX12_count wX11_count
    rw [hM.1, hR.1, hO.1, hG.1, l1, l2, l3, l4, hC.1, hF.1, hT.1]
  obtain ⟨r, hr⟩ := det_count (σ := σ) x1
  rw [hr]
  exact hZ _ _ (fun Z2 h2 => by rw [key, hr]; exact h2 _ hI)
theorem both_planned (hI : Inv σ) (x1 : Int32) (hZ : ∀ r σ1, (∀ Z2 : Int32 → St → Prop, (∀ σ2, Inv σ2 → Z2 r σ2) → wX12_planned x1 σ1 Z2) → Z r σ1) : wX11_planned x1 σ Z := by
  obtain ⟨Ls, hT, hM, hS, hF, hC, hR, hO, hG, hP, hp, hK, hN, hL, hk⟩ := id hI
  obtain ⟨p1, n, hn, en, pf⟩ := id hP
  unfold wX11_planned wX11_planned_15
  refine ⟨fun c1 => hZ _ _ (fun Z2 h2 => ?_), fun c1 => ⟨fun c2 => ?_, fun c2 => hZ _ _ (fun Z2 h2 => ?_)⟩⟩
  · simp only [wX12_planned, wX12_planned_12, c1, true_implies, not_true_eq_false, false_implies, and_true]
    exact h2 _ hI
  · obtain ⟨j, hj, rfl⟩ := nI_of c1
    have hjn : j < n := (nI_ltI hj (by omega)).mp (by rw [← en]; exact c2)
    refine ⟨vp_in_nI (by omega) (by decide), hZ _ _ (fun Z2 h2 => ?_)⟩
    have c3 : nI j < gv σ 11 75 := by rw [← p1]; exact c2
    simp only [wX12_planned, wX12_planned_12, c1, c3, not_true_eq_false, not_false_eq_true, true_implies, false_implies, and_true, true_and]
    refine ⟨vp_in_nI (by omega) (by decide), ?_⟩
    rw [nI_clamp hj] at h2 ⊢
    have e := pf j hjn
    rw [gv_gr, e] at h2
    exact h2 _ hI
  · have c3 : ¬ x1 < gv σ 11 75 := by rw [← p1]; exact c2
    simp only [wX12_planned, wX12_planned_12, c1, c3, not_false_eq_true, true_implies, false_implies, and_true, true_and]
    exact h2 _ hI
theorem both_spring (hI : Inv σ) (x1 : Int32) (hZ : ∀ r σ1, (∀ Z2 : Int32 → St → Prop, (∀ σ2, Inv σ2 → Z2 r σ2) → wX12_spring x1 σ1 Z2) → Z r σ1) : wX11_spring x1 σ Z := by
  obtain ⟨Ls, hT, hM, hS, hF, hC, hR, hO, hG, hP, hp, hK, hN, hL, hk⟩ := id hI
  unfold wX11_spring
  refine ⟨fun c1 => hZ _ _ (fun Z2 h2 => ?_), fun c1 => ⟨fun c2 => ?_, fun c2 => hZ _ _ (fun Z2 h2 => ?_)⟩⟩
  · simp only [wX12_spring, c1, true_implies, not_true_eq_false, false_implies, and_true]
    exact h2 _ hI
  · rintro σ3 rfl
    refine hZ _ _ (fun Z2 h2 => ?_)
    simp only [wX12_spring, wX12_changes, c1, c2, forall_eq, not_true_eq_false, not_false_eq_true, true_implies, false_implies, and_true, true_and]
    refine h2 _ ⟨Ls, ?_⟩
    obtain ⟨s, hs, rfl⟩ := nI_of2 (M := 100) (n := 100) (by decide) c1 c2
    have hS' : IvS (nI s) (nI s) := ⟨rfl, s, hs, rfl⟩
    simpa [gv_pv, gr_pv, gw_pv, gn_pv] using ⟨hT, hM, hS', hF, hC, hR, hO, hG, hP, hp, hK, Or.inl rfl, hL, hk⟩
  · simp only [wX12_spring, c1, c2, not_false_eq_true, true_implies, false_implies, and_true, true_and]
    exact h2 _ hI
theorem IvO.mono {a b ms ms' ck ck' : Int32} {f14 f15 f14' f15' f20 f21 f22 f23 g81 g82 g83 g84 : Nat → Int32} (h : IvO a b ms ck f14 f15 f20 f21 f22 f23 g81 g82 g83 g84) (h1 : ms.toNatClampNeg ≤ ms'.toNatClampNeg) (h2 : ck.toNatClampNeg ≤ ck'.toNatClampNeg) (h3 : ∀ m, m < ms.toNatClampNeg → f14' m = f14 m ∧ f15' m = f15 m) : IvO a b ms' ck' f14' f15' f20 f21 f22 f23 g81 g82 g83 g84 := by
  obtain ⟨o1, o2, o3, o4, o5, O, o6, o7, o8, o9⟩ := h
  refine ⟨o1, o2, o3, o4, o5, O, o6, o7, fun j hj => ?_, o9⟩
  obtain ⟨hh, m, v, q1, q2, q3, q4, q5, q6, q7, q8⟩ := o8 j hj
  exact ⟨hh, m, v, by omega, by omega, q3, q4, q5, q6, q7, by rw [(h3 m q2).1, (h3 m q2).2]; exact q8⟩
theorem IvG.mono {a b ms ms' ck ck' : Int32} {f39 f40 f41 g85 g86 g87 : Nat → Int32} (h : IvG a b ms ck f39 f40 f41 g85 g86 g87) (h1 : ms.toNatClampNeg ≤ ms'.toNatClampNeg) (h2 : ck.toNatClampNeg ≤ ck'.toNatClampNeg) : IvG a b ms' ck' f39 f40 f41 g85 g86 g87 := by
  obtain ⟨o1, o2, o3, o4, G, o6, o7, o8, o9⟩ := h
  refine ⟨o1, o2, o3, o4, G, o6, o7, fun j hj => ?_, o9⟩
  obtain ⟨hh, m, w, q1, q2, q⟩ := o8 j hj
  exact ⟨hh, m, w, by omega, by omega, q⟩
theorem IvR.mono {a b ms ms' : Int32} {f17 f18 g78 g79 g80 : Nat → Int32} (h : IvR a b ms f17 f18 g78 g79 g80) (h1 : ms.toNatClampNeg ≤ ms'.toNatClampNeg) : IvR a b ms' f17 f18 g78 g79 g80 := by
  obtain ⟨o1, o2, F, o6, o7, o8⟩ := h
  refine ⟨o1, o2, F, o6, o7, fun j hj => ?_⟩
  obtain ⟨hh, m, v, q1, q2, q⟩ := o8 j hj
  exact ⟨hh, m, v, q1, by omega, q⟩
theorem both_clock (hI : Inv σ) (x1 : Int32) (hZ : ∀ r σ1, (∀ Z2 : Int32 → St → Prop, (∀ σ2, Inv σ2 → Z2 r σ2) → wX12_clock x1 σ1 Z2) → Z r σ1) : wX11_clock x1 σ Z := by
  obtain ⟨Ls, hT, hM, hS, hF, hC, hR, hO, hG, hP, hp, hK, hN, hL, hk⟩ := id hI
  obtain ⟨e1, c, hc, e2⟩ := id hC
  unfold wX11_clock
  refine ⟨fun c1 => hZ _ _ (fun Z2 h2 => ?_), fun c1 => ⟨fun c2 => ?_, fun c2 => hZ _ _ (fun Z2 h2 => ?_)⟩⟩
  · have c3 : x1 < gv σ 11 51 := by rw [← e1]; exact c1
    simp only [wX12_clock, c3, true_implies, not_true_eq_false, false_implies, and_true]
    exact h2 _ hI
  · rintro σ3 rfl
    refine hZ _ _ (fun Z2 h2 => ?_)
    have c3 : ¬ x1 < gv σ 11 51 := by rw [← e1]; exact c1
    have c0 : ¬ x1 < 0 := fun q => c1 (by rw [e2]; exact Int32.lt_of_lt_of_le q (nI_pos' (by omega)))
    obtain ⟨n, hn, rfl⟩ := nI_of c0
    have hn1 : n < 240 := (nI_ltI hn (by decide)).mp c2
    have hn2 : c ≤ n := by
      rw [e2] at c1
      exact Nat.not_lt.mp (fun q => c1 ((nI_ltI hn (by omega)).mpr q))
    have e3 : gv (pv σ 0 5 (nI n)) 11 51 = gv σ 11 51 := by simp [gv_pv]
    simp only [wX12_clock, e3, c3, c2, forall_eq, not_true_eq_false, not_false_eq_true, true_implies, false_implies, and_true, true_and]
    refine h2 _ ⟨Ls, ?_⟩
    have hC' : IvC (nI n) (nI n) := ⟨rfl, n, hn1, rfl⟩
    have hcl : (gv σ 0 5).toNatClampNeg ≤ (nI n).toNatClampNeg := by rw [e2, nI_clamp (by omega), nI_clamp (by omega)]; exact hn2
    simpa [gv_pv, gr_pv, gw_pv, gn_pv] using ⟨hT, hM, hS, hF, hC', hR, hO.mono (Nat.le_refl _) hcl (fun _ _ => ⟨rfl, rfl⟩), hG.mono (Nat.le_refl _) hcl, hP, hp, hK, hN, hL, hk⟩
  · have c3 : ¬ x1 < gv σ 11 51 := by rw [← e1]; exact c1
    simp only [wX12_clock, c3, c2, not_false_eq_true, true_implies, false_implies, and_true, true_and]
    exact h2 _ hI
end EA
