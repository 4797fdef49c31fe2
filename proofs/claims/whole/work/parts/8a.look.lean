/-! What a rule sees of a mill, in the class. -/
theorem tc0 : (0 : Int32).toNatClampNeg = 0 := by decide
theorem tc1 : (1 : Int32).toNatClampNeg = 1 := by decide
theorem tc2 : (2 : Int32).toNatClampNeg = 2 := by decide
theorem tc3 : (3 : Int32).toNatClampNeg = 3 := by decide
theorem tc4 : (4 : Int32).toNatClampNeg = 4 := by decide
theorem tc5 : (5 : Int32).toNatClampNeg = 5 := by decide
theorem tc6 : (6 : Int32).toNatClampNeg = 6 := by decide
theorem tc7 : (7 : Int32).toNatClampNeg = 7 := by decide
theorem tc8 : (8 : Int32).toNatClampNeg = 8 := by decide
theorem tc9 : (9 : Int32).toNatClampNeg = 9 := by decide
theorem tc10 : (10 : Int32).toNatClampNeg = 10 := by decide
theorem tc11 : (11 : Int32).toNatClampNeg = 11 := by decide
theorem vl0 : vp_in 0 12 := by unfold vp_in; decide
theorem vl1 : vp_in 1 12 := by unfold vp_in; decide
theorem vl2 : vp_in 2 12 := by unfold vp_in; decide
theorem vl3 : vp_in 3 12 := by unfold vp_in; decide
theorem vl4 : vp_in 4 12 := by unfold vp_in; decide
theorem vl5 : vp_in 5 12 := by unfold vp_in; decide
theorem vl6 : vp_in 6 12 := by unfold vp_in; decide
theorem vl7 : vp_in 7 12 := by unfold vp_in; decide
theorem vl8 : vp_in 8 12 := by unfold vp_in; decide
theorem vl9 : vp_in 9 12 := by unfold vp_in; decide
theorem vl10 : vp_in 10 12 := by unfold vp_in; decide
theorem vl11 : vp_in 11 12 := by unfold vp_in; decide
theorem pv_def {σ : St} {k j : Nat} {x : Int32} : pv σ k j x = pa σ k (upd (gr σ k) j x) := rfl
/-- the vars of a mill ahead of the opening of its gate -/
def lkE (σ : St) (k h m n : Nat) : Nat → Int32
  | 0 => gv σ (k + 3) m
  | 1 => gv σ 13 m
  | 2 => gv σ 12 m
  | 3 => if m + 1 < n then gv σ (k + 3) (m + 1) else 0
  | 4 => if 0 < m then gv σ (k + 3) (m - 1) else 0
  | 5 => gv σ (k + 4) m
  | 6 => gv σ (k + 5) m
  | 7 => gv σ (k + 2) m
  | 8 => nI (h % 24)
  | 9 => nI (h / 24)
  | _ => 0
theorem stg_ge {k : Nat} (h : Stg k) : 100 ≤ k ∧ k + 13 ≤ 204 := by
  obtain ⟨i, hi, rfl⟩ := h
  omega
section LK
variable {σ : St} {Q : St → Prop} {k h m n : Nat}
theorem lookD (hk : Stg k) (hm : m < n) (hn : n ≤ 7) (eN : gv σ 2 4 = nI n) (eH : gv σ k 2 = nI h) (hh : h < 240) (hQ : ∀ g, (∀ j, j < 12 → g j = lkE σ k h m n j) → Q (pa (pv σ 8 18 (nI (h / 24))) 37 g)) : wX2_look k (nI m) σ Q := by
  have hk1 := (stg_ge hk).1
  have vm : vp_in (nI m) 7 := vp_in_nI (by omega) (by decide)
  have cm : (nI m).toNatClampNeg = m := nI_clamp (by omega)
  have e24 : nI h / 24 = nI (h / 24) := pk_div (d := 24) (by omega) (by decide) (by decide)
  have em24 : nI h - nI (h / 24) * 24 = nI (h % 24) := by
    rw [← e24]
    exact pk_rem (d := 24) (by omega) (by decide) (by decide)
  obtain ⟨S, eS⟩ : ∃ S, S = pv σ 8 18 (nI (h / 24)) := ⟨_, rfl⟩
  have ro : ∀ (g : Nat → Int32) (a b : Nat), a ≠ 37 → a ≠ 8 → gv (pa S 37 g) a b = gv σ a b := fun g a b h1 h2 => by
    rw [gv_pa, if_neg h1, eS, gv_pv, if_neg (fun q => h2 q.1)]
  have roS : ∀ (a b : Nat), a ≠ 8 → gv S a b = gv σ a b := fun a b h2 => by
    rw [eS, gv_pv, if_neg (fun q => h2 q.1)]
  have r8 : ∀ (g : Nat → Int32), gv (pa S 37 g) 8 18 = nI (h / 24) := fun g => by
    rw [gv_pa, if_neg (by decide), eS, gv_pv, if_pos ⟨rfl, rfl⟩]
  unfold wX2_look
  rw [eH, e24, ← eS]
  intro σ1 e1
  rw [e1]
  clear e1
  refine ⟨vm, vl0, ?_⟩
  rintro σ2 rfl
  refine ⟨vm, vl1, ?_⟩
  rintro σ3 rfl
  refine ⟨vm, vl2, ?_⟩
  rintro σ4 rfl
  rw [tc0, tc1, tc2, cm, roS _ _ (by omega), pv_def (σ := S) (j := 0), ro _ _ _ (by decide) (by decide), pv_pa, ro _ _ _ (by decide) (by decide), pv_pa, ro _ _ _ (by decide) (by decide), eN, nI_1]
  have fin : ∀ (x3 x4 : Int32), x3 = (if m + 1 < n then gv σ (k + 3) (m + 1) else 0) → x4 = (if 0 < m then gv σ (k + 3) (m - 1) else 0) → wX2_look_102 k Q (nI m) 4 x4 (pa S 37 (upd (upd (upd (upd (gr S 37) 0 (gv σ (k + 3) m)) 1 (gv σ 13 m)) 2 (gv σ 12 m)) 3 x3)) := by
    intro x3 x4 h3 h4
    refine ⟨vl4, ?_⟩
    rintro σ5 rfl
    refine ⟨vm, vl5, ?_⟩
    rintro σ6 rfl
    refine ⟨vm, vl6, ?_⟩
    rintro σ7 rfl
    refine ⟨vm, vl7, ?_⟩
    rintro σ8 rfl
    refine ⟨vl8, ?_⟩
    rintro σ9 rfl
    refine ⟨vl9, ?_⟩
    rintro σ10 rfl
    refine ⟨vl10, ?_⟩
    rintro σ11 rfl
    refine ⟨vl11, ?_⟩
    rintro σ12 rfl
    simp only [tc4, tc5, tc6, tc7, tc8, tc9, tc10, tc11, cm, pv_pa]
    rw [ro _ (k + 4) _ (by omega) (by omega), ro _ (k + 5) _ (by omega) (by omega), ro _ (k + 2) _ (by omega) (by omega), ro _ k _ (by omega) (by omega), r8, eH, e24, em24, eS]
    refine hQ _ (fun j hj => ?_)
    rcases (show j = 0 ∨ j = 1 ∨ j = 2 ∨ j = 3 ∨ j = 4 ∨ j = 5 ∨ j = 6 ∨ j = 7 ∨ j = 8 ∨ j = 9 ∨ j = 10 ∨ j = 11 by omega) with rfl | rfl | rfl | rfl | rfl | rfl | rfl | rfl | rfl | rfl | rfl | rfl
    all_goals first | rfl | exact h3 | exact h4
  have l78 : ∀ x3 : Int32, x3 = (if m + 1 < n then gv σ (k + 3) (m + 1) else 0) → wX2_look_78 k Q (nI m) 3 x3 (pa S 37 (upd (upd (upd (gr S 37) 0 (gv σ (k + 3) m)) 1 (gv σ 13 m)) 2 (gv σ 12 m))) := by
    intro x3 h3
    refine ⟨vl3, ?_⟩
    rintro σ5 rfl
    rw [tc3, pv_pa]
    refine ⟨fun c => ?_, fun c => ?_⟩
    · have hm0 : m = 0 := by
        have := (nI_leI (a := m) (b := 0) (by omega) (by decide)).mp c
        omega
      exact fin _ _ h3 (by rw [if_neg (by omega)])
    · have hm0 : 0 < m := Nat.pos_of_ne_zero (fun q => c (by rw [q]; decide))
      have em : nI m - 1 = nI (m - 1) := pk_sub (a := m) (b := 1) hm0
      rw [em, nI_clamp (by omega)]
      refine ⟨vp_in_nI (by omega) (by decide), ?_⟩
      rw [ro _ _ _ (by omega) (by omega)]
      exact fin _ _ h3 (by rw [if_pos hm0])
  refine ⟨fun c => l78 _ ?_, fun c => ?_⟩
  · have := (nI_leI (by omega) (by omega)).mp c
    rw [if_neg (by omega)]
  · have hmn : m + 1 < n := Nat.not_le.mp (fun q => c ((nI_leI (by omega) (by omega)).mpr q))
    refine ⟨vp_in_nI (by omega) (by decide), ?_⟩
    rw [nI_clamp (by omega), ro _ _ _ (by omega) (by omega)]
    exact l78 _ (by rw [if_pos hmn])
end LK
