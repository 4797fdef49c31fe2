/-! plan: what is held while one side has planned. -/
/-- what is held but for the plans -/
def InvX (Ls : List Ru) (σ : St) : Prop :=
  IvT (gv σ 6 0) (gv σ 11 2) (gr σ 24) (gr σ 48) ∧
  IvM (gv σ 2 4) (gv σ 11 43) (gr σ 12) (gr σ 13) (gr σ 14) (gr σ 15) (gr σ 73) (gr σ 74) (gr σ 75) (gr σ 76) ∧
  IvS (gv σ 2 5) (gv σ 11 48) ∧
  IvF (gv σ 2 6) (gv σ 11 49) (gr σ 16) (gr σ 77) ∧
  IvC (gv σ 0 5) (gv σ 11 51) ∧
  IvR (gv σ 3 0) (gv σ 11 52) (gv σ 2 4) (gr σ 17) (gr σ 18) (gr σ 78) (gr σ 79) (gr σ 80) ∧
  IvO (gv σ 4 4) (gv σ 11 56) (gv σ 2 4) (gv σ 0 5) (gr σ 14) (gr σ 15) (gr σ 20) (gr σ 21) (gr σ 22) (gr σ 23) (gr σ 81) (gr σ 82) (gr σ 83) (gr σ 84) ∧
  IvG (gv σ 9 5) (gv σ 11 61) (gv σ 2 4) (gv σ 0 5) (gr σ 39) (gr σ 40) (gr σ 41) (gr σ 85) (gr σ 86) (gr σ 87) ∧
  True ∧
  gv σ 5 2 = gv σ 11 17 ∧
  IvK (gv σ 3 4) (gv σ 3 0) (gr σ 17) (gr σ 18) (gr σ 19) ∧
  IvN Ls (gv σ 11 66) (gv σ 11 67) (gv σ 3 0) (gv σ 2 4) (gv σ 2 5) (gv σ 2 6) (gv σ 4 4) (gr σ 12) (gr σ 13) (gr σ 15) (gr σ 16) (gr σ 17) (gr σ 18) (gr σ 20) (gr σ 21) (gr σ 22) (gr σ 23) (gr σ 88) (gr σ 89) (gr σ 90) ∧
  IvL Ls (gv σ 8 0) (gv σ 8 1) (gv σ 8 15) (gv σ 11 18) (gv σ 11 23) (gv σ 11 32) (gv σ 11 38) (gn σ) (gr σ 27) (gr σ 28) (gr σ 29) (gr σ 30) (gr σ 31) (gr σ 32) (gr σ 34) (gr σ 35) (gr σ 36) (gr σ 56) (gr σ 57) (gr σ 58) (gr σ 59) (gr σ 60) (gr σ 61) (gr σ 62) (gr σ 63) (gr σ 64) (gr σ 65) (gr σ 66) (gr σ 67) (gr σ 68) (gr σ 69) (gr σ 70) (gr σ 71) (gw σ 33) (gw σ 55) ∧
  IvW (gw σ 54) (gv σ 96 0) (gv σ 97 0)
def xPk (a j : Nat) : Bool := xPl a j || a == 44 || (a == 10 && j == 1)
section IX
variable {σ τ : St} {Ls : List Ru}
theorem InvXD (hI : InvL Ls σ) (f : Fm xPk σ τ) (hK : IvK (gv τ 3 4) (gv σ 3 0) (gr σ 17) (gr σ 18) (gr τ 19)) : InvX Ls τ := by
  obtain ⟨hT, hM, hS, hF, hC, hR, hO, hG, hP, hp, -, hN, hL, hk⟩ := hI
  unfold InvX
  rw [f.2 6 0 rfl, f.2 11 2 rfl, f.gr (k := 24) (fun _ => rfl), f.gr (k := 48) (fun _ => rfl), f.2 2 4 rfl, f.2 11 43 rfl, f.gr (k := 12) (fun _ => rfl), f.gr (k := 13) (fun _ => rfl), f.gr (k := 14) (fun _ => rfl), f.gr (k := 15) (fun _ => rfl), f.gr (k := 73) (fun _ => rfl), f.gr (k := 74) (fun _ => rfl), f.gr (k := 75) (fun _ => rfl), f.gr (k := 76) (fun _ => rfl), f.2 2 5 rfl, f.2 11 48 rfl, f.2 2 6 rfl, f.2 11 49 rfl, f.gr (k := 16) (fun _ => rfl), f.gr (k := 77) (fun _ => rfl), f.2 0 5 rfl, f.2 11 51 rfl, f.2 3 0 rfl, f.2 11 52 rfl, f.gr (k := 17) (fun _ => rfl), f.gr (k := 18) (fun _ => rfl), f.gr (k := 78) (fun _ => rfl), f.gr (k := 79) (fun _ => rfl), f.gr (k := 80) (fun _ => rfl), f.2 4 4 rfl, f.2 11 56 rfl, f.gr (k := 20) (fun _ => rfl), f.gr (k := 21) (fun _ => rfl), f.gr (k := 22) (fun _ => rfl), f.gr (k := 23) (fun _ => rfl), f.gr (k := 81) (fun _ => rfl), f.gr (k := 82) (fun _ => rfl), f.gr (k := 83) (fun _ => rfl), f.gr (k := 84) (fun _ => rfl), f.2 9 5 rfl, f.2 11 61 rfl, f.gr (k := 39) (fun _ => rfl), f.gr (k := 40) (fun _ => rfl), f.gr (k := 41) (fun _ => rfl), f.gr (k := 85) (fun _ => rfl), f.gr (k := 86) (fun _ => rfl), f.gr (k := 87) (fun _ => rfl), f.2 5 2 rfl, f.2 11 17 rfl, f.2 11 66 rfl, f.2 11 67 rfl, f.gr (k := 88) (fun _ => rfl), f.gr (k := 89) (fun _ => rfl), f.gr (k := 90) (fun _ => rfl), f.2 8 0 rfl, f.2 8 1 rfl, f.2 8 15 rfl, f.2 11 18 rfl, f.2 11 23 rfl, f.2 11 32 rfl, f.2 11 38 rfl, f.gn, f.gr (k := 27) (fun _ => rfl), f.gr (k := 28) (fun _ => rfl), f.gr (k := 29) (fun _ => rfl), f.gr (k := 30) (fun _ => rfl), f.gr (k := 31) (fun _ => rfl), f.gr (k := 32) (fun _ => rfl), f.gr (k := 34) (fun _ => rfl), f.gr (k := 35) (fun _ => rfl), f.gr (k := 36) (fun _ => rfl), f.gr (k := 56) (fun _ => rfl), f.gr (k := 57) (fun _ => rfl), f.gr (k := 58) (fun _ => rfl), f.gr (k := 59) (fun _ => rfl), f.gr (k := 60) (fun _ => rfl), f.gr (k := 61) (fun _ => rfl), f.gr (k := 62) (fun _ => rfl), f.gr (k := 63) (fun _ => rfl), f.gr (k := 64) (fun _ => rfl), f.gr (k := 65) (fun _ => rfl), f.gr (k := 66) (fun _ => rfl), f.gr (k := 67) (fun _ => rfl), f.gr (k := 68) (fun _ => rfl), f.gr (k := 69) (fun _ => rfl), f.gr (k := 70) (fun _ => rfl), f.gr (k := 71) (fun _ => rfl), f.gw (k := 33), f.gw (k := 55), f.gw (k := 54), f.2 96 0 rfl, f.2 97 0 rfl]
  exact ⟨hT, hM, hS, hF, hC, hR, hO, hG, trivial, hp, hK, hN, hL, hk⟩
theorem InvXM (hI : InvX Ls σ) (f : Fm xQ σ τ) (h66 : gv τ 11 66 = -1) (hP : IvP (gv τ 10 1) (gv τ 11 75) (gr τ 44) (gr τ 95)) : InvL Ls τ := by
  obtain ⟨hT, hM, hS, hF, hC, hR, hO, hG, -, hp, hK, -, hL, hk⟩ := hI
  unfold InvL
  rw [f.2 6 0 rfl, f.2 11 2 rfl, f.gr (k := 24) (fun _ => rfl), f.gr (k := 48) (fun _ => rfl), f.2 2 4 rfl, f.2 11 43 rfl, f.gr (k := 12) (fun _ => rfl), f.gr (k := 13) (fun _ => rfl), f.gr (k := 14) (fun _ => rfl), f.gr (k := 15) (fun _ => rfl), f.gr (k := 73) (fun _ => rfl), f.gr (k := 74) (fun _ => rfl), f.gr (k := 75) (fun _ => rfl), f.gr (k := 76) (fun _ => rfl), f.2 2 5 rfl, f.2 11 48 rfl, f.2 2 6 rfl, f.2 11 49 rfl, f.gr (k := 16) (fun _ => rfl), f.gr (k := 77) (fun _ => rfl), f.2 0 5 rfl, f.2 11 51 rfl, f.2 3 0 rfl, f.2 11 52 rfl, f.gr (k := 17) (fun _ => rfl), f.gr (k := 18) (fun _ => rfl), f.gr (k := 78) (fun _ => rfl), f.gr (k := 79) (fun _ => rfl), f.gr (k := 80) (fun _ => rfl), f.2 4 4 rfl, f.2 11 56 rfl, f.gr (k := 20) (fun _ => rfl), f.gr (k := 21) (fun _ => rfl), f.gr (k := 22) (fun _ => rfl), f.gr (k := 23) (fun _ => rfl), f.gr (k := 81) (fun _ => rfl), f.gr (k := 82) (fun _ => rfl), f.gr (k := 83) (fun _ => rfl), f.gr (k := 84) (fun _ => rfl), f.2 9 5 rfl, f.2 11 61 rfl, f.gr (k := 39) (fun _ => rfl), f.gr (k := 40) (fun _ => rfl), f.gr (k := 41) (fun _ => rfl), f.gr (k := 85) (fun _ => rfl), f.gr (k := 86) (fun _ => rfl), f.gr (k := 87) (fun _ => rfl), f.2 5 2 rfl, f.2 11 17 rfl, f.2 3 4 rfl, f.gr (k := 19) (fun _ => rfl), f.2 8 0 rfl, f.2 8 1 rfl, f.2 8 15 rfl, f.2 11 18 rfl, f.2 11 23 rfl, f.2 11 32 rfl, f.2 11 38 rfl, f.gn, f.gr (k := 27) (fun _ => rfl), f.gr (k := 28) (fun _ => rfl), f.gr (k := 29) (fun _ => rfl), f.gr (k := 30) (fun _ => rfl), f.gr (k := 31) (fun _ => rfl), f.gr (k := 32) (fun _ => rfl), f.gr (k := 34) (fun _ => rfl), f.gr (k := 35) (fun _ => rfl), f.gr (k := 36) (fun _ => rfl), f.gr (k := 56) (fun _ => rfl), f.gr (k := 57) (fun _ => rfl), f.gr (k := 58) (fun _ => rfl), f.gr (k := 59) (fun _ => rfl), f.gr (k := 60) (fun _ => rfl), f.gr (k := 61) (fun _ => rfl), f.gr (k := 62) (fun _ => rfl), f.gr (k := 63) (fun _ => rfl), f.gr (k := 64) (fun _ => rfl), f.gr (k := 65) (fun _ => rfl), f.gr (k := 66) (fun _ => rfl), f.gr (k := 67) (fun _ => rfl), f.gr (k := 68) (fun _ => rfl), f.gr (k := 69) (fun _ => rfl), f.gr (k := 70) (fun _ => rfl), f.gr (k := 71) (fun _ => rfl), f.gw (k := 33), f.gw (k := 55), f.gw (k := 54), f.2 96 0 rfl, f.2 97 0 rfl]
  exact ⟨hT, hM, hS, hF, hC, hR, hO, hG, hP, hp, hK, Or.inl h66, hL, hk⟩
end IX
theorem InvXB {σ : St} {Ls : List Ru} (hI : InvX Ls σ) : ∃ n O F, Bun σ Ls n O F := by
  obtain ⟨hT, hM, hS, hF, hC, hR, hO, hG, hP, hp, hK, hN, hL, hk⟩ := hI
  obtain ⟨m1, m2, m3, m4, m5, n, hn, en, hm⟩ := hM
  obtain ⟨o1, o2, o3, o4, o5, O, hO2, eO, o6, o7⟩ := hO
  obtain ⟨r1, r2, F, hF4, eF, r3⟩ := hR
  obtain ⟨hLD, hLM⟩ := IvL_D hL
  have hclN : (gv σ 2 4).toNatClampNeg = n := by rw [en]; exact nI_clamp (by omega)
  have hclO : (gv σ 4 4).toNatClampNeg = O := by rw [eO]; exact nI_clamp (by omega)
  have hFk : FcOk (gv σ 2 6) := by
    rcases hF.2 with q | ⟨k, q1, q2, q3, _⟩
    · exact Or.inl q
    · exact Or.inr ⟨k, q1, q2, q3⟩
  have ecf : cfM σ Ls = cfD σ Ls := by
    unfold cfM cfD
    rw [← m1, ← m2, ← m3, ← m5, ← hS.1, ← hF.1]
    have : fcW (gv σ 2 6) (gr σ 77) = fcW (gv σ 2 6) (gr σ 16) := fcW_congr (by
      rcases hF.2 with q | ⟨k, q1, q2, q3, q4⟩
      · exact Or.inl q
      · exact Or.inr ⟨k, q1, q2, q3, fun i hi => (q4 i hi).1.symm⟩)
    rw [this]
  have hmi : ∀ j, j < O → ∃ m, m < 7 ∧ gv σ 21 j = nI m := fun j hj => by
    obtain ⟨h, m, v, q1, q2, q3, q4, q5, q6⟩ := o6 j hj
    exact ⟨m, by omega, q5⟩
  have hob : ∀ j, j < O → ∃ m x, m < 7 ∧ x ≤ 9 ∧ gr σ 21 j = nI m ∧ gr σ 23 j = nI x ∧ gr σ 23 j ≤ (if gr σ 22 j = 0 then gr σ 14 m else gr σ 15 m) := fun j hj => by
    obtain ⟨h, m, v, q1, q2, q3, q4, q5, q6, q7, q8⟩ := o6 j hj
    exact ⟨m, v, by omega, q3, q5, q7, q8⟩
  have hbd : ∀ w g m, g ≤ O → m < n → (∃ x, x ≤ 9 ∧ hdO (gr σ 21) (gr σ 22) (gr σ 23) w g m = nI x ∧ hdO (gr σ 21) (gr σ 22) (gr σ 23) w g m ≤ gr σ 14 m) ∧ ∃ x, x ≤ 9 ∧ hdO (gr σ 21) (gr σ 22) (gr σ 23) w g (m + 7) = nI x ∧ hdO (gr σ 21) (gr σ 22) (gr σ 23) w g (m + 7) ≤ gr σ 15 m := fun w g m hg hmn => by
    obtain ⟨c, k, ww, gg, b1, b2, b3, b4, b5, b6, b7, b8, b9, b10⟩ := hm m hmn
    exact hdO_bd hob g m hg (by omega) (by rw [b9]; exact nI_nn (by omega)) (by rw [b10]; exact nI_nn (by omega))
  have hfx : ∀ j, j < F → ∃ h m, 7 * h + m < 1680 ∧ h < 240 ∧ m < 7 ∧ gv σ 78 j = nI h ∧ gv σ 79 j = nI m ∧ gr σ 17 j = nI (7 * h + m) ∧ gv σ 80 j = gr σ 18 j := fun j hj => by
    obtain ⟨h, m, v, q1, q2, q3, q4, q5, q6, q7⟩ := r3 j hj
    exact ⟨h, m, by omega, q1, by omega, q4, q5, q6, by rw [r2]; rfl⟩
  refine ⟨n, O, F, ⟨hLD, hn, en, hFk, hO2, eO, hmi⟩, ⟨hF4, eF, fun j hj => ?_, hK⟩, ⟨hLM, hn, m1.symm.trans en, by rw [← hF.1]; exact hFk, fun m hmn => ?_, fun m hmn => ?_, hO2, o1.symm.trans eO, fun j hj => ?_, fun w g m hg hmn => ?_, fun w g m hg hmn => ?_⟩, ecf, o2.symm, o3.symm, o4.symm, o5.symm, r1.symm.trans eF, hfx, fun N w hNF e1 e2 => ?_⟩
  · obtain ⟨h, m, q1, _, _, _, _, q2, _⟩ := hfx j hj
    exact ⟨7 * h + m, q1, q2⟩
  · obtain ⟨c, k, ww, gg, b1, b2, b3, b4, b5, b6, b7, b8, b9, b10⟩ := hm m hmn
    exact ⟨c, b2, by rw [gv_gr, ← m2]; exact b7⟩
  · obtain ⟨c, k, ww, gg, b1, b2, b3, b4, b5, b6, b7, b8, b9, b10⟩ := hm m hmn
    exact ⟨gg, b6, by rw [gv_gr, ← m5]; exact b10⟩
  · obtain ⟨m, q1, q2⟩ := hmi j hj
    exact ⟨m, q1, by rw [gv_gr, ← o3]; exact q2⟩
  · rw [← o3, ← o4, ← o5]
    obtain ⟨⟨x, q1, q2, q3⟩, -⟩ := hbd w g m hg hmn
    obtain ⟨c, k, ww, gg, b1, b2, b3, b4, b5, b6, b7, b8, b9, b10⟩ := hm m hmn
    rw [q2, b9] at q3
    have := (nI_leI (by omega) (by omega)).mp q3
    exact ⟨x, by omega, q2⟩
  · rw [← o3, ← o4, ← o5]
    obtain ⟨-, x, q1, q2, q3⟩ := hbd w g m hg hmn
    exact ⟨x, q1, q2, by rw [gv_gr, ← m5]; exact q3⟩
  · rcases hN with q | ⟨N', q1, q2, q3, q4, q5⟩
    · rw [q] at e1
      exact absurd e1.symm (nI_neg1 (by omega))
    · rw [eF, nI_clamp (by omega)] at q2
      have hNN : N' = N := by
        rw [q1] at e1
        exact (nI_eq (by omega) (by omega)).mp e1
      subst hNN
      rw [e2, hclO] at q5
      rw [e2] at q3
      refine ⟨e1, e2, fun h m i h1 h2 h3 => ?_, q4, ?_⟩
      · rw [sim_MD ecf o2.symm o3.symm o4.symm o5.symm]
        have := q3 h m i h1 (by rw [hclN]; exact h2) h3
        unfold simO at this
        rw [hclO] at this
        exact this
      · rw [← o2, ← o3, ← o4, ← o5]
        exact q5
