/-! The law: the first state, and the loop over the script. -/
theorem Inv_sg0 (a : Nat) : Inv (sg0 a) := by
  refine ⟨[], ⟨rfl, rfl, 0, by omega, rfl⟩, ⟨rfl, rfl, rfl, rfl, rfl, 0, by omega, rfl, fun m h => absurd h (by omega)⟩, ⟨rfl, 0, by omega, rfl⟩, ⟨rfl, Or.inr ⟨1, by omega, by omega, rfl, fun i h => ?_⟩⟩, ⟨rfl, 0, by omega, rfl⟩, ⟨rfl, rfl, 0, by omega, rfl, fun m h => absurd h (by omega)⟩, ⟨rfl, rfl, rfl, rfl, rfl, 0, by omega, rfl, fun m h => absurd h (by omega), fun i j _ h => absurd h (by omega)⟩, ⟨rfl, rfl, rfl, rfl, 0, by omega, rfl, fun m h => absurd h (by omega), fun i j _ h => absurd h (by omega)⟩, ⟨rfl, 0, by omega, rfl, fun m h => absurd h (by omega)⟩, rfl, ⟨0, rfl, by omega, fun i _ => rfl⟩, Or.inl rfl, ⟨fun r h => absurd h List.not_mem_nil, by decide, rfl, rfl, 0, 0, 0, 0, fun _ => [], by omega, rfl, rfl, rfl, rfl, rfl, by omega, Nat.zero_le _, ?_, by omega, by omega, fun a h => absurd h (by omega), fun i r h => by simp at h⟩, ⟨rfl, rfl, rfl⟩⟩
  · obtain rfl : i = 0 := by omega
    exact ⟨rfl, (by decide : (-100 : Int32) ≤ 1), (by decide : (1 : Int32) ≤ 100)⟩
  · show 600 ≤ 7000
    omega
set_option maxHeartbeats 2000000 in
theorem law_loop {xs : Nat → Int32} {L : Nat} (hL : L ≤ 3072) : ∀ (n i : Nat) (σ : St), Inv σ → 6 * i ≤ L → L + 6 ≤ 6 * (i + n) → wL_law_18 xs L n (nI (6 * i)) σ := by
  intro n
  induction n with
  | zero => intro i σ _ h1 h2; omega
  | succ n ih =>
    intro i σ hI h1 h2
    refine And.intro (fun _ => trivial) (fun hc => ?_)
    have h6 : 6 * i + 6 ≤ L := by
      refine Classical.byContradiction (fun h => hc ?_)
      rw [Int32.lt_iff_toInt_lt, show (6 : Int32) = nI 6 from rfl, pk_sub_toInt (by omega) (by decide), nI_toInt (by omega)]
      omega
    have v0 : vp_in (nI (6 * i)) L := vp_in_nI (by omega) (by omega)
    have v1 : vp_in (nI (6 * i) + (1 : Int32)) L := by
      rw [show (1 : Int32) = nI 1 from rfl, nI_add]; exact vp_in_nI (by omega) (by omega)
    have v2 : vp_in (nI (6 * i) + (2 : Int32)) L := by
      rw [show (2 : Int32) = nI 2 from rfl, nI_add]; exact vp_in_nI (by omega) (by omega)
    have v3 : vp_in (nI (6 * i) + (3 : Int32)) L := by
      rw [show (3 : Int32) = nI 3 from rfl, nI_add]; exact vp_in_nI (by omega) (by omega)
    have v4 : vp_in (nI (6 * i) + (4 : Int32)) L := by
      rw [show (4 : Int32) = nI 4 from rfl, nI_add]; exact vp_in_nI (by omega) (by omega)
    have v5 : vp_in (nI (6 * i) + (5 : Int32)) L := by
      rw [show (5 : Int32) = nI 5 from rfl, nI_add]; exact vp_in_nI (by omega) (by omega)
    have nx : ∀ σ2, Inv σ2 → wL_law_1005 xs L (fun x3' σ' => wL_law_18 xs L n x3' σ') (nI (6 * i)) σ2 := fun σ2 h y e => by
      show wL_law_18 xs L n y σ2
      rw [e, show (6 : Int32) = nI 6 from rfl, nI_add]
      exact ih (i + 1) σ2 h (by omega) (by omega)
    generalize nI (6 * i) = x at v0 v1 v2 v3 v4 v5 nx ⊢
    have fin : ∀ (r : Int32) (σ2 : St), Inv σ2 → ((r = r → wL_law_1005 xs L (fun x3' σ' => wL_law_18 xs L n x3' σ') x σ2) ∧ (¬ (r = r) → False)) := fun r σ2 h => ⟨fun _ => nx σ2 h, fun c => c rfl⟩
    have od : ∀ y : Int32, y = 0 ∨ y = 1 → ((xs (x + (2 : Int32)).toNatClampNeg = 0 ∧ y = 0) ∨ (¬ xs (x + (2 : Int32)).toNatClampNeg = 0 ∧ y = 1)) → wL_law_469 xs L (fun x3' σ' => wL_law_18 xs L n x3' σ') x (xs (x + (1 : Int32)).toNatClampNeg) y σ := by
      intro y hy hq
      refine And.intro v3 (both_order hI _ _ _ hy (fun r σ1 h => ⟨v1, v2, fun c => ?_, fun c => ?_⟩))
      · rcases hq with ⟨_, e⟩ | ⟨e, _⟩
        · subst e; exact And.intro v3 (h _ (fun σ2 hI2 => fin r σ2 hI2))
        · exact absurd c e
      · rcases hq with ⟨e, _⟩ | ⟨_, e⟩
        · exact absurd e c
        · subst e; exact And.intro v3 (h _ (fun σ2 hI2 => fin r σ2 hI2))
    refine ⟨v0, ?_⟩
    refine ⟨fun _ => ⟨v1, v2, v3, v4, v5, both_feed hI _ _ _ _ _ (fun r σ1 h => ⟨v1, v2, v3, v4, v5, h _ (fun σ2 hI2 => fin r σ2 hI2)⟩)⟩, fun _ => ?_⟩
    refine ⟨fun _ => ⟨v1, both_back hI _ (fun r σ1 h => ⟨v1, h _ (fun σ2 hI2 => fin r σ2 hI2)⟩)⟩, fun _ => ?_⟩
    refine ⟨fun _ => both_read hI (fun r σ1 h => h _ (fun σ2 hI2 => fin r σ2 hI2)), fun _ => ?_⟩
    refine ⟨fun _ => both_place hI (fun r σ1 h => h _ (fun σ2 hI2 => fin r σ2 hI2)), fun _ => ?_⟩
    refine ⟨fun _ => ⟨v1, v2, v3, v4, both_mill hI _ _ _ _ (fun r σ1 h => ⟨v1, v2, v3, v4, h _ (fun σ2 hI2 => fin r σ2 hI2)⟩)⟩, fun _ => ?_⟩
    refine ⟨fun _ => ⟨v1, both_spring hI _ (fun r σ1 h => ⟨v1, h _ (fun σ2 hI2 => fin r σ2 hI2)⟩)⟩, fun _ => ?_⟩
    refine ⟨fun _ => ⟨v1, both_factors hI _ (fun r σ1 h => ⟨v1, h _ (fun σ2 hI2 => fin r σ2 hI2)⟩)⟩, fun _ => ?_⟩
    refine ⟨fun _ => ⟨v1, v2, both_factor hI _ _ (fun r σ1 h => ⟨v1, v2, h _ (fun σ2 hI2 => fin r σ2 hI2)⟩)⟩, fun _ => ?_⟩
    refine ⟨fun _ => ⟨v1, both_clock hI _ (fun r σ1 h => ⟨v1, h _ (fun σ2 hI2 => fin r σ2 hI2)⟩)⟩, fun _ => ?_⟩
    refine ⟨fun _ => ⟨v1, v2, v3, both_rain hI _ _ _ (fun r σ1 h => ⟨v1, v2, v3, h _ (fun σ2 hI2 => fin r σ2 hI2)⟩)⟩, fun _ => ?_⟩
    refine ⟨fun _ => ⟨v1, v2, fun c => od 0 (Or.inl rfl) (Or.inl ⟨c, rfl⟩), fun c => od 1 (Or.inr rfl) (Or.inr ⟨c, rfl⟩)⟩, fun _ => ?_⟩
    refine ⟨fun _ => ⟨v1, v2, both_grist hI _ _ (fun r σ1 h => ⟨v1, v2, h _ (fun σ2 hI2 => fin r σ2 hI2)⟩)⟩, fun _ => ?_⟩
    refine ⟨fun _ => ⟨v1, v2, v3, v4, both_at hI _ _ _ _ (fun r σ1 h => ⟨v1, v2, v3, v4, h _ (fun σ2 hI2 => fin r σ2 hI2)⟩)⟩, fun _ => ?_⟩
    refine ⟨fun _ => ⟨v1, v2, both_sea hI _ _ (fun r σ1 h => ⟨v1, v2, h _ (fun σ2 hI2 => fin r σ2 hI2)⟩)⟩, fun _ => ?_⟩
    refine ⟨fun _ => ⟨v1, v2, v3, both_broken hI _ _ _ (fun r σ1 h => ⟨v1, v2, v3, h _ (fun σ2 hI2 => fin r σ2 hI2)⟩)⟩, fun _ => ?_⟩
    refine ⟨fun _ => ⟨v1, v2, v3, both_first hI _ _ _ (fun r σ1 h => ⟨v1, v2, v3, h _ (fun σ2 hI2 => fin r σ2 hI2)⟩)⟩, fun _ => ?_⟩
    refine ⟨fun _ => ⟨v1, v2, v3, v4, v5, both_loss hI _ _ _ _ _ (fun r σ1 h => ⟨v1, v2, v3, v4, v5, h _ (fun σ2 hI2 => fin r σ2 hI2)⟩)⟩, fun _ => ?_⟩
    refine ⟨fun _ => ⟨v1, v2, v3, v4, both_culprit hI _ _ _ _ (fun r σ1 h => ⟨v1, v2, v3, v4, h _ (fun σ2 hI2 => fin r σ2 hI2)⟩)⟩, fun _ => ?_⟩
    refine ⟨fun _ => ⟨v1, v2, v3, both_plan hI _ _ _ (fun r σ1 h => ⟨v1, v2, v3, h _ (fun σ2 hI2 => fin r σ2 hI2)⟩)⟩, fun _ => ?_⟩
    refine ⟨fun _ => ⟨v1, both_planned hI _ (fun r σ1 h => ⟨v1, h _ (fun σ2 hI2 => fin r σ2 hI2)⟩)⟩, fun _ => ?_⟩
    refine ⟨fun _ => ⟨v1, v2, v3, both_told hI _ _ _ (fun r σ1 h => ⟨v1, v2, v3, h _ (fun σ2 hI2 => fin r σ2 hI2)⟩)⟩, fun _ => ?_⟩
    refine ⟨fun _ => ⟨v1, v2, v3, both_tolls hI _ _ _ (fun r σ1 h => ⟨v1, v2, v3, h _ (fun σ2 hI2 => fin r σ2 hI2)⟩)⟩, fun _ => ?_⟩
    refine ⟨fun _ => ⟨v1, both_count hI _ (fun r σ1 h => ⟨v1, h _ (fun σ2 hI2 => fin r σ2 hI2)⟩)⟩, fun _ => ?_⟩
    exact nx σ hI
