/-! at. -/
theorem cfD_fm {σ τ : St} {Ls : List Ru} (f : Fm xG σ τ) : cfD τ Ls = cfD σ Ls := by
  unfold cfD
  rw [f.2 2 4 rfl, f.gr (k := 12) (fun _ => rfl), f.gr (k := 13) (fun _ => rfl), f.gr (k := 15) (fun _ => rfl), f.2 2 5 rfl, f.2 2 6 rfl, f.gr (k := 16) (fun _ => rfl)]
theorem simD_fm {σ τ : St} {Ls : List Ru} {O nn : Nat} {w : Int32} (f : Fm xG σ τ) : simD τ Ls O nn w = simD σ Ls O nn w := by
  unfold simD
  rw [cfD_fm f, f.gr (k := 17) (fun _ => rfl), f.gr (k := 18) (fun _ => rfl), f.gr (k := 20) (fun _ => rfl), f.gr (k := 21) (fun _ => rfl), f.gr (k := 22) (fun _ => rfl), f.gr (k := 23) (fun _ => rfl)]
theorem BunE {σ τ : St} {Ls : List Ru} {n O F : Nat} (Bn : Bun σ Ls n O F) (hI : InvL Ls τ) (f : Fm xG σ τ) : Bun τ Ls n O F := by
  obtain ⟨n', O', F', B'⟩ := InvB hI
  obtain ⟨q1, q2, q3⟩ := BunF Bn
  obtain ⟨p1, p2, p3⟩ := BunF B'
  have e1 : n' = n := (nI_eq (by omega) (by omega)).mp (B'.1.2.2.1.symm.trans ((f.2 2 4 rfl).trans Bn.1.2.2.1))
  have e2 : O' = O := (nI_eq (by omega) (by omega)).mp (B'.1.2.2.2.2.2.1.symm.trans ((f.2 4 4 rfl).trans Bn.1.2.2.2.2.2.1))
  have e3 : F' = F := (nI_eq (by omega) (by omega)).mp (B'.2.1.2.1.symm.trans ((f.2 3 0 rfl).trans Bn.2.1.2.1))
  rw [e1, e2, e3] at B'
  exact B'
theorem sim_M {σ τ : St} {Ls : List Ru} {n O F nn : Nat} {w : Int32} (Bn : Bun τ Ls n O F) (f : Fm xG σ τ) : simM τ Ls O nn w (gr τ 17) (gr τ 18) = simD σ Ls O nn w := by
  obtain ⟨B1, B2, B3, B4, B5, B6, B7, B8, B9⟩ := Bn
  rw [sim_MD B4 B5 B6 B7 B8, simD_fm f]
theorem RnD.inv {σ τ : St} {Ls : List Ru} {n O F nn k t : Nat} {w : Int32} (hI : InvL Ls σ) (Bn : Bun σ Ls n O F) (hnn : nn ≤ F) (h : RnD σ Ls n O nn w τ k t) (h34 : gv τ 3 4 = nI nn) : InvL Ls τ := InvR hI Bn hnn h.1 h.2.1 h34
section AT
variable {σ : St} {Z : Int32 → St → Prop}
theorem both_at (hI : Inv σ) (x1 x2 x3 x4 : Int32) (hZ : ∀ r σ1, (∀ Z2 : Int32 → St → Prop, (∀ σ2, Inv σ2 → Z2 r σ2) → wX12_at_ x1 x2 x3 x4 σ1 Z2) → Z r σ1) : wX11_at x1 x2 x3 x4 σ Z := by
  obtain ⟨Ls, hL⟩ := Inv_iff.mp hI
  obtain ⟨n, O, F, Bn⟩ := InvB hL
  obtain ⟨hF, hn, hO⟩ := BunF Bn
  have eN := Bn.1.2.2.1
  have eF := Bn.2.1.2.1
  have eNM := Bn.2.2.1.2.2.1
  have eFM := Bn.2.2.2.2.2.2.2.2.1
  by_cases hb : (∃ h, h < 240 ∧ x1 = nI h) ∧ (∃ m, m < n ∧ x2 = nI m) ∧ (∃ k, k ≤ F ∧ x3 = nI k) ∧ ∃ i, i < 10 ∧ x4 = nI i
  · obtain ⟨⟨h, hh, rfl⟩, ⟨m, hm, rfl⟩, ⟨nn, hnn, rfl⟩, ⟨i, hi, rfl⟩⟩ := hb
    have d1 : ∀ (τ : St) (Q : Int32 → St → Prop), gv τ 2 4 = nI n → Q 1 τ → wX11_isMill (nI m) τ Q := fun τ Q e q => isMillD n (by omega) e (fun _ _ _ => q) (fun g => absurd rfl (g m hm))
    refine hourD (fun _ _ _ => ⟨z11, fun _ => d1 _ _ eN ⟨z11, fun _ => knD hF eF (fun _ _ _ => ⟨z11, fun _ => ⟨fun c => absurd c (nI_pos (by omega)), fun _ => ⟨fun _ => ?_, fun c => absurd (nI_lt hi (by decide)) c⟩⟩⟩) (fun g => absurd rfl (g nn hnn))⟩⟩) (fun g => absurd rfl (g h hh))
    refine beginQ Bn stg_100 hnn (fun τ1 r1 k1 => ?_)
    rw [show nI h = nI (h + 1) - 1 from (nI_pred h).symm]
    refine runR Bn.1 stg_100 (by omega) (Nat.zero_le _) r1 (fun τ2 r2 f2 => ?_)
    have h34 : gv τ2 3 4 = nI nn := (f2.2 3 4 (xS_34 stg_100)).trans k1
    have hI2 := RnD.inv hL Bn hnn r2 h34
    have hv : gv τ2 (100 + (3 + (nI i).toNatClampNeg)) (nI m).toNatClampNeg = simD σ Ls O nn (-1) (h + 1) i m := by
      rw [nI_clamp (by omega), nI_clamp (by omega), ← Nat.add_assoc]
      exact r2.2.2.2.2.2.1 i m hi hm
    refine ⟨vp_in_nI hi (by decide), vp_in_nI (by omega) (by decide), ?_⟩
    rw [hv]
    refine hZ _ _ (fun Z2 h2 => ?_)
    have B2 := BunE Bn hI2 r2.1
    refine isMillM n (by omega) B2.2.2.1.2.2.1 (fun _ _ _ => ⟨z11, fun _ => ⟨fun c => absurd c (nI_pos (by omega)), fun _ => ⟨fun c => absurd c (nI_ge hh (by decide)), fun _ => knM hF B2.2.2.2.2.2.2.2.2.1 (fun _ _ _ => ⟨z11, fun _ => ⟨fun c => absurd c (nI_pos (by omega)), fun _ => ⟨fun _ => ?_, fun c => absurd (nI_le (show i ≤ 9 by omega) (by decide)) c⟩⟩⟩) (fun g => absurd rfl (g nn hnn))⟩⟩⟩) (fun g => absurd rfl (g m hm))
    refine worksQ B2 hnn (fun τ3 f3 n3 => ?_)
    have eix : (10 : Int32) * ((7 : Int32) * nI h + nI m) + nI i = nI (10 * (7 * h + m) + i) := by rw [ixN, nI_add]
    rw [eix, nI_clamp (by omega), n3.2.2.1 h m i hh hm hi, sim_M B2 r2.1]
    exact ⟨vp_in_nI (by omega) (by decide), h2 _ (Inv_iff.mpr ⟨Ls, InvW hI2 B2 hnn f3 n3⟩)⟩
  · have hz : Z (-1000000) σ := hZ _ _ (fun Z2 h2 => by
      have hz := h2 _ hI
      refine isMillM n (by omega) eNM (fun m hm e2 => ⟨z11, fun _ => ⟨fun _ => hz, fun c1 => ⟨fun _ => hz, fun c2 => knM hF eFM (fun nn hnn e3 => ⟨z11, fun _ => ⟨fun _ => hz, fun c3 => ⟨fun c4 => ?_, fun _ => hz⟩⟩⟩) (fun _ => ⟨fun _ => hz, fun c => absurd rfl c⟩)⟩⟩⟩) (fun _ => ⟨fun _ => hz, fun c => absurd rfl c⟩)
      exfalso
      obtain ⟨h, hh, e1⟩ := nI_of c1
      obtain ⟨i, hi, e4⟩ := nI_of2 (M := 9) (n := 9) (by decide) c3 c4
      refine hb ⟨⟨h, Nat.not_le.mp (fun q => c2 ?_), e1⟩, ⟨m, hm, e2⟩, ⟨nn, hnn, e3⟩, ⟨i, by omega, e4⟩⟩
      rw [e1]
      exact nI_le (a := 240) q hh)
    refine hourD (fun h hh e1 => ⟨z11, fun _ => isMillD n (by omega) eN (fun m hm e2 => ⟨z11, fun _ => knD hF eF (fun nn hnn e3 => ⟨z11, fun _ => ⟨fun _ => hz, fun c3 => ⟨fun c4 => ?_, fun _ => hz⟩⟩⟩) (fun _ => ⟨fun _ => hz, fun c => absurd rfl c⟩)⟩) (fun _ => ⟨fun _ => hz, fun c => absurd rfl c⟩)⟩) (fun _ => ⟨fun _ => hz, fun c => absurd rfl c⟩)
    exfalso
    obtain ⟨i, hi, e4⟩ := nI_of c3
    exact hb ⟨⟨h, hh, e1⟩, ⟨m, hm, e2⟩, ⟨nn, hnn, e3⟩, ⟨i, (nI_ltI (b := 10) hi (by decide)).mp (by rw [← e4]; exact c4), e4⟩⟩
end AT
