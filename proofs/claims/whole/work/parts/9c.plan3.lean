/-! plan: both. -/
section PB2
variable {σ : St} {Z : Int32 → St → Prop}
/-- what a plan may be asked for -/
def PlA (n H : Nat) (x1 x2 x3 : Int32) : Prop := (∃ m, m < n ∧ x1 = nI m) ∧ (∃ k, 1 ≤ k ∧ k ≤ 6 ∧ H + k ≤ 240 ∧ x2 = nI k) ∧ ∃ w, w ≤ 10000 ∧ x3 = nI w
theorem plan_arg {H : Nat} (hH : H < 240) {x2 x3 : Int32} (c1 : ¬ x2 < 1) (c2 : ¬ (6 : Int32) < x2) (c3 : ¬ x3 < 0) (c4 : x3 ≤ 10000) : ∃ k w, 1 ≤ k ∧ k ≤ 6 ∧ x2 = nI k ∧ w ≤ 10000 ∧ x3 = nI w := by
  obtain ⟨k, hk, rfl⟩ := nI_of (x := x2) (fun q => c1 (by
    rw [Int32.lt_iff_toInt_lt] at q ⊢
    have h0 : (0 : Int32).toInt = 0 := by decide
    have h1 : (1 : Int32).toInt = 1 := by decide
    omega))
  obtain ⟨w, hw, rfl⟩ := nI_of c3
  have k1 : 1 ≤ k := Nat.not_lt.mp (fun q => c1 ((nI_ltI (b := 1) (by omega) (by decide)).mpr q))
  have k6 : k ≤ 6 := Nat.not_lt.mp (fun q => c2 ((nI_ltI (a := 6) (by decide) (by omega)).mpr q))
  exact ⟨k, w, k1, k6, rfl, (nI_leI (b := 10000) hw (by decide)).mp c4, rfl⟩
theorem both_plan (hI : Inv σ) (x1 x2 x3 : Int32) (hZ : ∀ r σ1, (∀ Z2 : Int32 → St → Prop, (∀ σ2, Inv σ2 → Z2 r σ2) → wX12_plan x1 x2 x3 σ1 Z2) → Z r σ1) : wX11_plan x1 x2 x3 σ Z := by
  obtain ⟨Ls, hL⟩ := Inv_iff.mp hI
  obtain ⟨n, O, F, Bn⟩ := InvB hL
  obtain ⟨hF, hn, hO⟩ := BunF Bn
  have eN := Bn.1.2.2.1
  have eNM := Bn.2.2.1.2.2.1
  obtain ⟨oc, H, hH, eH⟩ := hL.2.2.2.2.1
  have eHM : gv σ 11 51 = nI H := oc.symm.trans eH
  by_cases hb : PlA n H x1 x2 x3
  · obtain ⟨⟨m, hm, rfl⟩, ⟨k, hk1, hk6, hHk, rfl⟩, ⟨w, hw, rfl⟩⟩ := hb
    have a1 : ¬ nI k < 1 := nI_nlt (b := 1) hk1 (by omega)
    have a2 : ¬ (6 : Int32) < nI k := nI_nlt (a := 6) hk6 (by decide)
    have a3 : ¬ nI w < 0 := nI_pos (by omega)
    have a4 : nI w ≤ 10000 := nI_le (b := 10000) hw (by decide)
    have a5 : ¬ ((240 : Int32) - nI H) < nI k := by
      rw [show (240 : Int32) = nI 240 from rfl, pk_sub (by omega)]
      exact nI_nlt (by omega) (by omega)
    have a6 : ¬ (240 : Int32) < nI H + nI k := by
      rw [nI_add]
      exact nI_nlt (a := 240) hHk (by decide)
    obtain ⟨m1, m2, m3, m4, m5, n', hn', en', hmm⟩ := hL.2.1
    have en : n' = n := (nI_eq (by omega) (by omega)).mp (en'.symm.trans eN)
    subst en
    obtain ⟨c, kk, mw, g, b1, b2, b3, b4, b5, b6, b7, b8, b9, b10⟩ := hmm m hm
    refine isMillD n' (by omega) eN (fun _ _ _ => ⟨z11, fun _ => ⟨fun c => absurd c a1, fun _ => ⟨fun c => absurd c a2, fun _ => ⟨fun c => ?_, fun _ => ⟨fun c => absurd c a3, fun _ => ⟨fun _ => ?_, fun c => absurd a4 c⟩⟩⟩⟩⟩⟩) (fun g => absurd rfl (g m hm))
    · rw [eH] at c
      exact absurd c a5
    · refine planD (mw := mw) hL Bn hm hk6 hk1 eH hHk (by rw [nI_toInt (by omega)]; omega) b9 (by omega) (fun M υ ans hM hB f h34 h19 hP => ?_)
      have hX : InvX Ls υ := InvXD hL f ⟨F, h34, by rw [Bn.2.1.2.1, nI_clamp (by omega)]; exact Nat.le_refl _, h19⟩
      obtain ⟨n2, O2, F2, B2⟩ := InvXB hX
      obtain ⟨p1, p2, p3⟩ := BunF B2
      have q1 : n2 = n' := (nI_eq (by omega) (by omega)).mp (B2.1.2.2.1.symm.trans ((f.2 2 4 rfl).trans Bn.1.2.2.1))
      have q2 : O2 = O := (nI_eq (by omega) (by omega)).mp (B2.1.2.2.2.2.2.1.symm.trans ((f.2 4 4 rfl).trans Bn.1.2.2.2.2.2.1))
      have q3 : F2 = F := (nI_eq (by omega) (by omega)).mp (B2.2.1.2.1.symm.trans ((f.2 3 0 rfl).trans Bn.2.1.2.1))
      subst q1 q2 q3
      refine hZ ans υ (fun Z2 h2 => ?_)
      have eHv : gv υ 11 51 = nI H := (f.2 11 51 rfl).trans eHM
      refine isMillM n2 (by omega) B2.2.2.1.2.2.1 (fun _ _ _ => ⟨z11, fun _ => ⟨fun c => absurd c a1, fun _ => ⟨fun c => absurd c a2, fun _ => ⟨fun c => ?_, fun _ => ⟨fun c => absurd c a3, fun _ => ⟨fun _ => ?_, fun c => absurd a4 c⟩⟩⟩⟩⟩⟩) (fun g => absurd rfl (g m hm))
      · rw [eHv] at c
        exact absurd c a6
      · have e75 : gv υ 75 m = nI mw := (f.2 75 m rfl).trans ((congrFun m4 m).symm.trans b9)
        refine planM (mw := mw) (M := M) hX B2 hm hk6 hk1 eHv hHk e75 (by omega) hM (by rw [stP_pk f, cfD_pk f]; exact hB) (by rw [cfD_pk f, simD_pk f]; exact simD_wt hL Bn (Nat.le_refl _) (-1) H) (fun τ a2 fq h66 E => ?_)
        rw [stP_pk f, gdP_pk f, simD_pk f] at E
        have hPP := hL.2.2.2.2.2.2.2.2.1
        have t1 : gv τ 10 1 = gv υ 10 1 := fq.2 10 1 rfl
        have t2 : gr τ 44 = gr υ 44 := fq.gr (fun _ => rfl)
        have key : a2 = ans ∧ IvP (gv τ 10 1) (gv τ 11 75) (gr τ 44) (gr τ 95) := by
          rw [t1, t2]
          generalize (plE (stP σ Ls O2 F2 m) (gdP σ Ls n2) m mw (nI w) k 0 H (simD σ Ls O2 F2 (-1) H) 0 0 (fun _ => 0) none).2 = RES at hP E
          cases RES with
          | none =>
            obtain ⟨s1, s2, s3⟩ := hP
            obtain ⟨u1, u2, u3⟩ := E
            refine ⟨u1.trans s1.symm, ?_⟩
            rw [s2, s3, u2, u3, f.2 11 75 rfl, f.gr (k := 95) (fun _ => rfl)]
            exact hPP
          | some b =>
            obtain ⟨s1, s2, s3⟩ := hP
            obtain ⟨u1, _, _, u2, u3⟩ := E
            refine ⟨u1.trans s1.symm, ?_⟩
            rw [s2, u2]
            exact ⟨rfl, k, hk6, rfl, fun i hi => (s3 i hi).trans (u3 i hi).symm⟩
        rw [key.1]
        exact h2 _ (Inv_iff.mpr ⟨Ls, InvXM hX fq h66 key.2⟩)
  · have hz : Z (-2) σ := hZ _ _ (fun Z2 h2 => by
      have hz := h2 _ hI
      refine isMillM n (by omega) eNM (fun m hm e1 => ⟨z11, fun _ => ⟨fun _ => hz, fun c1 => ⟨fun _ => hz, fun c2 => ⟨fun _ => hz, fun c3 => ⟨fun _ => hz, fun c4 => ⟨fun c5 => ?_, fun _ => hz⟩⟩⟩⟩⟩⟩) (fun _ => ⟨fun _ => hz, fun c => absurd rfl c⟩)
      exfalso
      obtain ⟨k, w, k1, k6, rfl, hw, rfl⟩ := plan_arg hH c1 c2 c4 c5
      rw [eHM, nI_add] at c3
      exact hb ⟨⟨m, hm, e1⟩, ⟨k, k1, k6, Nat.not_lt.mp (fun q => c3 ((nI_ltI (a := 240) (by decide) (by omega)).mpr q)), rfl⟩, ⟨w, hw, rfl⟩⟩)
    refine isMillD n (by omega) eN (fun m hm e1 => ⟨z11, fun _ => ⟨fun _ => hz, fun c1 => ⟨fun _ => hz, fun c2 => ⟨fun _ => hz, fun c3 => ⟨fun _ => hz, fun c4 => ⟨fun c5 => ?_, fun _ => hz⟩⟩⟩⟩⟩⟩) (fun _ => ⟨fun _ => hz, fun c => absurd rfl c⟩)
    exfalso
    obtain ⟨k, w, k1, k6, rfl, hw, rfl⟩ := plan_arg hH c1 c2 c4 c5
    rw [eH, show (240 : Int32) = nI 240 from rfl, pk_sub (by omega)] at c3
    have := Nat.not_lt.mp (fun q => c3 ((nI_ltI (by omega) (by omega)).mpr q))
    exact hb ⟨⟨m, hm, e1⟩, ⟨k, k1, k6, by omega, rfl⟩, ⟨w, hw, rfl⟩⟩
end PB2
