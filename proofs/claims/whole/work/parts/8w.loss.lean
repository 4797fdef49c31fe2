/-! loss. -/
/-- the work of d hours from hour a on -/
def wkS (S : Nat → Rw) (m a : Nat) : Nat → Int32
  | 0 => 0
  | d + 1 => wkS S m a d + S (a + d + 1) 6 m
theorem wkT_S (S : Nat → Rw) (m a : Nat) : ∀ b, wkT S m a 0 b = wkS S m a (b - a)
  | 0 => by rw [Nat.zero_sub]; rfl
  | b + 1 => by
    rw [wkT, wkT_S S m a b, Nat.zero_add]
    by_cases h : a ≤ b
    · rw [if_pos h, show b + 1 - a = (b - a) + 1 by omega, wkS, show a + (b - a) = b by omega]
    · rw [if_neg h, show b + 1 - a = 0 by omega, show b - a = 0 by omega, Int32.add_zero]
theorem BunR {σ τ : St} {Ls : List Ru} {n O F : Nat} (Bn : Bun σ Ls n O F) (hI : InvL Ls τ) (f : Fm xR σ τ) : Bun τ Ls n O F := by
  obtain ⟨n', O', F', B'⟩ := InvB hI
  obtain ⟨q1, q2, q3⟩ := BunF Bn
  obtain ⟨p1, p2, p3⟩ := BunF B'
  have e1 : n' = n := (nI_eq (by omega) (by omega)).mp (B'.1.2.2.1.symm.trans ((f.2 2 4 rfl).trans Bn.1.2.2.1))
  have e2 : O' = O := (nI_eq (by omega) (by omega)).mp (B'.1.2.2.2.2.2.1.symm.trans ((f.2 4 4 rfl).trans Bn.1.2.2.2.2.2.1))
  have e3 : F' = F := (nI_eq (by omega) (by omega)).mp (B'.2.1.2.1.symm.trans ((f.2 3 0 rfl).trans Bn.2.1.2.1))
  rw [e1, e2, e3] at B'
  exact B'
theorem cfD_R {σ τ : St} {Ls : List Ru} (f : Fm xR σ τ) : cfD τ Ls = cfD σ Ls := by
  unfold cfD
  rw [f.2 2 4 rfl, f.gr (k := 12) (fun _ => rfl), f.gr (k := 13) (fun _ => rfl), f.gr (k := 15) (fun _ => rfl), f.2 2 5 rfl, f.2 2 6 rfl, f.gr (k := 16) (fun _ => rfl)]
theorem simD_R {σ τ : St} {Ls : List Ru} {O nn : Nat} {w : Int32} (f : Fm xR σ τ) : simD τ Ls O nn w = simD σ Ls O nn w := by
  unfold simD
  rw [cfD_R f, f.gr (k := 17) (fun _ => rfl), f.gr (k := 18) (fun _ => rfl), f.gr (k := 20) (fun _ => rfl), f.gr (k := 21) (fun _ => rfl), f.gr (k := 22) (fun _ => rfl), f.gr (k := 23) (fun _ => rfl)]
theorem sim_D {σ : St} {Ls : List Ru} {n O F nn : Nat} {w : Int32} (Bn : Bun σ Ls n O F) : simM σ Ls O nn w (gr σ 17) (gr σ 18) = simD σ Ls O nn w := by
  obtain ⟨B1, B2, B3, B4, B5, B6, B7, B8, B9⟩ := Bn
  exact sim_MD B4 B5 B6 B7 B8
section LO
variable {σ : St} {Ls : List Ru} {n O F nn : Nat}
theorem wkM_loop {Q : Int32 → St → Prop} {a b m : Nat} (hb : b ≤ 240) (ha : a ≤ 240) (hm : m < 7) {τ : St} {S : Nat → Rw} (hr : ∀ h, h < 240 → gv τ 88 (10 * (7 * h + m) + 6) = S (h + 1) 6 m) (hQ : Q (wkS S m a (b - a)) τ) : ∀ (d e : Nat), e + d = b - a → wX12_workOf_14 Q (d + 1) (nI m) (nI b) (wkS S m a e) (nI (a + e)) τ := by
  intro d
  induction d with
  | zero =>
    intro e he
    have e1 : e = b - a := by omega
    refine ⟨fun _ => ?_, fun c => absurd (nI_le (by omega) (by omega)) c⟩
    rw [e1]
    exact hQ
  | succ d ih =>
    intro e he
    have eix : (10 : Int32) * ((7 : Int32) * nI (a + e) + nI m) + 6 = nI (10 * (7 * (a + e) + m) + 6) := by rw [ixN, show (6 : Int32) = nI 6 from rfl, nI_add]
    rw [wX12_workOf_14, eix, nI_clamp (by omega), hr (a + e) (by omega)]
    refine ⟨fun c => absurd c (nI_ge (by omega) (by omega)), fun _ => ⟨vp_in_nI (by omega) (by decide), ?_⟩⟩
    rintro x6 rfl x7 rfl
    rw [nI_1]
    exact ih (e + 1) (by omega)
/-- the reference's work of a mill over a span -/
theorem workM {Q : Int32 → St → Prop} {a b m : Nat} {w : Int32} (Bn : Bun σ Ls n O F) (hI : InvL Ls σ) (hnn : nn ≤ F) (ha : a ≤ 240) (hb : b ≤ 240) (hm : m < n) (hQ : ∀ τ, Fm xR σ τ → InvL Ls τ → Bun τ Ls n O F → Q (wkS (simD σ Ls O nn w) m a (b - a)) τ) : wX12_workOf (nI m) (nI a) (nI b) (nI nn) w σ Q := by
  obtain ⟨hF, hn, hO⟩ := BunF Bn
  refine worksQ Bn hnn (fun τ f nw => ?_)
  have hI2 := InvW hI Bn hnn f nw
  exact ⟨b - a + 1, wkM_loop (S := simD σ Ls O nn w) hb ha (by omega) (fun h hh => by rw [nw.2.2.1 h m 6 hh hm (by decide), sim_D Bn]) (hQ τ f hI2 (BunR Bn hI2 f)) (b - a) 0 (by omega)⟩
theorem RnD.oth {σ0 σ τ : St} {k k' t : Nat} {w : Int32} (h : RnD σ0 Ls n O nn w σ k t) (hk : 100 ≤ k) (hd : k + 13 ≤ k' ∨ k' + 13 ≤ k) (fG : Fm xG σ0 τ) (f : Fm (xS k') σ τ) (hk' : 100 ≤ k') : RnD σ0 Ls n O nn w τ k t :=
  h.cong fG (fun i _ => f.2 19 i (by simp [xS, xV]; omega)) (fun a j h1 h2 => f.2 a j (by simp [xS, xV]; omega))
theorem both_loss {Z : Int32 → St → Prop} (hI : Inv σ) (x1 x2 x3 x4 x5 : Int32) (hZ : ∀ r σ1, (∀ Z2 : Int32 → St → Prop, (∀ σ2, Inv σ2 → Z2 r σ2) → wX12_loss x1 x2 x3 x4 x5 σ1 Z2) → Z r σ1) : wX11_loss x1 x2 x3 x4 x5 σ Z := by
  obtain ⟨Ls, hL⟩ := Inv_iff.mp hI
  obtain ⟨n, O, F, Bn⟩ := InvB hL
  obtain ⟨hF, hn, hO⟩ := BunF Bn
  have eN := Bn.1.2.2.1
  have eO := Bn.1.2.2.2.2.2.1
  have eF := Bn.2.1.2.1
  have eNM := Bn.2.2.1.2.2.1
  have eOM := Bn.2.2.1.2.2.2.2.2.2.2.1
  have eFM := Bn.2.2.2.2.2.2.2.2.1
  by_cases hb : (∃ j, j < O ∧ x1 = nI j) ∧ (∃ m, m < n ∧ x2 = nI m) ∧ (∃ h, h ≤ 240 ∧ x3 = nI h) ∧ (∃ h, h ≤ 240 ∧ x4 = nI h) ∧ ∃ k, k ≤ F ∧ x5 = nI k
  · obtain ⟨⟨j, hj, rfl⟩, ⟨m, hm, rfl⟩, ⟨a, ha, rfl⟩, ⟨b, hb, rfl⟩, ⟨nn, hnn, rfl⟩⟩ := hb
    rw [wX11_loss, eO]
    refine ⟨fun c => absurd c (nI_pos (by omega)), fun _ => ⟨fun c => absurd c (nI_ge hj (by omega)), fun _ => isMillD n (by omega) eN (fun _ _ _ => ⟨z11, fun _ => endD (fun _ _ _ => ⟨z11, fun _ => endD (fun _ _ _ => ⟨z11, fun _ => knD hF eF (fun _ _ _ => ⟨z11, fun _ => ?_⟩) (fun g => absurd rfl (g nn hnn))⟩) (fun g => absurd rfl (g b hb))⟩) (fun g => absurd rfl (g a ha))⟩) (fun g => absurd rfl (g m hm))⟩⟩
    refine beginQ Bn stg_100 hnn (fun τ1 r1 k1 => ?_)
    have hI1 := RnD.inv hL Bn hnn r1 k1
    have B1 := BunE Bn hI1 r1.1
    refine beginD (σ0 := σ) (Ls := Ls) (n := n) (O := O) (w := nI j) stg_113 r1.1 B1.2.1 hnn (r1.1.gr (fun _ => rfl)) (r1.1.gr (fun _ => rfl)) (fun τ2 r2 k2 g2 => ?_)
    have s2 : RnD σ Ls n O nn (-1) τ2 100 0 := r1.cong r2.1 (fun i hi => (r2.2.1 i hi).trans (r1.2.1 i hi).symm) (fun a j h1 h2 => g2 a j (by simp [xS, xV]; omega) (by simp [xK]; omega))
    refine workedR Bn.1 stg_113 hm ha hb (Nat.zero_le _) r2 (fun τ3 r3 f3 => ?_)
    have s3 := s2.oth (by decide) (Or.inl (by decide)) r3.1 f3 (by decide)
    refine workedR Bn.1 stg_100 hm ha hb (Nat.zero_le _) s3 (fun τ4 r4 f4 => ?_)
    have h34 : gv τ4 3 4 = nI nn := (f4.2 3 4 (xS_34 stg_100)).trans ((f3.2 3 4 (xS_34 stg_113)).trans k2)
    have hI4 := RnD.inv hL Bn hnn r4 h34
    have B4 := BunE Bn hI4 r4.1
    rw [Nat.sub_zero, wkT_S, wkT_S]
    refine hZ _ _ (fun Z2 h2 => ?_)
    rw [wX12_loss, B4.2.2.1.2.2.2.2.2.2.2.1]
    refine ⟨fun c => absurd c (nI_pos (by omega)), fun _ => ⟨fun c => absurd c (nI_ge hj (by omega)), fun _ => isMillM n (by omega) B4.2.2.1.2.2.1 (fun _ _ _ => ⟨z11, fun _ => endM (fun _ _ _ => ⟨z11, fun _ => endM (fun _ _ _ => ⟨z11, fun _ => knM hF B4.2.2.2.2.2.2.2.2.1 (fun _ _ _ => ⟨z11, fun _ => ?_⟩) (fun g => absurd rfl (g nn hnn))⟩) (fun g => absurd rfl (g b hb))⟩) (fun g => absurd rfl (g a ha))⟩) (fun g => absurd rfl (g m hm))⟩⟩
    refine workM B4 hI4 hnn ha hb hm (fun τ5 f5 hI5 B5 => ?_)
    refine workM B5 hI5 hnn ha hb hm (fun τ6 f6 hI6 B6 => ?_)
    rw [simD_R f5, simD_fm r4.1, simD_fm r4.1]
    exact h2 _ (Inv_iff.mpr ⟨Ls, hI6⟩)
  · have hz : Z (-1000000) σ := hZ _ _ (fun Z2 h2 => by
      have hz := h2 _ hI
      rw [wX12_loss, eOM]
      refine ⟨fun _ => hz, fun c1 => ⟨fun _ => hz, fun c2 => isMillM n (by omega) eNM (fun m hm e2 => ⟨z11, fun _ => endM (fun a ha e3 => ⟨z11, fun _ => endM (fun b hb2 e4 => ⟨z11, fun _ => knM hF eFM (fun nn hnn e5 => ?_) (fun _ => ⟨fun _ => hz, fun c => absurd rfl c⟩)⟩) (fun _ => ⟨fun _ => hz, fun c => absurd rfl c⟩)⟩) (fun _ => ⟨fun _ => hz, fun c => absurd rfl c⟩)⟩) (fun _ => ⟨fun _ => hz, fun c => absurd rfl c⟩)⟩⟩
      exfalso
      obtain ⟨j, hj, e1⟩ := nI_of c1
      exact hb ⟨⟨j, Nat.not_le.mp (fun q => c2 (by rw [e1]; exact nI_le q hj)), e1⟩, ⟨m, hm, e2⟩, ⟨a, ha, e3⟩, ⟨b, hb2, e4⟩, ⟨nn, hnn, e5⟩⟩)
    rw [wX11_loss, eO]
    refine ⟨fun _ => hz, fun c1 => ⟨fun _ => hz, fun c2 => isMillD n (by omega) eN (fun m hm e2 => ⟨z11, fun _ => endD (fun a ha e3 => ⟨z11, fun _ => endD (fun b hb2 e4 => ⟨z11, fun _ => knD hF eF (fun nn hnn e5 => ?_) (fun _ => ⟨fun _ => hz, fun c => absurd rfl c⟩)⟩) (fun _ => ⟨fun _ => hz, fun c => absurd rfl c⟩)⟩) (fun _ => ⟨fun _ => hz, fun c => absurd rfl c⟩)⟩) (fun _ => ⟨fun _ => hz, fun c => absurd rfl c⟩)⟩⟩
    exfalso
    obtain ⟨j, hj, e1⟩ := nI_of c1
    exact hb ⟨⟨j, Nat.not_le.mp (fun q => c2 (by rw [e1]; exact nI_le q hj)), e1⟩, ⟨m, hm, e2⟩, ⟨a, ha, e3⟩, ⟨b, hb2, e4⟩, ⟨nn, hnn, e5⟩⟩
end LO
