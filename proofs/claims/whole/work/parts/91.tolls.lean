/-! tolls, told. -/
def tlG (mi wt e : Nat → Int32) (m : Int32) : Nat → Nat → Int32 → Int32
  | 0, _, x => x
  | c + 1, j, x => tlG mi wt e m c (j + 1) (if mi j = m ∧ e j ≠ -1 then x + wt j / 16 else x)
section TL
variable {Q : Int32 → St → Prop} {G : Nat} {mi wt hr : Nat → Int32} {m : Int32} {s : GsG} {τ : St} {RES : Int32}
theorem tlD_loop (hG : G ≤ 60) (g : gv τ 9 5 = nI G ∧ gr τ 40 = mi ∧ gr τ 41 = wt ∧ gr τ 39 = hr) (hd : HdG 42 43 G mi m s τ) (hQ : Q RES τ) : ∀ (c j : Nat) (x : Int32), j + c = G → tlG mi wt s.2 m c j x = RES → wX1_tollsOf_4 Q (c + 1) m x (nI j) τ := by
  intro c
  induction c with
  | zero =>
    intro j x hj hR
    have hR : x = RES := hR
    refine ⟨fun _ => by rw [hR]; exact hQ, fun c => ?_⟩
    rw [g.1] at c
    exact absurd (nI_le (by omega) (by omega)) c
  | succ c ih =>
    intro j x hj hR
    have v : vp_in (nI j) 60 := vp_in_nI (by omega) (by decide)
    rw [wX1_tollsOf_4, g.1, nI_clamp (by omega), show gv τ 40 j = mi j from congrFun g.2.1 j, show gv τ 41 j = wt j from congrFun g.2.2.1 j]
    rw [tlG] at hR
    refine ⟨fun c => absurd c (nI_ge (by omega) (by omega)), fun _ => ⟨v, fun c2 => ⟨v, fun c3 => ?_, fun c3 => ⟨v, ?_⟩⟩, fun c2 => ?_⟩⟩
    · rw [(hd j (by omega) c2).2] at c3
      rw [if_neg (fun q => q.2 c3)] at hR
      rintro x2 rfl x3 rfl
      rw [nI_1, Int32.add_zero]
      exact ih (j + 1) x (by omega) hR
    · rw [(hd j (by omega) c2).2] at c3
      rw [if_pos ⟨c2, c3⟩] at hR
      rintro x2 rfl x3 rfl
      rw [nI_1]
      exact ih (j + 1) _ (by omega) hR
    · rw [if_neg (fun q => c2 q.1)] at hR
      rintro x2 rfl x3 rfl
      rw [nI_1, Int32.add_zero]
      exact ih (j + 1) x (by omega) hR
theorem tlM_loop (hG : G ≤ 60) (g : GrM τ G mi wt hr) (hd : HdG 98 99 G mi m s τ) (hQ : Q RES τ) : ∀ (c j : Nat) (x : Int32), j + c = G → tlG mi wt s.2 m c j x = RES → wX12_tolls_37 Q (c + 1) m x (nI j) τ := by
  intro c
  induction c with
  | zero =>
    intro j x hj hR
    have hR : x = RES := hR
    refine ⟨fun _ => by rw [hR]; exact hQ, fun c => ?_⟩
    rw [g.1] at c
    exact absurd (nI_le (by omega) (by omega)) c
  | succ c ih =>
    intro j x hj hR
    have v : vp_in (nI j) 60 := vp_in_nI (by omega) (by decide)
    rw [wX12_tolls_37, g.1, nI_clamp (by omega), show gv τ 85 j = mi j from congrFun g.2.1 j, show gv τ 86 j = wt j from congrFun g.2.2.1 j]
    rw [tlG] at hR
    refine ⟨fun c => absurd c (nI_ge (by omega) (by omega)), fun _ => ⟨v, fun c2 => ⟨v, fun c3 => ?_, fun c3 => ⟨v, ?_⟩⟩, fun c2 => ?_⟩⟩
    · rw [(hd j (by omega) c2).2] at c3
      rw [if_neg (fun q => q.2 c3)] at hR
      rintro x5 rfl
      rw [nI_1]
      exact ih (j + 1) x (by omega) hR
    · rw [(hd j (by omega) c2).2] at c3
      rw [if_pos ⟨c2, c3⟩] at hR
      rintro x4 rfl x5 rfl
      rw [nI_1]
      exact ih (j + 1) _ (by omega) hR
    · rw [if_neg (fun q => c2 q.1)] at hR
      rintro x5 rfl
      rw [nI_1]
      exact ih (j + 1) x (by omega) hR
theorem GrM_of {Ls : List Ru} (hI : InvL Ls τ) (g : gv τ 9 5 = nI G ∧ gr τ 40 = mi ∧ gr τ 41 = wt ∧ gr τ 39 = hr) : GrM τ G mi wt hr := by
  obtain ⟨e1, e2, e3, e4, _⟩ := hI.2.2.2.2.2.2.2.1
  exact ⟨e1.symm.trans g.1, e3.symm.trans g.2.1, e4.symm.trans g.2.2.1, e2.symm.trans g.2.2.2⟩
end TL
section TB
variable {σ : St} {Z : Int32 → St → Prop}
theorem both_tolls (hI : Inv σ) (x1 x2 x3 : Int32) (hZ : ∀ r σ1, (∀ Z2 : Int32 → St → Prop, (∀ σ2, Inv σ2 → Z2 r σ2) → wX12_tolls x1 x2 x3 σ1 Z2) → Z r σ1) : wX11_tolls x1 x2 x3 σ Z := by
  obtain ⟨Ls, hL⟩ := Inv_iff.mp hI
  obtain ⟨n, O, F, Bn⟩ := InvB hL
  obtain ⟨hF, hn, hO⟩ := BunF Bn
  have eN := Bn.1.2.2.1
  have eF := Bn.2.1.2.1
  have eNM := Bn.2.2.1.2.2.1
  have eFM := Bn.2.2.2.2.2.2.2.2.1
  obtain ⟨_, _, _, _, G, hG, eG, _, hs⟩ := hL.2.2.2.2.2.2.2.1
  have hs : ∀ i j, i ≤ j → j < G → gr σ 39 i ≤ gr σ 39 j := hs
  by_cases hb : (∃ m, m < n ∧ x1 = nI m) ∧ (∃ h, h ≤ 240 ∧ x2 = nI h) ∧ ∃ k, k ≤ F ∧ x3 = nI k
  · obtain ⟨⟨m, hm, rfl⟩, ⟨H, hH, rfl⟩, ⟨nn, hnn, rfl⟩⟩ := hb
    refine isMillD n (by omega) eN (fun _ _ _ => ⟨z11, fun _ => endD (fun _ _ _ => ⟨z11, fun _ => knD hF eF (fun _ _ _ => ⟨z11, fun _ => ?_⟩) (fun g => absurd rfl (g nn hnn))⟩) (fun g => absurd rfl (g H hH))⟩) (fun g => absurd rfl (g m hm))
    refine grindD hL Bn hH hnn hm hG eG (fun τ hI1 B1 e1 g1 d1 => ?_)
    refine ⟨G + 1, tlD_loop hG g1 d1 ?_ G 0 0 (by omega) rfl⟩
    refine hZ _ _ (fun Z2 h2 => isMillM n (by omega) B1.2.2.1.2.2.1 (fun _ _ _ => ⟨z11, fun _ => endM (fun _ _ _ => ⟨z11, fun _ => knM hF B1.2.2.2.2.2.2.2.2.1 (fun _ _ _ => ⟨z11, fun _ => ?_⟩) (fun g => absurd rfl (g nn hnn))⟩) (fun g => absurd rfl (g H hH))⟩) (fun g => absurd rfl (g m hm)))
    refine grindsM hI1 B1 hH hnn hm hG (GrM_of hI1 g1) hs (fun τ2 hI2 g2 d2 => ?_)
    rw [e1] at d2
    exact ⟨G + 1, tlM_loop hG g2 d2 (h2 _ (Inv_iff.mpr ⟨Ls, hI2⟩)) G 0 0 (by omega) rfl⟩
  · have hz : Z (-1) σ := hZ _ _ (fun Z2 h2 => by
      have hz := h2 _ hI
      exact isMillM n (by omega) eNM (fun m hm e1 => ⟨z11, fun _ => endM (fun a ha e2 => ⟨z11, fun _ => knM hF eFM (fun nn hnn e3 => absurd ⟨⟨m, hm, e1⟩, ⟨a, ha, e2⟩, ⟨nn, hnn, e3⟩⟩ hb) (fun _ => ⟨fun _ => hz, fun c => absurd rfl c⟩)⟩) (fun _ => ⟨fun _ => hz, fun c => absurd rfl c⟩)⟩) (fun _ => ⟨fun _ => hz, fun c => absurd rfl c⟩))
    exact isMillD n (by omega) eN (fun m hm e1 => ⟨z11, fun _ => endD (fun a ha e2 => ⟨z11, fun _ => knD hF eF (fun nn hnn e3 => absurd ⟨⟨m, hm, e1⟩, ⟨a, ha, e2⟩, ⟨nn, hnn, e3⟩⟩ hb) (fun _ => ⟨fun _ => hz, fun c => absurd rfl c⟩)⟩) (fun _ => ⟨fun _ => hz, fun c => absurd rfl c⟩)⟩) (fun _ => ⟨fun _ => hz, fun c => absurd rfl c⟩)
end TB
