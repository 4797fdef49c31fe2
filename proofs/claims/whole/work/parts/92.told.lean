/-! told. -/
section GK2
variable {σ : St} {Ls : List Ru} {n O F nn G m : Nat}
theorem grindE_loop {Q : St → Prop} {H : Nat} (hH : H ≤ 240) (hnn : nn ≤ F) (hm : m < n) (hG : G ≤ 60) {S : Nat → Rw} {mi wt hr : Nat → Int32} {ck : Int32}
    (hQ : ∀ τ, InvL Ls τ → Bun τ Ls n O F → gv τ 0 5 = ck → simD τ Ls O nn (-1) = S → (gv τ 9 5 = nI G ∧ gr τ 40 = mi ∧ gr τ 41 = wt ∧ gr τ 39 = hr) → HdG 42 43 G mi (nI m) (grG mi wt hr G (nI m) (fun t => S (t + 1) 6 m) H) τ → Q τ) :
    ∀ (d t : Nat) (τ : St), t + d = H → InvL Ls τ → Bun τ Ls n O F → gv τ 0 5 = ck → RnD τ Ls n O nn (-1) τ 100 t → gv τ 3 4 = nI nn → simD τ Ls O nn (-1) = S → (gv τ 9 5 = nI G ∧ gr τ 40 = mi ∧ gr τ 41 = wt ∧ gr τ 39 = hr) → HdG 42 43 G mi (nI m) (grG mi wt hr G (nI m) (fun t => S (t + 1) 6 m) t) τ → wX11_grind_23 Q (d + 1) (nI m) (nI H) (nI t) τ := by
  intro d
  induction d with
  | zero =>
    intro t τ ht hI B hck r k e g hd
    have e1 : t = H := by omega
    subst e1
    exact ⟨fun _ => hQ τ hI B hck e g hd, fun c => absurd (Int32.le_refl _) c⟩
  | succ d ih =>
    intro t τ ht hI B hck r k e g hd
    obtain ⟨_, hn, _⟩ := BunF B
    rw [wX11_grind_23]
    refine ⟨fun c => absurd c (nI_ge (by omega) (by omega)), fun _ => stepR B.1 stg_100 (by omega) r (fun τ1 r1 f1 => ⟨vp_in_nI (by omega) (by decide), ?_⟩)⟩
    have k1 : gv τ1 3 4 = nI nn := (f1.2 3 4 (xS_34 stg_100)).trans k
    have hI1 := RnD.inv hI B hnn r1 k1
    have B1 := BunE B hI1 r1.1
    have e1 : simD τ1 Ls O nn (-1) = S := (simD_fm r1.1).trans e
    obtain ⟨g1, g2, g3, g4⟩ := g
    have g1' : gv τ1 9 5 = nI G := (r1.1.2 9 5 rfl).trans g1
    have g2' : gr τ1 40 = mi := (r1.1.gr (fun _ => rfl)).trans g2
    have g3' : gr τ1 41 = wt := (r1.1.gr (fun _ => rfl)).trans g3
    have g4' : gr τ1 39 = hr := (r1.1.gr (fun _ => rfl)).trans g4
    have ew : gv τ1 109 (nI m).toNatClampNeg = S (t + 1) 6 m := by
      rw [nI_clamp (by omega), ← e]
      exact r1.2.2.2.2.2.1 6 m (by decide) hm
    have d1 : HdG 42 43 G (gr τ1 40) (nI m) (grG mi wt hr G (nI m) (fun t => S (t + 1) 6 m) t) τ1 := by
      rw [g2']
      exact hd.fm r1.1 (fun _ => rfl) (fun _ => rfl)
    rw [ew]
    refine ⟨G + 1, tkD_loop hG g1' (RES := grG mi wt hr G (nI m) (fun t => S (t + 1) 6 m) (t + 1)) (fun τ2 f2 d2 => ?_) G 0 _ _ τ1 (by omega) Fm.rf d1 (by rw [g2', g3', g4']; rfl)⟩
    rintro x4 rfl
    rw [nI_1]
    have hI2 := InvT hI1 f2
    rw [g2'] at d2
    exact ih (t + 1) τ2 (by omega) hI2 (BunT B1 hI2 f2) ((f2.2 0 5 rfl).trans ((r1.1.2 0 5 rfl).trans hck)) (r1.self.grist (by decide) f2) ((f2.2 3 4 rfl).trans k1) ((simD_T f2).trans e1) ⟨(f2.2 9 5 rfl).trans g1', (f2.gr (fun _ => rfl)).trans g2', (f2.gr (fun _ => rfl)).trans g3', (f2.gr (fun _ => rfl)).trans g4'⟩ d2
theorem grindE {Q : St → Prop} {H : Nat} (hI : InvL Ls σ) (B : Bun σ Ls n O F) (hH : H ≤ 240) (hnn : nn ≤ F) (hm : m < n) (hG : G ≤ 60) (eG : gv σ 9 5 = nI G)
    (hQ : ∀ τ, InvL Ls τ → Bun τ Ls n O F → gv τ 0 5 = gv σ 0 5 → simD τ Ls O nn (-1) = simD σ Ls O nn (-1) → (gv τ 9 5 = nI G ∧ gr τ 40 = gr σ 40 ∧ gr τ 41 = gr σ 41 ∧ gr τ 39 = gr σ 39) → HdG 42 43 G (gr σ 40) (nI m) (grG (gr σ 40) (gr σ 41) (gr σ 39) G (nI m) (fun t => simD σ Ls O nn (-1) (t + 1) 6 m) H) τ → Q τ) : wX11_grind (nI m) (nI nn) (nI H) σ Q := by
  rintro σ1 h1 σ2 h2
  have f1 : Fm xGr σ σ1 := by rw [h1]; exact Fm_pa (fun _ => rfl)
  have f2 : Fm xGr σ1 σ2 := by rw [h2]; exact Fm_pa (fun _ => rfl)
  have f := f1.tr f2
  have hI2 := InvT hI f
  have B2 := BunT B hI2 f
  have z : HdG 42 43 G (gr σ 40) (nI m) (fun _ => 0, fun _ => -1) σ2 := by
    intro j _ _
    rw [h2, h1, gv_pa, gv_pa, gv_pa, if_neg (by decide), if_pos rfl, if_pos rfl]
    exact ⟨rfl, rfl⟩
  refine beginQ B2 stg_100 hnn (fun τ r k => ?_)
  have hI3 := RnD.inv hI2 B2 hnn r k
  refine ⟨H + 1, grindE_loop (S := simD σ Ls O nn (-1)) (mi := gr σ 40) (wt := gr σ 41) (hr := gr σ 39) hH hnn hm hG hQ H 0 τ (by omega) hI3 (BunE B2 hI3 r.1) ((r.1.2 0 5 rfl).trans (f.2 0 5 rfl)) r.self k ((simD_fm r.1).trans (simD_T f)) ⟨(r.1.2 9 5 rfl).trans ((f.2 9 5 rfl).trans eG), (r.1.gr (fun _ => rfl)).trans (f.gr (fun _ => rfl)), (r.1.gr (fun _ => rfl)).trans (f.gr (fun _ => rfl)), (r.1.gr (fun _ => rfl)).trans (f.gr (fun _ => rfl))⟩ (z.fm r.1 (fun _ => rfl) (fun _ => rfl))⟩
end GK2
section TO
variable {σ : St} {Z : Int32 → St → Prop}
/-- the grist's end and what is done of it, both sides -/
theorem toldG {Ls : List Ru} {n O F nn G j m H : Nat} (hL : InvL Ls σ) (Bn : Bun σ Ls n O F) (hH : H ≤ 240) (hnn : nn ≤ F) (hG : G ≤ 60) (hj : j < G) (hm : m < n) (eG : gv σ 9 5 = nI G) (e40 : gr σ 40 j = nI m) (hs : ∀ i j, i ≤ j → j < G → gr σ 39 i ≤ gr σ 39 j) {c : Bool} {Q : Int32 → St → Prop}
    (hQ : ∀ r τ, InvL Ls τ → Bun τ Ls n O F → (gv τ 9 5 = nI G) → gv τ 0 5 = gv σ 0 5 → (∀ Z2 : Int32 → St → Prop, (∀ σ2, Inv σ2 → Z2 r σ2) → wX12_grinds (nI nn) (nI H) τ (fun (σ14 : St) => vp_in (nI j) 60 ∧ Z2 (gv σ14 (if c then 99 else 98) (nI j).toNatClampNeg) σ14)) → Q r τ) :
    wX11_grind (nI m) (nI nn) (nI H) σ (fun (σ15 : St) => vp_in (nI j) 60 ∧ Q (gv σ15 (if c then 43 else 42) (nI j).toNatClampNeg) σ15) := by
  have v : vp_in (nI j) 60 := vp_in_nI (by omega) (by decide)
  refine grindE hL Bn hH hnn hm hG eG (fun τ hI1 B1 ec e1 g1 d1 => ⟨v, ?_⟩)
  refine hQ _ _ hI1 B1 g1.1 ec (fun Z2 h2 => ?_)
  refine grindsM hI1 B1 hH hnn hm hG (GrM_of hI1 g1) hs (fun τ2 hI2 g2 d2 => ⟨v, ?_⟩)
  rw [e1] at d2
  have q1 := d1 j hj e40
  have q2 := d2 j hj e40
  have hz := h2 _ (Inv_iff.mpr ⟨Ls, hI2⟩)
  rw [nI_clamp (by omega)] at hz ⊢
  cases c
  · simp only [Bool.false_eq_true, if_false] at hz ⊢
    rw [q2.1, ← q1.1]
    exact hz
  · simp only [if_true] at hz ⊢
    rw [q2.2, ← q1.2]
    exact hz
theorem both_told (hI : Inv σ) (x1 x2 x3 : Int32) (hZ : ∀ r σ1, (∀ Z2 : Int32 → St → Prop, (∀ σ2, Inv σ2 → Z2 r σ2) → wX12_told x1 x2 x3 σ1 Z2) → Z r σ1) : wX11_told x1 x2 x3 σ Z := by
  obtain ⟨Ls, hL⟩ := Inv_iff.mp hI
  obtain ⟨n, O, F, Bn⟩ := InvB hL
  obtain ⟨hF, hn, hO⟩ := BunF Bn
  have eF := Bn.2.1.2.1
  have eFM := Bn.2.2.2.2.2.2.2.2.1
  obtain ⟨o1, o2, o3, o4, G, hG, eG, og, hs⟩ := hL.2.2.2.2.2.2.2.1
  have hs : ∀ i j, i ≤ j → j < G → gr σ 39 i ≤ gr σ 39 j := hs
  obtain ⟨oc, ck, hck, eck⟩ := hL.2.2.2.2.1
  have eGM : gv σ 11 61 = nI G := o1.symm.trans eG
  by_cases hb : (∃ j, j < G ∧ x1 = nI j) ∧ ∃ k, k ≤ F ∧ x2 = nI k
  · obtain ⟨⟨j, hj, rfl⟩, ⟨nn, hnn, rfl⟩⟩ := hb
    obtain ⟨h, m, w, _, hm, _, _, _, e40, _⟩ := og j hj
    have hm : m < n := by rw [Bn.1.2.2.1, nI_clamp (by omega)] at hm; exact hm
    have v : vp_in (nI j) 60 := vp_in_nI (by omega) (by decide)
    have hc : (nI j).toNatClampNeg = j := nI_clamp (by omega)
    rw [wX11_told, eG]
    refine ⟨fun c => absurd c (nI_pos (by omega)), fun _ => ⟨fun c => absurd c (nI_ge hj (by omega)), fun _ => knD hF eF (fun _ _ _ => ⟨z11, fun _ => ?_⟩) (fun g => absurd rfl (g nn hnn))⟩⟩
    have key : ∀ r τ, InvL Ls τ → Bun τ Ls n O F → gv τ 9 5 = nI G → (∀ Z2 : Int32 → St → Prop, (∀ σ2, Inv σ2 → Z2 r σ2) → ((x3 = 0 → vp_in (nI j) 60 ∧ Z2 (gv τ 85 (nI j).toNatClampNeg) τ) ∧ (¬ (x3 = 0) → ((x3 = 1 → vp_in (nI j) 60 ∧ Z2 (gv τ 86 (nI j).toNatClampNeg) τ) ∧ (¬ (x3 = 1) → ((x3 = 2 → vp_in (nI j) 60 ∧ Z2 (gv τ 87 (nI j).toNatClampNeg) τ) ∧ (¬ (x3 = 2) → ((x3 = 3 → wX12_grinds (nI nn) (240 : Int32) τ (fun (σ14 : St) => vp_in (nI j) 60 ∧ Z2 (gv σ14 99 (nI j).toNatClampNeg) σ14)) ∧ (¬ (x3 = 3) → ((x3 = 4 → wX12_grinds (nI nn) (gv τ 11 51) τ (fun (σ18 : St) => vp_in (nI j) 60 ∧ Z2 (gv σ18 98 (nI j).toNatClampNeg) σ18)) ∧ (¬ (x3 = 4) → Z2 (-1 : Int32) τ))))))))))) → Z r τ := by
      intro r τ hIt Bt et g
      refine hZ _ _ (fun Z2 h2 => ?_)
      have eM : gv τ 11 61 = nI G := hIt.2.2.2.2.2.2.2.1.1.symm.trans et
      rw [wX12_told, eM]
      refine ⟨fun c => absurd c (nI_pos (by omega)), fun _ => ⟨fun c => absurd c (nI_ge hj (by omega)), fun _ => knM hF Bt.2.2.2.2.2.2.2.2.1 (fun _ _ _ => ⟨z11, fun _ => ?_⟩) (fun g => absurd rfl (g nn hnn))⟩⟩
      exact g Z2 h2
    have w5 : gv σ 40 j = gv σ 85 j := congrFun o3 j
    have w6 : gv σ 41 j = gv σ 86 j := congrFun o4 j
    have w7 : gv σ 39 j = gv σ 87 j := congrFun o2 j
    have w4 : gv σ 40 j = nI m := e40
    by_cases c0 : x3 = 0
    · refine ⟨fun _ => ⟨v, key _ _ hL Bn eG (fun Z2 h2 => ⟨fun _ => ⟨v, ?_⟩, fun c => absurd c0 c⟩)⟩, fun c => absurd c0 c⟩
      have hq := h2 _ hI
      rw [hc] at hq
      rw [hc, ← w5]
      exact hq
    refine ⟨fun c => absurd c c0, fun _ => ?_⟩
    by_cases c1 : x3 = 1
    · refine ⟨fun _ => ⟨v, key _ _ hL Bn eG (fun Z2 h2 => ⟨fun c => absurd c c0, fun _ => ⟨fun _ => ⟨v, ?_⟩, fun c => absurd c1 c⟩⟩)⟩, fun c => absurd c1 c⟩
      have hq := h2 _ hI
      rw [hc] at hq
      rw [hc, ← w6]
      exact hq
    refine ⟨fun c => absurd c c1, fun _ => ?_⟩
    by_cases c2 : x3 = 2
    · refine ⟨fun _ => ⟨v, key _ _ hL Bn eG (fun Z2 h2 => ⟨fun c => absurd c c0, fun _ => ⟨fun c => absurd c c1, fun _ => ⟨fun _ => ⟨v, ?_⟩, fun c => absurd c2 c⟩⟩⟩)⟩, fun c => absurd c2 c⟩
      have hq := h2 _ hI
      rw [hc] at hq
      rw [hc, ← w7]
      exact hq
    refine ⟨fun c => absurd c c2, fun _ => ?_⟩
    by_cases c3 : x3 = 3
    · refine ⟨fun _ => ⟨v, ?_⟩, fun c => absurd c3 c⟩
      rw [show gv σ 40 (nI j).toNatClampNeg = nI m by rw [hc]; exact w4]
      refine toldG (c := true) (H := 240) hL Bn (by decide) hnn hG hj hm eG e40 hs (fun r τ hIt Bt et _ g => key _ _ hIt Bt et (fun Z2 h2 => ⟨fun c => absurd c c0, fun _ => ⟨fun c => absurd c c1, fun _ => ⟨fun c => absurd c c2, fun _ => ⟨fun _ => ?_, fun c => absurd c3 c⟩⟩⟩⟩))
      exact g Z2 h2
    refine ⟨fun c => absurd c c3, fun _ => ?_⟩
    by_cases c4 : x3 = 4
    · refine ⟨fun _ => ⟨v, ?_⟩, fun c => absurd c4 c⟩
      rw [show gv σ 40 (nI j).toNatClampNeg = nI m by rw [hc]; exact w4]
      have q : ∀ H, gv σ 0 5 = nI H → H ≤ 240 → wX11_grind (nI m) (nI nn) (gv σ 0 5) σ (fun (σ15 : St) => vp_in (nI j) 60 ∧ (Z (gv σ15 42 (nI j).toNatClampNeg) σ15)) := by
        intro H eH hH
        rw [eH]
        refine toldG (c := false) (H := H) hL Bn hH hnn hG hj hm eG e40 hs (fun r τ hIt Bt et ec g => key _ _ hIt Bt et (fun Z2 h2 => ⟨fun c => absurd c c0, fun _ => ⟨fun c => absurd c c1, fun _ => ⟨fun c => absurd c c2, fun _ => ⟨fun c => absurd c c3, fun _ => ⟨fun _ => ?_, fun c => absurd c4 c⟩⟩⟩⟩⟩))
        rw [show gv τ 11 51 = nI H from hIt.2.2.2.2.1.1.symm.trans (ec.trans eH)]
        exact g Z2 h2
      exact q ck eck (by omega)
    refine ⟨fun c => absurd c c4, fun _ => ?_⟩
    exact key _ _ hL Bn eG (fun Z2 h2 => ⟨fun c => absurd c c0, fun _ => ⟨fun c => absurd c c1, fun _ => ⟨fun c => absurd c c2, fun _ => ⟨fun c => absurd c c3, fun _ => ⟨fun c => absurd c c4, fun _ => h2 _ hI⟩⟩⟩⟩⟩)
  · have hz : Z (-1) σ := hZ _ _ (fun Z2 h2 => by
      have hz := h2 _ hI
      rw [wX12_told, eGM]
      refine ⟨fun _ => hz, fun c1 => ⟨fun _ => hz, fun c2 => knM hF eFM (fun nn hnn e3 => ?_) (fun _ => ⟨fun _ => hz, fun c => absurd rfl c⟩)⟩⟩
      exfalso
      obtain ⟨j, hj, e1⟩ := nI_of c1
      exact hb ⟨⟨j, Nat.not_le.mp (fun q => c2 (by rw [e1]; exact nI_le q hj)), e1⟩, ⟨nn, hnn, e3⟩⟩)
    rw [wX11_told, eG]
    refine ⟨fun _ => hz, fun c1 => ⟨fun _ => hz, fun c2 => knD hF eF (fun nn hnn e3 => ?_) (fun _ => ⟨fun _ => hz, fun c => absurd rfl c⟩)⟩⟩
    exfalso
    obtain ⟨j, hj, e1⟩ := nI_of c1
    exact hb ⟨⟨j, Nat.not_le.mp (fun q => c2 (by rw [e1]; exact nI_le q hj)), e1⟩, ⟨nn, hnn, e3⟩⟩
end TO
