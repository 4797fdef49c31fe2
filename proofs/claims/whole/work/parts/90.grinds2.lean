/-! grists: the reference's grinds, whole. -/
section GN
variable {Q : St → Prop} {G n m : Nat} {mi wt hr : Nat → Int32}
theorem gmM_loop {K38 : Int32 → Int32 → St → Prop} {τ0 : St} (hG : G ≤ 60) (hn : n ≤ 7) (hm : m < n) (hs : ∀ i j, i ≤ j → j < G → hr i ≤ hr j) (eN : gv τ0 11 43 = nI n) {H t : Nat} (ht : t < 240) {wk : Int32} (hw : gv τ0 88 (10 * (7 * t + m) + 6) = wk) {s RES : GsG} (hR : tkGL mi wt hr (nI m) (nI t) G 0 wk s = RES) (hQ : ∀ τ, Fm xGr τ0 τ → GrM τ G mi wt hr → HdG 98 99 G mi (nI m) RES τ → K38 (nI H) (nI (t + 1)) τ) : ∀ (d m' : Nat) (τ : St), m' + d = n → Fm xGr τ0 τ → GrM τ G mi wt hr → HdG 98 99 G mi (nI m) (if m' ≤ m then s else RES) τ → wX12_grinds_46 Q K38 (d + 1) (nI H) (nI t) (nI m') τ := by
  intro d
  induction d with
  | zero =>
    intro m' τ hd f g h
    rw [if_neg (by omega)] at h
    refine ⟨fun _ => ?_, fun c => ?_⟩
    · rintro x3 rfl
      rw [nI_1]
      exact hQ τ f g h
    · rw [f.2 11 43 rfl, eN] at c
      exact absurd (nI_le (by omega) (by omega)) c
  | succ d ih =>
    intro m' τ hd f g h
    have eix : (10 : Int32) * ((7 : Int32) * nI t + nI m') + 6 = nI (10 * (7 * t + m') + 6) := by rw [ixN, show (6 : Int32) = nI 6 from rfl, nI_add]
    rw [wX12_grinds_46, f.2 11 43 rfl, eN, eix, nI_clamp (by omega)]
    refine ⟨fun c => absurd c (nI_ge (by omega) (by omega)), fun _ => ⟨vp_in_nI (by omega) (by decide), ?_⟩⟩
    intro x5 h5
    refine ⟨G + 1, gkM_loop (m := nI m) (m' := nI m') (RES := if m' + 1 ≤ m then s else RES) hG hs (fun τ1 f1 g1 d1 => by rw [nI_1]; exact ih (m' + 1) τ1 (by omega) f1 g1 d1) G 0 x5 (if m' ≤ m then s else RES) τ (by omega) f g h ?_⟩
    by_cases q : m' = m
    · refine Or.inl ⟨by rw [q], ?_⟩
      rw [q, f.2 88 _ rfl, hw] at h5
      rw [if_pos (by omega), if_neg (by omega), h5]
      exact hR
    · refine Or.inr ⟨fun z => q ((nI_eq (by omega) (by omega)).mp z), ?_⟩
      by_cases q2 : m' ≤ m
      · rw [if_pos q2, if_pos (by omega)]
      · rw [if_neg q2, if_neg (by omega)]
theorem goM_loop {τ0 : St} (hG : G ≤ 60) (hn : n ≤ 7) (hm : m < n) (hs : ∀ i j, i ≤ j → j < G → hr i ≤ hr j) (eN : gv τ0 11 43 = nI n) {H : Nat} (hH : H ≤ 240) {S : Nat → Int32} (hw : ∀ t, t < 240 → gv τ0 88 (10 * (7 * t + m) + 6) = S t) (hQ : ∀ τ, Fm xGr τ0 τ → GrM τ G mi wt hr → HdG 98 99 G mi (nI m) (grG mi wt hr G (nI m) S H) τ → Q τ) : ∀ (d t : Nat) (τ : St), t + d = H → Fm xGr τ0 τ → GrM τ G mi wt hr → HdG 98 99 G mi (nI m) (grG mi wt hr G (nI m) S t) τ → wX12_grinds_38 Q (d + 1) (nI H) (nI t) τ := by
  intro d
  induction d with
  | zero =>
    intro t τ ht f g h
    have e : t = H := by omega
    subst e
    exact ⟨fun _ => hQ τ f g h, fun c => absurd (Int32.le_refl _) c⟩
  | succ d ih =>
    intro t τ ht f g h
    rw [wX12_grinds_38]
    refine ⟨fun c => absurd c (nI_ge (by omega) (by omega)), fun _ => ⟨n + 1, gmM_loop (τ0 := τ0) (t := t) (s := grG mi wt hr G (nI m) S t) (RES := grG mi wt hr G (nI m) S (t + 1)) hG hn hm hs eN (by omega) (hw t (by omega)) rfl (fun τ1 f1 g1 d1 => ih (t + 1) τ1 (by omega) f1 g1 d1) n 0 τ (by omega) f g ?_⟩⟩
    rw [if_pos (Nat.zero_le _)]
    exact h
theorem giM_loop {τ0 : St} (hG : G ≤ 60) {H : Int32} (hQ : ∀ τ, Fm xGr τ0 τ → GrM τ G mi wt hr → (∀ i, i < G → gv τ 98 i = 0 ∧ gv τ 99 i = -1) → ∃ j : Nat, wX12_grinds_38 Q j H 0 τ) : ∀ (d j : Nat) (τ : St), j + d = G → Fm xGr τ0 τ → GrM τ G mi wt hr → (∀ i, i < j → gv τ 98 i = 0 ∧ gv τ 99 i = -1) → wX12_grinds_8 Q (d + 1) H (nI j) τ := by
  intro d
  induction d with
  | zero =>
    intro j τ hj f g h
    have e : j = G := by omega
    subst e
    refine ⟨fun _ => hQ τ f g h, fun c => ?_⟩
    rw [g.1] at c
    exact absurd (Int32.le_refl _) c
  | succ d ih =>
    intro j τ hj f g h
    have v : vp_in (nI j) 60 := vp_in_nI (by omega) (by decide)
    rw [wX12_grinds_8, g.1, nI_clamp (by omega)]
    refine ⟨fun c => absurd c (nI_ge (by omega) (by omega)), fun _ => ⟨v, ?_⟩⟩
    rintro σ3 h3
    refine ⟨v, ?_⟩
    rintro σ5 h5 x3 rfl
    have f3 : Fm xGr τ σ3 := by rw [h3]; exact Fm_pv rfl
    have f5 : Fm xGr σ3 σ5 := by rw [h5]; exact Fm_pv rfl
    rw [nI_1]
    refine ih (j + 1) σ5 (by omega) ((f.tr f3).tr f5) ((g.fm f3).fm f5) (fun i hi => ?_)
    rw [h5, h3, gv_pv, if_neg (fun q => absurd q.1 (by decide)), gv_pv]
    by_cases q : i = j
    · refine ⟨by rw [if_pos ⟨rfl, q⟩], by rw [gv_pv, if_pos ⟨rfl, q⟩]⟩
    · refine ⟨by rw [if_neg (fun z => q z.2)]; exact (h i (by omega)).1, ?_⟩
      rw [gv_pv, if_neg (fun z => q z.2), gv_pv, if_neg (fun z => absurd z.1 (by decide))]
      exact (h i (by omega)).2
/-- the reference's grists after H hours -/
theorem grindsM {σ : St} {Ls : List Ru} {O F nn H : Nat} (hI : InvL Ls σ) (B : Bun σ Ls n O F) (hH : H ≤ 240) (hnn : nn ≤ F) (hm : m < n) (hG : G ≤ 60) (g : GrM σ G mi wt hr) (hs : ∀ i j, i ≤ j → j < G → hr i ≤ hr j)
    (hQ : ∀ τ, InvL Ls τ → GrM τ G mi wt hr → HdG 98 99 G mi (nI m) (grG mi wt hr G (nI m) (fun t => simD σ Ls O nn (-1) (t + 1) 6 m) H) τ → Q τ) : wX12_grinds (nI nn) (nI H) σ Q := by
  obtain ⟨_, hn, _⟩ := BunF B
  refine worksQ B hnn (fun τ1 f1 n1 => ?_)
  have hI1 := InvW hI B hnn f1 n1
  have g1 : GrM τ1 G mi wt hr := ⟨(f1.2 11 61 rfl).trans g.1, (f1.gr (fun _ => rfl)).trans g.2.1, (f1.gr (fun _ => rfl)).trans g.2.2.1, (f1.gr (fun _ => rfl)).trans g.2.2.2⟩
  have eN : gv τ1 11 43 = nI n := (f1.2 11 43 rfl).trans B.2.2.1.2.2.1
  refine ⟨G + 1, giM_loop (τ0 := τ1) hG (fun τ2 f2 g2 z => ⟨H + 1, goM_loop (τ0 := τ1) (S := fun t => simD σ Ls O nn (-1) (t + 1) 6 m) hG hn hm hs eN hH (fun t ht => by rw [n1.2.2.1 t m 6 ht hm (by decide), sim_D B]) (fun τ3 f3 g3 d3 => hQ τ3 (InvT hI1 f3) g3 d3) H 0 τ2 (by omega) f2 g2 (fun j hj _ => z j hj)⟩) G 0 τ1 (by omega) Fm.rf g1 (fun i hi => absurd hi (by omega))⟩
end GN
