/-! read: the class. -/
theorem gv_rc {σ : St} {N c a j : Nat} : gv (rc σ N c) a j = if a = 36 then (if j < gn σ then gv σ 36 j else 0) else gv σ a j := by
  unfold gv rc gr
  by_cases h : a = 36
  · simp [h]
  · simp [h]
theorem openD {σ : St} {L A R C : Nat} {Q : St → Prop} (eL : gv σ 6 0 = nI L) (hL : L ≤ 2000) (e80 : gv σ 8 0 = nI A) (e81 : gv σ 8 1 = nI R) (e815 : gv σ 8 15 = nI C) (hC6 : C ≤ 6000) (hCg : C ≤ gn σ) (hg : gn σ ≤ 7000)
    (hQ : ∀ τ, (∀ a j, a ≠ 5 → a ≠ 25 → a ≠ 26 → a ≠ 204 → (a = 8 → j ≠ 2 ∧ j ≠ 3 ∧ j ≠ 4) → (a = 36 → j < C) → gv τ a j = gv σ a j) → (∀ a j, gw τ a j = gw σ a j) → C + 600 ≤ gn τ → gn τ ≤ 7000 → gn σ ≤ gn τ → gv τ 8 2 = nI A → gv τ 8 3 = nI R → gv τ 8 4 = nI C → gv τ 5 4 = 0 → gv τ 5 5 = 1 → gv τ 5 6 = 0 → gv τ 5 7 = -1 → (∀ i, i ≤ mxF (chT σ) L 600 0 → TkZ (chT σ) L i τ) → Q τ) : wX0_open σ Q := by
  refine scanD eL hL (fun τ1 f1 h1 => ?_)
  have a80 : gv τ1 8 0 = nI A := (f1.2 8 0 rfl).trans e80
  have a81 : gv τ1 8 1 = nI R := (f1.2 8 1 rfl).trans e81
  have a815 : gv τ1 8 15 = nI C := (f1.2 8 15 rfl).trans e815
  intro s1 e1 s2 e2 s3 e3
  rw [a80] at e1
  have b81 : gv s1 8 1 = nI R := by rw [e1, gv_pv, if_neg (by decide)]; exact a81
  rw [b81] at e2
  have b815 : gv s2 8 15 = nI C := by rw [e2, gv_pv, if_neg (by decide), e1, gv_pv, if_neg (by decide)]; exact a815
  rw [b815] at e3
  have c815 : gv s3 8 15 = nI C := by rw [e3, gv_pv, if_neg (by decide)]; exact b815
  have g3 : gn s3 = gn σ := by rw [e3, e2, e1]; exact f1.gn
  have v3 : ∀ a j, (a = 8 → j ≠ 2 ∧ j ≠ 3 ∧ j ≠ 4) → gv s3 a j = gv τ1 a j := fun a j h => by rw [e3, gv_pv, if_neg (by omega), e2, gv_pv, if_neg (by omega), e1, gv_pv, if_neg (by omega)]
  have w3 : ∀ a j, gw s3 a j = gw σ a j := fun a j => by rw [e3, e2, e1]; exact congrFun f1.gw j
  have d2 : gv s3 8 2 = nI A := by rw [e3, gv_pv, if_neg (by decide), e2, gv_pv, if_neg (by decide), e1, gv_pv, if_pos ⟨rfl, rfl⟩]
  have d3 : gv s3 8 3 = nI R := by rw [e3, gv_pv, if_neg (by decide), e2, gv_pv, if_pos ⟨rfl, rfl⟩]
  have d4 : gv s3 8 4 = nI C := by rw [e3, gv_pv, if_pos ⟨rfl, rfl⟩]
  have go : ∀ s4 : St, (∀ a j, (a = 36 → j < C) → gv s4 a j = gv s3 a j) → (∀ a j, gw s4 a j = gw s3 a j) → C + 600 ≤ gn s4 → gn s4 ≤ 7000 → gn σ ≤ gn s4 → ∀ σ5 : St, σ5 = pv s4 5 4 (0 : Int32) → ∀ σ6 : St, σ6 = pv σ5 5 5 (1 : Int32) → ∀ σ7 : St, σ7 = pv σ6 5 6 (0 : Int32) → ∀ σ8 : St, σ8 = pv σ7 5 7 (-1 : Int32) → Q σ8 := by
    intro s4 k1 k2 k3 k4 k5
    rintro σ5 rfl σ6 rfl σ7 rfl σ8 rfl
    have n5 : ∀ a j, a ≠ 5 → gv (pv (pv (pv (pv s4 5 4 0) 5 5 1) 5 6 0) 5 7 (-1)) a j = gv s4 a j := fun a j h => by
      rw [gv_pv, if_neg (by omega), gv_pv, if_neg (by omega), gv_pv, if_neg (by omega), gv_pv, if_neg (by omega)]
    refine hQ _ (fun a j h1 h2 h3 h9 h4 h5 => ?_) (fun a j => (k2 a j).trans (w3 a j)) k3 k4 k5 ?_ ?_ ?_ ?_ ?_ ?_ ?_ (fun i hi => ⟨?_, ?_, fun q => ?_⟩)
    · rw [n5 a j h1, k1 a j h5, v3 a j h4]
      exact f1.2 a j (by simp [xTo]; omega)
    · rw [n5 8 2 (by decide), k1 8 2 (by omega)]; exact d2
    · rw [n5 8 3 (by decide), k1 8 3 (by omega)]; exact d3
    · rw [n5 8 4 (by decide), k1 8 4 (by omega)]; exact d4
    · rw [gv_pv, if_neg (by decide), gv_pv, if_neg (by decide), gv_pv, if_neg (by decide), gv_pv, if_pos ⟨rfl, rfl⟩]
    · rw [gv_pv, if_neg (by decide), gv_pv, if_neg (by decide), gv_pv, if_pos ⟨rfl, rfl⟩]
    · rw [gv_pv, if_neg (by decide), gv_pv, if_pos ⟨rfl, rfl⟩]
    · rw [gv_pv, if_pos ⟨rfl, rfl⟩]
    · rw [n5 25 i (by decide), k1 25 i (by omega), v3 25 i (by omega)]
      exact (h1 i hi).1
    · rw [n5 26 i (by decide), k1 26 i (by omega), v3 26 i (by omega)]
      exact (h1 i hi).2.1
    · rw [n5 204 i (by decide), k1 204 i (by omega), v3 204 i (by omega)]
      exact (h1 i hi).2.2 q
  have s600 : gv s3 8 15 + 600 = nI (C + 600) := by rw [c815, show (600 : Int32) = nI 600 from rfl, nI_add]
  rw [s600, nI_clamp (by omega)]
  refine ⟨fun c => go s3 (fun _ _ _ => rfl) (fun _ _ => rfl) ((nI_leI (by omega) (by omega)).mp c) (by omega) (by omega), fun c => ?_⟩
  have hlt : gn s3 < C + 600 := Nat.not_le.mp (fun q => c (nI_le q (by omega)))
  refine ⟨nI_pos (by omega), hlt, by omega, fun cc => go _ (fun a j h => ?_) (fun _ _ => rfl) (Nat.le_refl _) (show C + 600 ≤ 7000 by omega) (show gn σ ≤ C + 600 by omega)⟩
  rw [gv_rc]
  by_cases z : a = 36
  · rw [if_pos z, if_pos (by have := h z; omega), z]
  · rw [if_neg z]
/-- frames of the class's read -/
def xDv (A R C a j : Nat) : Bool := a == 5 || (a == 6 && j == 0) || (a == 8 && (j == 0 || j == 1 || j == 2 || j == 3 || j == 4 || j == 15)) || a == 25 || a == 26 || a == 204 || (a == 36 && decide (C ≤ j)) || (decide (27 ≤ a) && decide (a ≤ 32) && decide (R ≤ j)) || ((a == 34 || a == 35) && decide (A ≤ j))
def DvF (A R C : Nat) (σ τ : St) : Prop := (∀ a j, xDv A R C a j = false → gv τ a j = gv σ a j) ∧ (∀ a j, (a = 33 → j < A) → gw τ a j = gw σ a j) ∧ gn σ ≤ gn τ ∧ C + 600 ≤ gn τ ∧ gn τ ≤ 7000
theorem readD {σ : St} {L A R C : Nat} {nms : List (List Nat)} {Z : Int32 → St → Prop} (eL : gv σ 6 0 = nI L) (hL : L ≤ 2000) (e80 : gv σ 8 0 = nI A) (e81 : gv σ 8 1 = nI R) (e815 : gv σ 8 15 = nI C) (hA : A ≤ 10) (hR : R ≤ 30) (hC6 : C ≤ 6000) (hCg : C ≤ gn σ) (hg : gn σ ≤ 7000) (hnl : nms.length = A) (hN : NmD nms σ)
    (hno : ∀ g k υ, txP (tkK (chT σ) L) (tkV (chT σ) L) (tkN (chT σ) L) 11 nms R 0 none = .no g k → (g = 1 ∨ g = 2) → DvF A R C σ υ → gv υ 6 0 = 0 → gv υ 5 2 = nI (tkp (chT σ) L k) → gv υ 8 0 = nI A → gv υ 8 1 = nI R → gv υ 8 15 = nI C → Z (nI g) υ)
    (hlt : ∀ z acts rules k j υ, txP (tkK (chT σ) L) (tkV (chT σ) L) (tkN (chT σ) L) 11 nms R 0 none = .ok z (acts, rules, some (k, j)) → DvF A R C σ υ → gv υ 6 0 = 0 → gv υ 5 2 = nI (tkp (chT σ) L j) → gv υ 8 0 = nI A → gv υ 8 1 = nI R → gv υ 8 15 = nI C → Z (nI k) υ)
    (hok : ∀ z acts rules υ C', txP (tkK (chT σ) L) (tkV (chT σ) L) (tkN (chT σ) L) 11 nms R 0 none = .ok z (acts, rules, none) → DvF A R C σ υ → gv υ 6 0 = 0 → gv υ 5 2 = -1 → gv υ 8 0 = nI (A + acts.length) → gv υ 8 1 = nI (R + rules.length) → gv υ 8 15 = nI C' → C ≤ C' → C' ≤ C + z → z ≤ 600 → (∀ q x, acts[q]? = some x → AcAt (A + q) x υ) → (∀ q r, rules[q]? = some r → RuAt C' (R + q) r υ) → Z 0 υ) : wX11_read σ Z := by
  refine openD eL hL e80 e81 e815 hC6 hCg hg (fun s h1 h2 h3 h4 h5 d82 d83 d84 d54 d55 d56 d57 hto => ?_)
  obtain ⟨_, hM6, hMe, hMl⟩ := mx_sp (ch := chT σ) (L := L) 600 0
  have hch : ∀ q, chT σ q ≠ -1 := fun q => and255 _
  have hpl : ∀ i, i ≤ mxF (chT σ) L 600 0 → tkp (chT σ) L i ≤ L := fun i hi => tkp_le hch i (fun k hk => hMl k (by omega) (by omega))
  have ecs : chT s = chT σ := funext (fun p => congrArg (fun z => z &&& 255) (h1 24 p (by decide) (by decide) (by decide) (by decide) (by omega) (by omega)))
  have e60 : gv s 6 0 = nI L := (h1 6 0 (by decide) (by decide) (by decide) (by decide) (by omega) (by omega)).trans eL
  have cht : ∀ {τ : St}, TpD s τ → chT τ = chT σ := fun h => (funext (fun p => congrArg (fun z => z &&& 255) (congrFun h.1 p))).trans ecs
  have hT : TkD s (tkK (chT σ) L) (tkp (chT σ) L) (tkV (chT σ) L) (tkN (chT σ) L) (mxF (chT σ) L 600 0) := by
    refine ⟨by omega, ?_, fun i hi => ⟨(hto i hi).1, (hto i hi).2.1⟩, OkT_lx, fun i hi hk => (hto i hi).2.2 hk, fun i τ Q hi hk ht hq => ?_, fun i hk => okN_lx hk⟩
    · rcases hMe with q | q
      · exact Or.inl (by omega)
      · exact Or.inr q
    · refine nameD (L := L) (p := tkp (chT σ) L i) (ht.2.2.2.1.trans e60) hL (by omega) (hpl i hi) ((congrFun ht.2.2.1 i).trans (hto i hi).2.1) ?_
      rw [cht ht]
      exact hq
  have P0 : PrD s (mxF (chT σ) L 600 0) 0 C s := ⟨⟨⟨rfl, rfl, rfl, rfl, rfl, d55⟩, d54, by omega⟩, d84, by omega, h4⟩
  have N0 : NmD nms s := fun a l hl => ⟨(hN a l hl).1, (h2 33 a).trans (hN a l hl).2⟩
  have toD : ∀ τ, Fx nms.length R C s τ → ∀ υ, (∀ a j, a ≠ 5 → (a = 6 → j ≠ 0) → (a = 8 → j ≠ 0 ∧ j ≠ 1 ∧ j ≠ 15) → gv υ a j = gv τ a j) → (∀ a j, gw υ a j = gw τ a j) → gn υ = gn τ → DvF A R C σ υ := by
    intro τ f υ u1 u2 u3
    refine ⟨fun a j q => ?_, fun a j q => ?_, ?_, ?_, ?_⟩
    · unfold xDv at q
      simp only [Bool.or_eq_false_iff, Bool.and_eq_false_iff, decide_eq_false_iff_not, beq_eq_false_iff_ne] at q
      rw [u1 a j (by omega) (by omega) (by omega), f.1 a j (xTx_no (by omega) (by omega) (by omega) (by omega) (by rw [hnl]; omega)), h1 a j (by omega) (by omega) (by omega) (by omega) (by omega) (by omega)]
    · rw [u2, f.2.1 a j (by rw [hnl]; exact q), h2]
    · rw [u3, f.2.2]; exact h5
    · rw [u3, f.2.2]; exact h3
    · rw [u3, f.2.2]; exact h4
  refine ⟨12, textD hT 11 0 nms R 0 C none s (by omega) P0 (by omega) N0 (by rw [hnl]; exact d82) d83 hR ⟨d56, d57⟩ (fun z acts rules lt' τ C' hx A1 m1 m2 m3 m4 m5 m6 m7 L1 f1 => ?_) (fun g k τ hx F1 f1 => ?_)⟩
  · have hzM := A1.2.2
    rw [hnl] at m1 m6
    intro σ4 e4
    refine ⟨fun c => absurd c z10, fun _ => ?_⟩
    have u1 : ∀ a j, (a = 6 → j ≠ 0) → gv σ4 a j = gv τ a j := fun a j a2 => by rw [e4, gv_pv, if_neg (by omega)]
    have u60 : gv σ4 6 0 = 0 := by rw [e4, gv_pv, if_pos ⟨rfl, rfl⟩]
    have uw : ∀ a j, gw σ4 a j = gw τ a j := fun a j => by rw [e4]; rfl
    have ug : gn σ4 = gn τ := by rw [e4]; rfl
    have o80 : gv σ4 8 0 = nI A := by
      rw [u1 8 0 (by decide), f1.1 8 0 (xTx_no (by decide) (by decide) (by omega) (by omega) (by omega)), h1 8 0 (by decide) (by decide) (by decide) (by decide) (by decide) (by omega)]
      exact e80
    have o81 : gv σ4 8 1 = nI R := by
      rw [u1 8 1 (by decide), f1.1 8 1 (xTx_no (by decide) (by decide) (by omega) (by omega) (by omega)), h1 8 1 (by decide) (by decide) (by decide) (by decide) (by decide) (by omega)]
      exact e81
    have o815 : gv σ4 8 15 = nI C := by
      rw [u1 8 15 (by decide), f1.1 8 15 (xTx_no (by decide) (by decide) (by omega) (by omega) (by omega)), h1 8 15 (by decide) (by decide) (by decide) (by decide) (by decide) (by omega)]
      exact e815
    rw [u1 5 6 (by omega)]
    rcases lt' with _ | ⟨k, j⟩
    · have L1 : gv τ 5 6 = 0 ∧ gv τ 5 7 = -1 := L1
      rw [L1.1]
      refine ⟨fun _ => ?_, fun c => absurd rfl c⟩
      rintro s1 rfl
      rintro s2 rfl
      rintro s3 rfl
      have t82 : gv σ4 8 2 = nI (A + acts.length) := (u1 8 2 (by decide)).trans m1
      have t83 : gv (pv σ4 8 0 (gv σ4 8 2)) 8 3 = nI (R + rules.length) := by
        rw [gv_pv, if_neg (by decide)]
        exact (u1 8 3 (by decide)).trans m2
      have t84 : gv (pv (pv σ4 8 0 (gv σ4 8 2)) 8 1 (gv (pv σ4 8 0 (gv σ4 8 2)) 8 3)) 8 4 = nI C' := by
        rw [gv_pv, if_neg (by decide), gv_pv, if_neg (by decide)]
        exact (u1 8 4 (by decide)).trans m3
      rw [t84, t83, t82]
      have v0 : ∀ a j, (a = 8 → j ≠ 0 ∧ j ≠ 1 ∧ j ≠ 15) → gv (pv (pv (pv σ4 8 0 (nI (A + acts.length))) 8 1 (nI (R + rules.length))) 8 15 (nI C')) a j = gv σ4 a j := fun a j h => by rw [gv_pv, if_neg (by omega), gv_pv, if_neg (by omega), gv_pv, if_neg (by omega)]
      unfold wX0_close_61
      rw [v0 5 7 (by omega), u1 5 7 (by omega), L1.2]
      intro σ9 e9
      have n9 : ∀ a j, (a = 5 → j ≠ 2) → gv σ9 a j = gv (pv (pv (pv σ4 8 0 (nI (A + acts.length))) 8 1 (nI (R + rules.length))) 8 15 (nI C')) a j := fun a j h => by rw [e9, gv_pv, if_neg (by omega)]
      have v1 : ∀ a j, (a = 5 → j ≠ 2) → (a = 8 → j ≠ 0 ∧ j ≠ 1 ∧ j ≠ 15) → gv σ9 a j = gv σ4 a j := fun a j a1 a2 => (n9 a j a1).trans (v0 a j a2)
      have v2 : ∀ a j, a ≠ 5 → (a = 6 → j ≠ 0) → (a = 8 → j ≠ 0 ∧ j ≠ 1 ∧ j ≠ 15) → gv σ9 a j = gv τ a j := fun a j a1 a2 a3 => (v1 a j (fun q => absurd q a1) a3).trans (u1 a j a2)
      have w9 : ∀ a j, gw σ9 a j = gw τ a j := fun a j => by rw [e9]; exact uw a j
      have g9 : gn σ9 = gn τ := by rw [e9]; exact ug
      rw [v1 5 6 (by omega) (by omega), u1 5 6 (by omega), L1.1]
      refine hok z acts rules _ C' hx (toD τ f1 _ v2 w9 g9) ((v1 6 0 (by omega) (by omega)).trans u60) ?_ ?_ ?_ ?_ m4 (by omega) (by omega) (fun q x hq => ?_) (fun q r hq => ?_)
      · rw [e9, gv_pv, if_pos ⟨rfl, rfl⟩]
      · rw [n9 8 0 (by omega), gv_pv, if_neg (by decide), gv_pv, if_neg (by decide), gv_pv, if_pos ⟨rfl, rfl⟩]
      · rw [n9 8 1 (by omega), gv_pv, if_neg (by decide), gv_pv, if_pos ⟨rfl, rfl⟩]
      · rw [n9 8 15 (by omega), gv_pv, if_pos ⟨rfl, rfl⟩]
      · obtain ⟨a1, a2, a3, a4⟩ := m6 q x hq
        exact ⟨a1, (w9 33 _).trans a2, (v2 34 _ (by decide) (by omega) (by omega)).trans a3, (v2 35 _ (by decide) (by omega) (by omega)).trans a4⟩
      · exact (m7 q r hq).kp (Nat.le_refl _) (fun a' b1 b2 => v2 a' _ (by omega) (by omega) (by omega)) (fun j' _ => v2 36 j' (by decide) (by omega) (by omega))
    · obtain ⟨a1, a2, a3, a4⟩ := L1
      have a1 : gv τ 5 6 = nI k := a1
      have a4 : gv τ 5 7 = nI (tkp (chT σ) L j) := a4
      rw [a1]
      refine ⟨fun c => absurd ((nI_eq (b := 0) (by have : k < 10 := a3; omega) (by decide)).mp c) a2, fun _ => ?_⟩
      unfold wX0_close_61
      rw [u1 5 7 (by omega), a4]
      intro σ9 e9
      have n9 : ∀ a j, (a = 5 → j ≠ 2) → gv σ9 a j = gv σ4 a j := fun a j h => by rw [e9, gv_pv, if_neg (by omega)]
      rw [n9 5 6 (by omega), u1 5 6 (by omega), a1]
      exact hlt z acts rules k j σ9 hx (toD τ f1 σ9 (fun a j b1 b2 _ => (n9 a j (fun q => absurd q b1)).trans (u1 a j b2)) (fun a j => by rw [e9]; exact uw a j) (by rw [e9]; exact ug)) ((n9 6 0 (by omega)).trans u60) (by rw [e9, gv_pv, if_pos ⟨rfl, rfl⟩]) ((n9 8 0 (by omega)).trans o80) ((n9 8 1 (by omega)).trans o81) ((n9 8 15 (by omega)).trans o815)
  · obtain ⟨a1, ⟨a2, a5, a6⟩, a3⟩ := F1
    intro σ4 e4
    have u1 : ∀ a j, (a = 6 → j ≠ 0) → gv σ4 a j = gv τ a j := fun a j a1 => by rw [e4, gv_pv, if_neg (by omega)]
    refine ⟨fun _ => ?_, fun c => absurd rfl c⟩
    rw [u1 5 4 (by omega), a2, nI_clamp (by omega), u1 26 k (by omega), a6]
    refine ⟨fun c => absurd c (nI_nlt (a := 600) (by omega) (by decide)), fun _ => ⟨vp_in_nI (by omega) (by decide), ?_⟩⟩
    unfold wX0_close_39
    intro σ9 e9
    have n9 : ∀ a j, (a = 5 → j ≠ 2) → gv σ9 a j = gv σ4 a j := fun a j h => by rw [e9, gv_pv, if_neg (by omega)]
    rw [n9 5 5 (by omega), u1 5 5 (by omega), a1]
    refine hno g k _ hx a3 (toD τ f1 _ (fun a j b1 b2 _ => (n9 a j (fun q => absurd q b1)).trans (u1 a j b2)) (fun a j => by rw [e9, e4]; rfl) (by rw [e9, e4]; rfl)) ((n9 6 0 (by omega)).trans (by rw [e4, gv_pv, if_pos ⟨rfl, rfl⟩])) (by rw [e9, gv_pv, if_pos ⟨rfl, rfl⟩]) ?_ ?_ ?_
    · rw [n9 8 0 (by omega), u1 8 0 (by omega), f1.1 8 0 (xTx_no (by decide) (by decide) (by omega) (by omega) (by omega)), h1 8 0 (by decide) (by decide) (by decide) (by decide) (by decide) (by omega)]
      exact e80
    · rw [n9 8 1 (by omega), u1 8 1 (by omega), f1.1 8 1 (xTx_no (by decide) (by decide) (by omega) (by omega) (by omega)), h1 8 1 (by decide) (by decide) (by decide) (by decide) (by decide) (by omega)]
      exact e81
    · rw [n9 8 15 (by omega), u1 8 15 (by omega), f1.1 8 15 (xTx_no (by decide) (by decide) (by omega) (by omega) (by omega)), h1 8 15 (by decide) (by decide) (by decide) (by decide) (by decide) (by omega)]
      exact e815
