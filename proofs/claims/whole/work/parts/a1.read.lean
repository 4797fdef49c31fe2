/-! read: both, and the law. -/
theorem seg_kp {f g : Nat → Int32} {s C : Nat} {E : Ex} (h : seg f s E) (hs : s + E.length ≤ C) (hg : ∀ j, j < C → g j = f j) : seg g s E := by
  intro j c hj
  have hl : j < E.length := by
    rw [List.getElem?_eq_some_iff] at hj
    exact hj.1
  exact (hg (s + j) (by omega)).trans (h j c hj)
theorem rpE_kp {f g f' g' : Nat → Int32} {s C : Nat} {E : Ex} (h : rpE f g s E) (hs : s + E.length ≤ C) (hg : ∀ j, j < C → f' j = f j ∧ g' j = g j) : rpE f' g' s E := by
  intro j c hj
  have hl : j < E.length := by
    rw [List.getElem?_eq_some_iff] at hj
    exact hj.1
  obtain ⟨q1, q2⟩ := h j c hj
  exact ⟨(hg (s + j) (by omega)).1.trans q1, (hg (s + j) (by omega)).2.trans q2⟩
/-- an old rule is as it was -/
theorem rpD_kp {σ τ : St} {A A' C C' R i : Nat} {r : Ru} (h : rpD (gn σ) A C (gr σ 27) (gr σ 28) (gr σ 29) (gr σ 30) (gr σ 31) (gr σ 32) (gr σ 34) (gr σ 35) (gr σ 36) i r) (hi : i < R) (hA : A ≤ A') (hC : C ≤ C') (hg : C' ≤ gn τ) (h27 : ∀ a, 27 ≤ a → a ≤ 32 → gv τ a i = gv σ a i) (h34 : ∀ a j, a = 34 ∨ a = 35 → j < A → gv τ a j = gv σ a j) (h36 : ∀ j, j < C → gv τ 36 j = gv σ 36 j) : rpD (gn τ) A' C' (gr τ 27) (gr τ 28) (gr τ 29) (gr τ 30) (gr τ 31) (gr τ 32) (gr τ 34) (gr τ 35) (gr τ 36) i r := by
  obtain ⟨q1, q2, q3, q4, q5, q6, s, q7, q8, q9, q10, q11, q12, q13⟩ := h
  exact ⟨(h27 27 (by decide) (by decide)).trans q1, (h27 28 (by decide) (by decide)).trans q2, by omega, (h27 32 (by decide) (by decide)).trans q4, (h34 34 _ (Or.inl rfl) q3).trans q5, (h34 35 _ (Or.inr rfl) q3).trans q6, s, (h27 31 (by decide) (by decide)).trans q7, (h27 29 (by decide) (by decide)).trans q8, (h27 30 (by decide) (by decide)).trans q9, by omega, hg, seg_kp q12 (C := C) (by omega) h36, seg_kp q13 (C := C) (by omega) h36⟩
theorem rpM_kp {σ τ : St} {A A' NR NR' C C' R i : Nat} {r : Ru} (h : rpM A NR C (gr σ 58) (gr σ 59) (gr σ 60) (gr σ 61) (gr σ 62) (gr σ 63) (gr σ 64) (gr σ 56) (gr σ 57) (gr σ 65) (gr σ 66) (gr σ 67) (gr σ 68) (gr σ 69) (gr σ 70) (gr σ 71) i r) (hi : i < R) (hA : A ≤ A') (hN : NR ≤ NR') (hC : C ≤ C') (h58 : ∀ a, 58 ≤ a → a ≤ 64 → gv τ a i = gv σ a i) (h56 : ∀ a j, a = 56 ∨ a = 57 → j < A → gv τ a j = gv σ a j) (h65 : ∀ a j, 65 ≤ a → a ≤ 69 → j < NR → gv τ a j = gv σ a j) (h70 : ∀ a j, a = 70 ∨ a = 71 → j < C → gv τ a j = gv σ a j) : rpM A' NR' C' (gr τ 58) (gr τ 59) (gr τ 60) (gr τ 61) (gr τ 62) (gr τ 63) (gr τ 64) (gr τ 56) (gr τ 57) (gr τ 65) (gr τ 66) (gr τ 67) (gr τ 68) (gr τ 69) (gr τ 70) (gr τ 71) i r := by
  obtain ⟨q1, q2, q3, q4, q5, q6, ⟨s, q7, q8⟩, s', q9, q10, q11, q12⟩ := h
  have rr : ∀ (cs : List Rl) (s : Nat), s + cs.length ≤ NR → rpS σ C s cs → rpS τ C' s cs := fun cs s hs h => rpR_kp hC h70 cs s h (fun a j a1 a2 a3 a4 => h65 a j a1 a2 (by omega))
  refine ⟨(h58 59 (by decide) (by decide)).trans q1, (h58 60 (by decide) (by decide)).trans q2, by omega, (h58 58 (by decide) (by decide)).trans q4, (h56 56 _ (Or.inl rfl) q3).trans q5, (h56 57 _ (Or.inr rfl) q3).trans q6, ⟨s, (h58 61 (by decide) (by decide)).trans q7, ?_⟩, s', (h58 63 (by decide) (by decide)).trans q9, (h58 64 (by decide) (by decide)).trans q10, by omega, rr _ _ q11 q12⟩
  by_cases c : r.1 = true
  · rw [if_pos c] at q8 ⊢
    exact ⟨(h58 62 (by decide) (by decide)).trans q8.1, by omega, rpE_kp q8.2.2 (C := C) q8.2.1 (fun j hj => ⟨h70 70 j (Or.inl rfl) hj, h70 71 j (Or.inr rfl) hj⟩)⟩
  · rw [if_neg c] at q8 ⊢
    exact ⟨(h58 62 (by decide) (by decide)).trans q8.1, by omega, rr _ _ q8.2.1 q8.2.2⟩
theorem both_read {σ : St} {Z : Int32 → St → Prop} (hI : Inv σ) (hZ : ∀ r σ1, (∀ Z2 : Int32 → St → Prop, (∀ σ2, Inv σ2 → Z2 r σ2) → wX12_read σ1 Z2) → Z r σ1) : wX11_read σ Z := by
  obtain ⟨Ls, hL⟩ := Inv_iff.mp hI
  obtain ⟨t1, t2, L, hL2, eL⟩ := hL.1
  obtain ⟨hok, h30, e81, e1123, A, C, NR, CR, nm, hA, e80, e1118, e815, e1132, e1138, hCA, hCg, hg7, hNA, hRA, hnm, hrp⟩ := hL.2.2.2.2.2.2.2.2.2.2.2.2.1
  have h54 : gw σ 54 = s0k := hL.2.2.2.2.2.2.2.2.2.2.2.2.2.1
  obtain ⟨nms, hnms⟩ : ∃ nms : List (List Nat), nms = (List.range A).map nm := ⟨_, rfl⟩
  have hnl : nms.length = A := by rw [hnms, List.length_map, List.length_range]
  have hget : ∀ a l, nms[a]? = some l → a < A ∧ l = nm a := by
    intro a l h
    rw [hnms, List.getElem?_map, Option.map_eq_some_iff] at h
    obtain ⟨x, h1, h2⟩ := h
    rw [List.getElem?_eq_some_iff] at h1
    obtain ⟨h3, h4⟩ := h1
    rw [List.length_range] at h3
    rw [List.getElem_range] at h4
    exact ⟨h3, by rw [← h2, h4]⟩
  have hND : NmD nms σ := fun a l h => by
    obtain ⟨h1, h2⟩ := hget a l h
    rw [h2]
    exact ⟨(hnm a h1).1, (hnm a h1).2.1⟩
  have hNM : NmM nms σ := fun a l h => by
    obtain ⟨h1, h2⟩ := hget a l h
    rw [h2]
    exact ⟨(hnm a h1).1, (hnm a h1).2.2.1⟩
  have eLM : gv σ 11 2 = nI L := t1.symm.trans eL
  have ref : ∀ (υ : St) (Q : Int32 → St → Prop), DvF A Ls.length C σ υ →
      (∀ g k ω, txP (tkK (chT σ) L) (tkV (chT σ) L) (tkN (chT σ) L) 11 nms Ls.length 0 none = .no g k → RfF A Ls.length NR CR υ ω → gv ω 11 2 = 0 → gv ω 11 17 = nI (tkp (chT σ) L k) → gv ω 11 18 = nI A → gv ω 11 23 = nI Ls.length → gv ω 11 32 = nI NR → gv ω 11 38 = nI CR → gv ω 11 66 = gv υ 11 66 → Q (nI g) ω) →
      (∀ z acts rules k j ω, txP (tkK (chT σ) L) (tkV (chT σ) L) (tkN (chT σ) L) 11 nms Ls.length 0 none = .ok z (acts, rules, some (k, j)) → RfF A Ls.length NR CR υ ω → gv ω 11 2 = 0 → gv ω 11 17 = nI (tkp (chT σ) L j) → gv ω 11 18 = nI A → gv ω 11 23 = nI Ls.length → gv ω 11 32 = nI NR → gv ω 11 38 = nI CR → gv ω 11 66 = gv υ 11 66 → Q (nI k) ω) →
      (∀ z acts rules ω C' NR', txP (tkK (chT σ) L) (tkV (chT σ) L) (tkN (chT σ) L) 11 nms Ls.length 0 none = .ok z (acts, rules, none) → RfF A Ls.length NR CR υ ω → gv ω 11 2 = 0 → gv ω 11 17 = -1 → gv ω 11 18 = nI (A + acts.length) → gv ω 11 23 = nI (Ls.length + rules.length) → gv ω 11 32 = nI NR' → gv ω 11 38 = nI C' → gv ω 11 66 = -1 → NR ≤ NR' → NR' ≤ NR + z → CR ≤ C' → C' ≤ CR + z → z ≤ 600 → (∀ q x, acts[q]? = some x → AcMt (A + q) x ω) → (∀ q r, rules[q]? = some r → RuMt NR' C' (Ls.length + q) r ω) → Q 0 ω) → wX12_read υ Q := by
    intro υ Q dv
    have v11 : ∀ j, gv υ 11 j = gv σ 11 j := fun j => dv.1 11 j (by simp [xDv])
    refine readM (ch := chT σ) (fun q => and255 _) ((v11 2).trans eLM) hL2 (fun q hq => ?_) ?_ ((v11 18).trans e1118) ((v11 23).trans e1123) ((v11 32).trans e1132) ((v11 38).trans e1138) hA h30 (by omega) (by omega) hnl (fun a l h => ⟨(hNM a l h).1, ?_⟩)
    · rw [dv.1 48 q (by simp [xDv])]
      show gr σ 48 q &&& 255 = chT σ q
      rw [← t2]
      rfl
    · rw [← h54]
      exact funext (fun j => dv.2.1 54 j (by omega))
    · rw [dv.2.1 55 a (by omega)]
      exact (hNM a l h).2
  have safe : ∀ υ ω, DvF A Ls.length C σ υ → RfF A Ls.length NR CR υ ω → (∀ a j, xRd a j = false → gv ω a j = gv σ a j) ∧ gw ω 54 = gw σ 54 := by
    intro υ ω dv rf
    refine ⟨fun a j q => ?_, funext (fun j => (rf.2.1 54 j (by decide) (by omega)).trans (dv.2.1 54 j (by omega)))⟩
    unfold xRd at q
    simp only [Bool.or_eq_false_iff, Bool.and_eq_false_iff, decide_eq_false_iff_not, beq_eq_false_iff_ne] at q
    have h1 : xRf A Ls.length NR CR a j = false := by
      unfold xRf
      simp only [Bool.or_eq_false_iff, Bool.and_eq_false_iff, decide_eq_false_iff_not, beq_eq_false_iff_ne]
      omega
    have h2 : xDv A Ls.length C a j = false := by
      unfold xDv
      simp only [Bool.or_eq_false_iff, Bool.and_eq_false_iff, decide_eq_false_iff_not, beq_eq_false_iff_ne]
      omega
    rw [rf.1 a j h1, dv.1 a j h2]
  have dcell : ∀ υ ω, RfF A Ls.length NR CR υ ω → ∀ a j, a ≤ 36 → a ≠ 11 → gv ω a j = gv υ a j := fun υ ω rf a j h1 h2 => rf.1 a j (by
    unfold xRf
    simp only [Bool.or_eq_false_iff, Bool.and_eq_false_iff, decide_eq_false_iff_not, beq_eq_false_iff_ne]
    omega)
  have old : ∀ υ ω, DvF A Ls.length C σ υ → RfF A Ls.length NR CR υ ω → ∀ A' C' NR' CR', A ≤ A' → C ≤ C' → C' ≤ gn ω → NR ≤ NR' → CR ≤ CR' → ∀ i r, Ls[i]? = some r → rpD (gn ω) A' C' (gr ω 27) (gr ω 28) (gr ω 29) (gr ω 30) (gr ω 31) (gr ω 32) (gr ω 34) (gr ω 35) (gr ω 36) i r ∧ rpM A' NR' CR' (gr ω 58) (gr ω 59) (gr ω 60) (gr ω 61) (gr ω 62) (gr ω 63) (gr ω 64) (gr ω 56) (gr ω 57) (gr ω 65) (gr ω 66) (gr ω 67) (gr ω 68) (gr ω 69) (gr ω 70) (gr ω 71) i r := by
    intro υ ω dv rf A' C' NR' CR' hA' hC' hgn hNR' hCR' i r hr
    have hi : i < Ls.length := by
      rw [List.getElem?_eq_some_iff] at hr
      exact hr.1
    have xd : ∀ a j, (27 ≤ a → a ≤ 32 → j < Ls.length) → (a = 34 ∨ a = 35 → j < A) → (a = 36 → j < C) → 27 ≤ a → a ≠ 33 ∧ a ≤ 100 → xDv A Ls.length C a j = false := fun a j h1 h2 h3 h4 h5 => by
      unfold xDv
      simp only [Bool.or_eq_false_iff, Bool.and_eq_false_iff, decide_eq_false_iff_not, beq_eq_false_iff_ne]
      omega
    have xr : ∀ a j, 56 ≤ a → a ≤ 71 → (a = 56 ∨ a = 57 → j < A) → (58 ≤ a → a ≤ 64 → j < Ls.length) → (65 ≤ a → a ≤ 69 → j < NR) → (a = 70 ∨ a = 71 → j < CR) → gv ω a j = gv σ a j := fun a j h1 h2 h3 h4 h5 h6 => by
      have q1 : xRf A Ls.length NR CR a j = false := by
        unfold xRf
        simp only [Bool.or_eq_false_iff, Bool.and_eq_false_iff, decide_eq_false_iff_not, beq_eq_false_iff_ne]
        omega
      rw [rf.1 a j q1, dv.1 a j (xd a j (by omega) (by omega) (by omega) (by omega) (by omega))]
    obtain ⟨p1, p2⟩ := hrp i r hr
    refine ⟨rpD_kp (R := Ls.length) p1 hi hA' hC' hgn (fun a h1 h2 => ?_) (fun a j h1 h2 => ?_) (fun j hj => ?_), rpM_kp (R := Ls.length) p2 hi hA' hNR' hCR' (fun a h1 h2 => xr a i (by omega) (by omega) (by omega) (by omega) (by omega) (by omega)) (fun a j h1 h2 => xr a j (by omega) (by omega) (by omega) (by omega) (by omega) (by omega)) (fun a j h1 h2 h3 => xr a j (by omega) (by omega) (by omega) (by omega) (by omega) (by omega)) (fun a j h1 h2 => xr a j (by omega) (by omega) (by omega) (by omega) (by omega) (by omega))⟩
    · rw [dcell υ ω rf a i (by omega) (by omega), dv.1 a i (xd a i (by omega) (by omega) (by omega) (by omega) (by omega))]
    · rw [dcell υ ω rf a j (by omega) (by omega), dv.1 a j (xd a j (by omega) (by omega) (by omega) (by omega) (by omega))]
    · rw [dcell υ ω rf 36 j (by decide) (by decide), dv.1 36 j (xd 36 j (by omega) (by omega) (by omega) (by omega) (by omega))]
  have oldA : ∀ υ ω, DvF A Ls.length C σ υ → RfF A Ls.length NR CR υ ω → ∀ a, a < A → okN (nm a) ∧ gw ω 33 a = pkN 32 (nm a) ∧ gw ω 55 a = pkN 27 (nm a) ∧ gv ω 34 a = gv ω 56 a ∧ gv ω 35 a = gv ω 57 a := by
    intro υ ω dv rf a ha
    obtain ⟨q1, q2, q3, q4, q5⟩ := hnm a ha
    have xd : ∀ b, (b = 34 ∨ b = 35) → gv ω b a = gv σ b a := fun b hb => by
      rw [dcell υ ω rf b a (by omega) (by omega), dv.1 b a (by
        unfold xDv
        simp only [Bool.or_eq_false_iff, Bool.and_eq_false_iff, decide_eq_false_iff_not, beq_eq_false_iff_ne]
        omega)]
    have xr : ∀ b, (b = 56 ∨ b = 57) → gv ω b a = gv σ b a := fun b hb => by
      rw [rf.1 b a (by
        unfold xRf
        simp only [Bool.or_eq_false_iff, Bool.and_eq_false_iff, decide_eq_false_iff_not, beq_eq_false_iff_ne]
        omega), dv.1 b a (by
        unfold xDv
        simp only [Bool.or_eq_false_iff, Bool.and_eq_false_iff, decide_eq_false_iff_not, beq_eq_false_iff_ne]
        omega)]
    refine ⟨q1, ?_, ?_, ?_, ?_⟩
    · rw [rf.2.1 33 a (by decide) (by omega), dv.2.1 33 a (fun _ => ha)]
      exact q2
    · rw [rf.2.1 55 a (by decide) (fun _ => ha), dv.2.1 55 a (by omega)]
      exact q3
    · rw [xd 34 (Or.inl rfl), xr 56 (Or.inl rfl)]
      exact q4
    · rw [xd 35 (Or.inr rfl), xr 57 (Or.inr rfl)]
      exact q5
  have same : ∀ υ ω, DvF A Ls.length C σ υ → RfF A Ls.length NR CR υ ω → gv υ 6 0 = 0 → gv ω 11 2 = 0 → gv υ 5 2 = gv ω 11 17 → gv υ 8 0 = nI A → gv υ 8 1 = nI Ls.length → gv υ 8 15 = nI C → gv ω 11 18 = nI A → gv ω 11 23 = nI Ls.length → gv ω 11 32 = nI NR → gv ω 11 38 = nI CR → gv ω 11 66 = gv υ 11 66 → Inv ω := by
    intro υ ω dv rf z6 z2 zp w80 w81 w815 y18 y23 y32 y38 y66
    obtain ⟨s1, s2⟩ := safe υ ω dv rf
    have d := dcell υ ω rf
    have gg : gn ω = gn υ := rf.2.2
    refine Inv_iff.mpr ⟨Ls, InvRd hL s1 s2 ((d 6 0 (by decide) (by decide)).trans z6) z2 ((d 5 2 (by decide) (by decide)).trans zp) ?_ ⟨hok, h30, (d 8 1 (by decide) (by decide)).trans w81, y23, A, C, NR, CR, nm, hA, (d 8 0 (by decide) (by decide)).trans w80, y18, (d 8 15 (by decide) (by decide)).trans w815, y32, y38, hCA, by rw [gg]; have := dv.2.2.2.1; omega, by rw [gg]; exact dv.2.2.2.2, hNA, hRA, oldA υ ω dv rf, fun i r hr => old υ ω dv rf A C NR CR (Nat.le_refl _) (Nat.le_refl _) (by rw [gg]; have := dv.2.2.2.1; omega) (Nat.le_refl _) (Nat.le_refl _) i r hr⟩⟩
    rw [y66, dv.1 11 66 (by simp [xDv])]
    exact hL.2.2.2.2.2.2.2.2.2.2.2.1
  refine readD (nms := nms) eL hL2 e80 e81 e815 hA h30 (by omega) hCg hg7 hnl hND (fun g k υ hx hg dv z6 zp w80 w81 w815 => ?_) (fun z acts rules k j υ hx dv z6 zp w80 w81 w815 => ?_) (fun z acts rules υ C' hx dv z6 zp w80 w81 w815 hC1 hC2 hz hac hru => ?_)
  · refine hZ _ _ (fun Z2 h2 => ref υ Z2 dv (fun g' k' ω hx' rf z2 y17 y18 y23 y32 y38 y66 => ?_) (fun z acts rules k' j ω hx' => ?_) (fun z acts rules ω C' NR' hx' => ?_))
    · rw [hx] at hx'
      cases hx'
      exact h2 ω (same υ ω dv rf z6 z2 (zp.trans y17.symm) w80 w81 w815 y18 y23 y32 y38 y66)
    · rw [hx] at hx'
      cases hx'
    · rw [hx] at hx'
      cases hx'
  · refine hZ _ _ (fun Z2 h2 => ref υ Z2 dv (fun g' k' ω hx' => ?_) (fun z' acts' rules' k' j' ω hx' rf z2 y17 y18 y23 y32 y38 y66 => ?_) (fun z acts rules ω C' NR' hx' => ?_))
    · rw [hx] at hx'
      cases hx'
    · rw [hx] at hx'
      cases hx'
      exact h2 ω (same υ ω dv rf z6 z2 (zp.trans y17.symm) w80 w81 w815 y18 y23 y32 y38 y66)
    · rw [hx] at hx'
      cases hx'
  · refine hZ _ _ (fun Z2 h2 => ref υ Z2 dv (fun g' k' ω hx' => ?_) (fun z' acts' rules' k' j' ω hx' => ?_) (fun z' acts' rules' ω CR' NR' hx' rf z2 y17 y18 y23 y32 y38 y66 hN1 hN2 hR1 hR2 hz' hacM hruM => ?_))
    · rw [hx] at hx'
      cases hx'
    · rw [hx] at hx'
      cases hx'
    · rw [hx] at hx'
      cases hx'
      obtain ⟨x1, x2, x3, x4, x5⟩ := tx_ok OkT_lx 11 nms Ls.length 0 none z acts rules none hx h30 (by omega)
      rw [hnl] at x1 x4
      obtain ⟨s1, s2⟩ := safe υ ω dv rf
      have d := dcell υ ω rf
      have gg : gn ω = gn υ := rf.2.2
      have hgn := dv.2.2.2.1
      have grow : ∀ X X' : Nat, X ≤ 600 * A → X' ≤ X + z → X' ≤ 600 * (A + acts.length) := by
        intro X X' h1 h3
        cases hac' : acts with
        | nil =>
          have := (x3 hac').2
          rw [List.length_nil]
          omega
        | cons a t =>
          rw [List.length_cons]
          omega
      have newA : ∀ q, q < acts.length → ∃ x, acts[q]? = some x := fun q hq => ⟨_, List.getElem?_eq_getElem hq⟩
      obtain ⟨nm', hnm'⟩ : ∃ nm' : Nat → List Nat, nm' = fun a => if a < A then nm a else (acts.getD (a - A) ([], 0, 0)).1 := ⟨_, rfl⟩
      have nmN : ∀ q x, acts[q]? = some x → nm' (A + q) = x.1 := by
        intro q x hq
        rw [hnm']
        show (if A + q < A then nm (A + q) else (acts.getD (A + q - A) ([], 0, 0)).1) = x.1
        rw [if_neg (by omega), show A + q - A = q by omega, List.getD_eq_getElem?_getD, hq]
        rfl
      have hN : ∀ i r, (Ls ++ rules)[i]? = some r → rpD (gn ω) (A + acts.length) C' (gr ω 27) (gr ω 28) (gr ω 29) (gr ω 30) (gr ω 31) (gr ω 32) (gr ω 34) (gr ω 35) (gr ω 36) i r ∧ rpM (A + acts.length) NR' CR' (gr ω 58) (gr ω 59) (gr ω 60) (gr ω 61) (gr ω 62) (gr ω 63) (gr ω 64) (gr ω 56) (gr ω 57) (gr ω 65) (gr ω 66) (gr ω 67) (gr ω 68) (gr ω 69) (gr ω 70) (gr ω 71) i r := by
        intro i r hr
        by_cases hi : i < Ls.length
        · rw [List.getElem?_append_left hi] at hr
          exact old υ ω dv rf _ _ _ _ (by omega) hC1 (by rw [gg]; omega) hN1 hR1 i r hr
        · rw [List.getElem?_append_right (by omega)] at hr
          obtain ⟨q, hq⟩ : ∃ q, i = Ls.length + q := ⟨i - Ls.length, by omega⟩
          rw [hq, show Ls.length + q - Ls.length = q by omega] at hr
          rw [hq]
          obtain ⟨aq, x, ha1, ha2, ha3, ha4⟩ := x4 r (List.mem_of_getElem? hr)
          have haq : aq < acts.length := by
            rw [List.getElem?_eq_some_iff] at ha1
            exact ha1.1
          obtain ⟨c1, c2, c3, c4⟩ := hac aq x ha1
          obtain ⟨b1, b2, b3, b4⟩ := hacM aq x ha1
          obtain ⟨q1, q2, q3, s, q4, q5, q6, q7, q8, q9⟩ := hru q r hr
          obtain ⟨p1, p2, p3, p4, s', p5, p6, p7, p8⟩ := hruM q r hr
          have dd : ∀ a j, 27 ≤ a → a ≤ 36 → gv ω a j = gv υ a j := fun a j h1 h2 => d a j h2 (by omega)
          refine ⟨⟨(dd 27 _ (by decide) (by decide)).trans q1, (dd 28 _ (by decide) (by decide)).trans q2, by omega, (dd 32 _ (by decide) (by decide)).trans q3, ?_, ?_, s, (dd 31 _ (by decide) (by decide)).trans q4, (dd 29 _ (by decide) (by decide)).trans q5, (dd 30 _ (by decide) (by decide)).trans q6, q7, by rw [gg]; omega, fun j c hj => (dd 36 _ (by decide) (by decide)).trans (q8 j c hj), fun j c hj => (dd 36 _ (by decide) (by decide)).trans (q9 j c hj)⟩, ⟨p1, p2, by omega, p3, ?_, ?_, p4, s', p5, p6, p7, p8⟩⟩
          · show gv ω 34 r.2.2.1 = r.2.2.2.1
            rw [ha2, dd 34 _ (by decide) (by decide), c3, ha3]
          · show gv ω 35 r.2.2.1 = r.2.2.2.2.1
            rw [ha2, dd 35 _ (by decide) (by decide), c4, ha4]
          · show gv ω 56 r.2.2.1 = r.2.2.2.1
            rw [ha2, b3, ha3]
          · show gv ω 57 r.2.2.1 = r.2.2.2.2.1
            rw [ha2, b4, ha4]
      refine h2 ω (Inv_iff.mpr ⟨Ls ++ rules, InvRd hL s1 s2 ((d 6 0 (by decide) (by decide)).trans z6) z2 ((d 5 2 (by decide) (by decide)).trans (zp.trans y17.symm)) (Or.inl y66) ⟨fun r hr => ?_, by rw [List.length_append]; exact x2, by rw [List.length_append]; exact (d 8 1 (by decide) (by decide)).trans w81, by rw [List.length_append]; exact y23, A + acts.length, C', NR', CR', nm', x1, (d 8 0 (by decide) (by decide)).trans w80, y18, (d 8 15 (by decide) (by decide)).trans w815, y32, y38, grow C C' hCA hC2, by rw [gg]; omega, by rw [gg]; exact dv.2.2.2.2, grow NR NR' hNA hN2, grow CR CR' hRA hR2, fun a ha => ?_, hN⟩⟩)
      · rw [List.mem_append] at hr
        rcases hr with hr | hr
        · exact hok r hr
        · exact (x5 rfl).2 r hr
      · by_cases z3 : a < A
        · have e : nm' a = nm a := by rw [hnm']; exact if_pos z3
          rw [e]
          exact oldA υ ω dv rf a z3
        · obtain ⟨q, hq⟩ : ∃ q, a = A + q := ⟨a - A, by omega⟩
          subst hq
          obtain ⟨x, hx'⟩ := newA q (by omega)
          rw [nmN q x hx']
          obtain ⟨c1, c2, c3, c4⟩ := hac q x hx'
          obtain ⟨b1, b2, b3, b4⟩ := hacM q x hx'
          refine ⟨c1, ?_, b2, ?_, ?_⟩
          · rw [rf.2.1 33 _ (by decide) (by omega)]
            exact c2
          · show gv ω 34 (A + q) = gv ω 56 (A + q)
            rw [d 34 _ (by decide) (by decide), c3, b3]
          · show gv ω 35 (A + q) = gv ω 57 (A + q)
            rw [d 35 _ (by decide) (by decide), c4, b4]
