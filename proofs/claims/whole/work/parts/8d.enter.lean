/-! The next hour's beginning in the class. -/
def xE (k a j : Nat) : Bool := (a == k && (j == 2 || j == 3)) || a == k + 2 || a == k + 3 || a == k + 4 || a == k + 5
theorem xE_no {k a j : Nat} (h0 : a = k → j ≠ 2 ∧ j ≠ 3) (h1 : a ≠ k + 2) (h2 : a ≠ k + 3) (h3 : a ≠ k + 4) (h4 : a ≠ k + 5) : xE k a j = false := by
  unfold xE
  by_cases h : a = k
  · have := h0 h
    simp [h, this.1, this.2]
  · simp [h, h1, h2, h3, h4]
theorem xE_out {k a j : Nat} (hk : 100 ≤ k) (h : a < 100) : xE k a j = false := xE_no (fun e => by omega) (by omega) (by omega) (by omega) (by omega)
def xO (k a j : Nat) : Bool := (a == k && j == 3) || a == k + 2 || a == k + 5
theorem xO_no {k a j : Nat} (h0 : a = k → j ≠ 3) (h1 : a ≠ k + 2) (h4 : a ≠ k + 5) : xO k a j = false := by
  unfold xO
  by_cases h : a = k
  · simp [h, h0 h]
  · simp [h, h1, h4]
theorem xO_E {k a j : Nat} (h : xE k a j = false) : xO k a j = false := by
  unfold xE at h
  unfold xO
  simp only [Bool.or_eq_false_iff, Bool.and_eq_false_iff] at h ⊢
  obtain ⟨⟨⟨⟨h1, h2⟩, h3⟩, h4⟩, h5⟩ := h
  exact ⟨⟨h1.elim Or.inl (fun q => Or.inr q.2), h2⟩, h5⟩
section EN
variable {σ : St} {Q : St → Prop} {k h n O : Nat}
/-- orders by the hour -/
theorem ordD (hk : Stg k) (hO : O ≤ 200) (eO : gv σ 4 4 = nI O) (hh : h < 240) (eH : gv σ k 2 = nI h) {w : Int32} (eW : gv σ k 4 = w) (hmi : ∀ j, j < O → ∃ m, m < 7 ∧ gv σ 21 j = nI m) {P : Nat → Prop} {R : Nat}
    (hQ : ∀ τ, Fm (xO k) σ τ → gv τ k 3 = nI R → (∀ m, P m → m < 7 → gv τ (k + 5) m = hdO (gr σ 21) (gr σ 22) (gr σ 23) w R m) → (∀ m, m < 7 → gv τ (k + 2) m = hdO (gr σ 21) (gr σ 22) (gr σ 23) w R (m + 7)) → Q τ) :
    ∀ (d g f : Nat) (τ : St), O - g ≤ d → O - g ≤ f → g ≤ O → cnO (gr σ 20) O h f g = R → Fm (xO k) σ τ → gv τ k 3 = nI g → (∀ m, P m → m < 7 → gv τ (k + 5) m = hdO (gr σ 21) (gr σ 22) (gr σ 23) w g m) → (∀ m, m < 7 → gv τ (k + 2) m = hdO (gr σ 21) (gr σ 22) (gr σ 23) w g (m + 7)) → wX10_enter_104 k Q (d + 1) τ := by
  have hk1 := (stg_ge hk).1
  intro d
  induction d with
  | zero =>
    intro g f τ h1 h2 h3 hR fr e3 hw hg
    have hgO : g = O := by omega
    have hRg : R = g := by
      rw [← hR]
      cases f with
      | zero => rfl
      | succ f => rw [cnO, if_neg (by omega)]
    subst hRg
    refine ⟨fun _ => hQ τ fr e3 hw hg, fun c => ?_⟩
    rw [fr.2 4 4 (xO_no (by omega) (by omega) (by omega)), eO, e3, hgO] at c
    exact absurd (Int32.le_refl _) c
  | succ d ih =>
    intro g f τ h1 h2 h3 hR fr e3 hw hg
    have lo : ∀ a b, a < 100 → gv τ a b = gv σ a b := fun a b ha => fr.2 a b (xO_no (by omega) (by omega) (by omega))
    have cg : (nI g).toNatClampNeg = g := nI_clamp (by omega)
    rw [wX10_enter_104, lo 4 4 (by decide), eO, e3]
    by_cases hgO : g = O
    · have hRg : R = g := by
        rw [← hR]
        cases f with
        | zero => rfl
        | succ f => rw [cnO, if_neg (by omega)]
      subst hRg
      exact ⟨fun _ => hQ τ fr e3 hw hg, fun c => absurd (by rw [hgO]; exact Int32.le_refl _) c⟩
    have hgl : g < O := by omega
    obtain ⟨f, rfl⟩ : ∃ f', f = f' + 1 := ⟨f - 1, by omega⟩
    have vg : vp_in (nI g) 200 := vp_in_nI (by omega) (by decide)
    refine ⟨fun c => absurd c (nI_ge hgl (by omega)), fun _ => ⟨vg, ?_⟩⟩
    have eHτ : gv τ k 2 = nI h := by rw [fr.2 k 2 (xO_no (fun _ => by decide) (by omega) (by omega))]; exact eH
    have eWτ : gv τ k 4 = w := by rw [fr.2 k 4 (xO_no (fun _ => by decide) (by omega) (by omega))]; exact eW
    rw [cg, lo 20 g (by decide), lo 22 g (by decide), eHτ, eWτ]
    refine ⟨fun c => ?_, fun c => ?_⟩
    · have hRg : R = g := by
        rw [← hR, cnO, if_neg (fun q => i32_le.mpr c q.2)]
      subst hRg
      exact hQ τ fr e3 hw hg
    have hR' : cnO (gr σ 20) O h f (g + 1) = R := by
      rw [cnO, if_pos ⟨hgl, i32_lt.mp c⟩] at hR
      exact hR
    have nxt : ∀ τ', Fm (xO k) σ τ' → gv τ' k 3 = nI g → (∀ m, P m → m < 7 → gv τ' (k + 5) m = hdO (gr σ 21) (gr σ 22) (gr σ 23) w (g + 1) m) → (∀ m, m < 7 → gv τ' (k + 2) m = hdO (gr σ 21) (gr σ 22) (gr σ 23) w (g + 1) (m + 7)) → wX10_enter_203 k Q (fun σ' => wX10_enter_104 k Q (d + 1) σ') τ' := by
      intro τ' fr' e3' hw' hg' σ1 e1
      rw [e3', nI_1] at e1
      rw [e1]
      refine ih (g + 1) f _ (by omega) (by omega) (by omega) hR' (fr'.tr (Fm_pv (by simp [xO]))) (by rw [gv_pv, if_pos ⟨rfl, rfl⟩]) (fun m hp hm => ?_) (fun m hm => ?_)
      · rw [gv_pv, if_neg (by omega)]
        exact hw' m hp hm
      · rw [gv_pv, if_neg (by omega)]
        exact hg' m hm
    refine ⟨fun c2 => ?_, fun c2 => ⟨vg, ?_⟩⟩
    · have hne : ∀ i, hdO (gr σ 21) (gr σ 22) (gr σ 23) w (g + 1) i = hdO (gr σ 21) (gr σ 22) (gr σ 23) w g i := fun i => by
        rw [hdO, if_neg (fun q => q.1 c2)]
      exact nxt τ fr e3 (fun m hp hm => by rw [hne]; exact hw m hp hm) (fun m hm => by rw [hne]; exact hg m hm)
    obtain ⟨mm, hm7, emm⟩ := hmi g hgl
    have cmm : (gr σ 21 g).toNatClampNeg = mm := by rw [show gr σ 21 g = nI mm from emm]; exact nI_clamp (by omega)
    have st : ∀ q : Nat, (q = k + 5 ∧ gv σ 22 g = 0) ∨ (q = k + 2 ∧ ¬ gv σ 22 g = 0) → wX10_enter_176 k Q (fun σ' => wX10_enter_104 k Q (d + 1) σ') q τ := by
      intro q hq
      unfold wX10_enter_176
      rw [e3, cg, lo 21 g (by decide), lo 23 g (by decide), emm]
      refine ⟨vg, vg, vp_in_nI hm7 (by decide), ?_⟩
      rw [nI_clamp (by omega)]
      rintro σ4 rfl
      have hx : xO k q mm = true := by rcases hq with ⟨rfl, _⟩ | ⟨rfl, _⟩ <;> simp [xO]
      refine nxt _ (fr.tr (Fm_pv hx)) (by rw [gv_pv, if_neg (by omega)]; exact e3) (fun m hp hm => ?_) (fun m hm => ?_)
      · rw [gv_pv, hdO, cmm]
        rcases hq with ⟨rfl, hz⟩ | ⟨rfl, hz⟩
        · rw [if_pos (show gr σ 22 g = 0 from hz)]
          by_cases hmm : m = mm
          · subst hmm
            rw [if_pos ⟨rfl, rfl⟩, if_pos ⟨c2, rfl⟩]
            rfl
          · rw [if_neg (fun q => hmm q.2), if_neg (fun q => hmm (by omega))]
            exact hw m hp hm
        · rw [if_neg (show ¬ gr σ 22 g = 0 from hz), if_neg (by omega), if_neg (by omega)]
          exact hw m hp hm
      · rw [gv_pv, hdO, cmm]
        rcases hq with ⟨rfl, hz⟩ | ⟨rfl, hz⟩
        · rw [if_pos (show gr σ 22 g = 0 from hz), if_neg (by omega), if_neg (by omega)]
          exact hg m hm
        · rw [if_neg (show ¬ gr σ 22 g = 0 from hz)]
          by_cases hmm : m = mm
          · subst hmm
            rw [if_pos ⟨rfl, rfl⟩, if_pos ⟨c2, rfl⟩]
            rfl
          · rw [if_neg (fun q => hmm q.2), if_neg (fun q => hmm (by omega))]
            exact hg m hm
    exact ⟨fun c3 => st _ (Or.inl ⟨rfl, c3⟩), fun c3 => st _ (Or.inr ⟨rfl, c3⟩)⟩
/-- levels and what comes in -/
theorem lev_loop (hk : Stg k) (hn : n ≤ 7) (eN : gv σ 2 4 = nI n) (hh : h < 240) (eH : gv σ k 2 = nI h)
    (hQ : ∀ τ, Fm (xE k) σ τ → gr τ k = gr σ k → gr τ (k + 2) = gr σ (k + 2) → gr τ (k + 5) = gr σ (k + 5) → (∀ m, m < n → gv τ (k + 3) m = gv σ (k + 3) m + (gv σ (k + 4) m - gv σ (k + 12) m) ∧ gv τ (k + 4) m = gv σ 19 (7 * h + m) + (if m = 0 then gv σ 2 5 else gv σ (k + 12) (m - 1))) → ∃ j, wX10_enter_104 k Q j τ) :
    ∀ (d m : Nat) (τ : St), m + d = n → Fm (xE k) σ τ → gr τ k = gr σ k → gr τ (k + 2) = gr σ (k + 2) → gr τ (k + 5) = gr σ (k + 5) → (∀ m', m' < m → gv τ (k + 3) m' = gv σ (k + 3) m' + (gv σ (k + 4) m' - gv σ (k + 12) m') ∧ gv τ (k + 4) m' = gv σ 19 (7 * h + m') + (if m' = 0 then gv σ 2 5 else gv σ (k + 12) (m' - 1))) → (∀ m', m ≤ m' → gv τ (k + 3) m' = gv σ (k + 3) m' ∧ gv τ (k + 4) m' = gv σ (k + 4) m') → wX10_enter_12 k Q (d + 1) (nI m) τ := by
  have hk1 := (stg_ge hk).1
  intro d
  induction d with
  | zero =>
    intro m τ hm fr f0 f2 f5 hl _
    refine ⟨fun _ => hQ τ fr f0 f2 f5 (fun m' hm' => hl m' (by omega)), fun c => ?_⟩
    rw [fr.2 2 4 (xE_out hk1 (by decide)), eN] at c
    exact absurd (nI_le (by omega) (by omega)) c
  | succ d ih =>
    intro m τ hm fr f0 f2 f5 hl hr
    have hmn : m < n := by omega
    have cm : (nI m).toNatClampNeg = m := nI_clamp (by omega)
    have vm : vp_in (nI m) 7 := vp_in_nI (by omega) (by decide)
    have lo : ∀ a b, a < 100 → gv τ a b = gv σ a b := fun a b ha => fr.2 a b (xE_out hk1 ha)
    have l12 : ∀ b, gv τ (k + 12) b = gv σ (k + 12) b := fun b => fr.2 _ _ (xE_no (by omega) (by omega) (by omega) (by omega) (by omega))
    rw [wX10_enter_12, lo 2 4 (by decide), eN, cm, l12, (hr m (Nat.le_refl _)).1, (hr m (Nat.le_refl _)).2]
    refine ⟨fun c => absurd c (nI_ge hmn (by omega)), fun _ => ⟨vm, vm, vm, vm, ?_⟩⟩
    rintro σ6 rfl
    obtain ⟨τ1, e1⟩ : ∃ τ1, τ1 = pv τ (k + 3) m (gv σ (k + 3) m + (gv σ (k + 4) m - gv σ (k + 12) m)) := ⟨_, rfl⟩
    rw [← e1]
    have r1 : ∀ a b, a ≠ k + 3 → gv τ1 a b = gv τ a b := fun a b ha => by rw [e1, gv_pv, if_neg (fun q => ha q.1)]
    have eH1 : gv τ1 k 2 = nI h := by
      rw [r1 k 2 (by omega)]
      show gr τ k 2 = nI h
      rw [f0]
      exact eH
    have hx : nI h * 7 + nI m = nI (7 * h + m) := by
      rw [show (7 : Int32) = nI 7 from rfl, pk_mul, nI_add, Nat.mul_comm h 7]
    intro x3 e3
    rw [eH1, hx] at e3
    subst e3
    have fin : ∀ y : Int32, y = (if m = 0 then gv σ 2 5 else gv σ (k + 12) (m - 1)) → wX10_enter_96 k Q (fun x2' σ' => wX10_enter_12 k Q (d + 1) x2' σ') (nI m) (nI m) (gv σ 19 (7 * h + m)) y τ1 := by
      intro y hy
      refine ⟨vm, ?_⟩
      rw [cm]
      rintro σ2 rfl x2 rfl
      rw [nI_1]
      have gne : ∀ a, a ≠ k + 3 → a ≠ k + 4 → gr (pv τ1 (k + 4) m (gv σ 19 (7 * h + m) + y)) a = gr τ a := fun a h3 h4 => by
        funext b
        show gv (pv τ1 (k + 4) m (gv σ 19 (7 * h + m) + y)) a b = gv τ a b
        rw [gv_pv, if_neg (fun q => h4 q.1), r1 a b h3]
      refine ih (m + 1) _ (by omega) ((fr.tr (by rw [e1]; exact Fm_pv (by simp [xE]))).tr (Fm_pv (by simp [xE]))) ((gne k (by omega) (by omega)).trans f0) ((gne _ (by omega) (by omega)).trans f2) ((gne _ (by omega) (by omega)).trans f5) (fun m' hm' => ?_) (fun m' hm' => ?_)
      · by_cases hmm : m' = m
        · subst hmm
          refine ⟨?_, ?_⟩
          · rw [gv_pv, if_neg (by omega), e1, gv_pv, if_pos ⟨rfl, rfl⟩]
          · rw [gv_pv, if_pos ⟨rfl, rfl⟩, hy]
        · obtain ⟨q1, q2⟩ := hl m' (by omega)
          refine ⟨?_, ?_⟩
          · rw [gv_pv, if_neg (by omega), e1, gv_pv, if_neg (by omega)]
            exact q1
          · rw [gv_pv, if_neg (by omega), r1 _ _ (by omega)]
            exact q2
      · obtain ⟨q1, q2⟩ := hr m' (by omega)
        refine ⟨?_, ?_⟩
        · rw [gv_pv, if_neg (by omega), e1, gv_pv, if_neg (by omega)]
          exact q1
        · rw [gv_pv, if_neg (by omega), r1 _ _ (by omega)]
          exact q2
    refine ⟨fun c => absurd c (nI_pos (by omega)), fun _ => ⟨fun c => absurd c (nI_ge (show 7 * h + m < 1680 by omega) (by decide)), fun _ => ⟨vp_in_nI (by omega) (by decide), ?_⟩⟩⟩
    rw [nI_clamp (by omega), r1 19 _ (by omega), lo 19 _ (by decide)]
    refine ⟨fun c => fin _ ?_, fun c => ?_⟩
    · have hm0 : m = 0 := (nI_eq (a := m) (b := 0) (by omega) (by decide)).mp c
      rw [if_pos hm0, r1 2 5 (by omega), lo 2 5 (by decide)]
    · have hm0 : ¬ m = 0 := fun q => c (by rw [q]; decide)
      have em : nI m - 1 = nI (m - 1) := pk_sub (a := m) (b := 1) (by omega)
      rw [em, nI_clamp (by omega)]
      refine ⟨vp_in_nI (by omega) (by decide), fin _ ?_⟩
      rw [if_neg hm0, r1 _ _ (by omega), l12]
end EN
