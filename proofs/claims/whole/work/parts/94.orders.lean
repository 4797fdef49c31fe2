/-! Orders that matter. -/
def slO (mi ga : Nat → Int32) (j : Nat) : Nat := (mi j).toNatClampNeg + (if ga j = 0 then 0 else 7)
section HO
variable {mi ga v hr : Nat → Int32} {O : Nat}
theorem hdO_s {w : Int32} {n i : Nat} : hdO mi ga v w (n + 1) i = if nI n ≠ w ∧ slO mi ga n = i then v n else hdO mi ga v w n i := rfl
theorem nI_ne {a b : Nat} (ha : a < 2 ^ 31) (hb : b < 2 ^ 31) (h : a ≠ b) : nI a ≠ nI b := fun e => h ((nI_eq ha hb).mp e)
/-- up to order j nothing is otherwise without it -/
theorem hdO_lt {j i : Nat} (hj : j < 1000) : ∀ g, g ≤ j → hdO mi ga v (nI j) g i = hdO mi ga v (-1) g i
  | 0, _ => rfl
  | g + 1, hg => by
    rw [hdO_s, hdO_s, hdO_lt hj g (by omega)]
    have h1 : nI g ≠ nI j := nI_ne (by omega) (by omega) (by omega)
    have h2 : nI g ≠ -1 := nI_neg1 (by omega)
    by_cases q : slO mi ga g = i
    · rw [if_pos ⟨h1, q⟩, if_pos ⟨h2, q⟩]
    · rw [if_neg (fun c => q c.2), if_neg (fun c => q c.2)]
/-- of other slots nothing is otherwise -/
theorem hdO_sl {j i : Nat} (hj : j < 1000) (hi : slO mi ga j ≠ i) : ∀ g, g ≤ 1000 → hdO mi ga v (nI j) g i = hdO mi ga v (-1) g i
  | 0, _ => rfl
  | g + 1, hg => by
    rw [hdO_s, hdO_s, hdO_sl hj hi g (by omega)]
    by_cases e : g = j
    · subst e
      rw [if_neg (fun c => hi c.2), if_neg (fun c => hi c.2)]
    · have h1 : nI g ≠ nI j := nI_ne (by omega) (by omega) e
      have h2 : nI g ≠ -1 := nI_neg1 (by omega)
      by_cases q : slO mi ga g = i
      · rw [if_pos ⟨h1, q⟩, if_pos ⟨h2, q⟩]
      · rw [if_neg (fun c => q c.2), if_neg (fun c => q c.2)]
/-- nor if it set what was set -/
theorem hdO_set {j : Nat} (hj : j < 1000) (hv : hdO mi ga v (-1) j (slO mi ga j) = v j) : ∀ g i, g ≤ 1000 → hdO mi ga v (nI j) g i = hdO mi ga v (-1) g i
  | 0, _, _ => rfl
  | g + 1, i, hg => by
    by_cases hi : slO mi ga j = i
    · subst hi
      rw [hdO_s, hdO_s, hdO_set hj hv g _ (by omega)]
      by_cases e : g = j
      · subst e
        rw [if_neg (fun c => c.1 rfl), if_pos ⟨nI_neg1 (by omega), rfl⟩, hv]
      · have h1 : nI g ≠ nI j := nI_ne (by omega) (by omega) e
        have h2 : nI g ≠ -1 := nI_neg1 (by omega)
        by_cases q : slO mi ga g = slO mi ga j
        · rw [if_pos ⟨h1, q⟩, if_pos ⟨h2, q⟩]
        · rw [if_neg (fun c => q c.2), if_neg (fun c => q c.2)]
    · exact hdO_sl hj hi _ hg
/-- nor behind a later one of its slot -/
theorem hdO_ov {j k i : Nat} (hj : j < k) (hk : k < 1000) (hs : slO mi ga k = slO mi ga j) : ∀ g, k < g → g ≤ 1000 → hdO mi ga v (nI j) g i = hdO mi ga v (-1) g i
  | 0, h, _ => absurd h (by omega)
  | g + 1, h, hg => by
    by_cases hi : slO mi ga j = i
    · have h1 : nI g ≠ nI j := nI_ne (by omega) (by omega) (by omega)
      have h2 : nI g ≠ -1 := nI_neg1 (by omega)
      rw [hdO_s, hdO_s]
      by_cases e : g = k
      · have q : slO mi ga g = i := by rw [e, hs]; exact hi
        rw [if_pos ⟨h1, q⟩, if_pos ⟨h2, q⟩]
      · rw [hdO_ov hj hk hs g (by omega) (by omega)]
        by_cases q : slO mi ga g = i
        · rw [if_pos ⟨h1, q⟩, if_pos ⟨h2, q⟩]
        · rw [if_neg (fun c => q c.2), if_neg (fun c => q c.2)]
    · exact hdO_sl (by omega) hi _ hg
theorem cnO_sp {h : Nat} : ∀ (f g : Nat), O - g ≤ f → g ≤ O → g ≤ cnO hr O h f g ∧ (∀ k, g ≤ k → k < cnO hr O h f g → hr k ≤ nI h) ∧ (cnO hr O h f g < O → ¬ hr (cnO hr O h f g) ≤ nI h)
  | 0, g, hf, hg => by
    have e : cnO hr O h 0 g = g := rfl
    rw [e]
    exact ⟨Nat.le_refl _, fun k h1 h2 => absurd h1 (by omega), fun h1 => absurd h1 (by omega)⟩
  | f + 1, g, hf, hg => by
    rw [cnO]
    by_cases q : g < O ∧ hr g ≤ nI h
    · rw [if_pos q]
      obtain ⟨i1, i2, i3⟩ := cnO_sp (h := h) f (g + 1) (by omega) q.1
      refine ⟨by omega, fun k h1 h2 => ?_, i3⟩
      by_cases e : k = g
      · rw [e]; exact q.2
      · exact i2 k (by omega) h2
    · rw [if_neg q]
      exact ⟨Nat.le_refl _, fun k h1 h2 => absurd h1 (by omega), fun h1 c => q ⟨h1, c⟩⟩
theorem gvT_sp : ∀ (t : Nat), t ≤ 1000 → (∀ k, k < gvT hr O t → ∃ h, h < t ∧ hr k ≤ nI h) ∧ ∀ h, h < t → gvT hr O (h + 1) < O → ¬ hr (gvT hr O (h + 1)) ≤ nI h
  | 0, _ => ⟨fun k h => absurd h (Nat.not_lt_zero _), fun h hh => absurd hh (Nat.not_lt_zero _)⟩
  | t + 1, ht => by
    obtain ⟨i1, i2⟩ := gvT_sp t (by omega)
    obtain ⟨c1, c2, c3⟩ := cnO_sp (hr := hr) (O := O) (h := t) O (gvT hr O t) (by omega) (gvT_le t)
    rw [← gvT_succ] at c1 c2 c3
    refine ⟨fun k hk => ?_, fun h hh => ?_⟩
    · by_cases q : k < gvT hr O t
      · obtain ⟨h, h1, h2⟩ := i1 k q
        exact ⟨h, by omega, h2⟩
      · exact ⟨t, by omega, c2 k (by omega) hk⟩
    · by_cases q : h = t
      · rw [q]; exact c3
      · exact i2 h (by omega)
/-- ahead of its hour an order isn't given -/
theorem gvT_bf {j hj t : Nat} (eh : hr j = nI hj) (hh : hj < 1000) (ht : t ≤ hj) : gvT hr O t ≤ j := by
  refine Nat.not_lt.mp (fun q => ?_)
  obtain ⟨h, h1, h2⟩ := (gvT_sp t (by omega)).1 j q
  rw [eh] at h2
  have := (nI_leI (by omega) (by omega)).mp h2
  omega
/-- with an order all those of its hour are given -/
theorem gvT_all {j k t : Nat} (ht : t ≤ 1000) (hs : ∀ i j, i ≤ j → j < O → hr i ≤ hr j) (hk : k < O) (e : hr k = hr j) (hj : j < gvT hr O t) : k < gvT hr O t := by
  refine Nat.not_le.mp (fun q => ?_)
  obtain ⟨h, h1, h2⟩ := (gvT_sp t ht).1 j hj
  cases t with
  | zero => exact absurd h1 (Nat.not_lt_zero _)
  | succ t =>
    have h3 := (gvT_sp (hr := hr) (O := O) (t + 1) ht).2 t (by omega) (by omega)
    refine h3 (Int32.le_trans (hs _ k q hk) ?_)
    rw [e]
    exact Int32.le_trans h2 (nI_le (by omega) (by omega))
/-- an order that doesn't matter, at any hour -/
theorem hdO_nm {j t : Nat} (hO : O ≤ 200) (hj : j < O) (ht : t ≤ 1000) (hs : ∀ i j, i ≤ j → j < O → hr i ≤ hr j) (hn : hdO mi ga v (-1) j (slO mi ga j) = v j ∨ ∃ k, j < k ∧ k < O ∧ hr k = hr j ∧ slO mi ga k = slO mi ga j) (i : Nat) : hdO mi ga v (nI j) (gvT hr O t) i = hdO mi ga v (-1) (gvT hr O t) i := by
  have hg := gvT_le (hr := hr) (O := O) t
  rcases hn with q | ⟨k, h1, h2, h3, h4⟩
  · exact hdO_set (by omega) q _ _ (by omega)
  · by_cases q : gvT hr O t ≤ j
    · exact hdO_lt (by omega) _ q
    · exact hdO_ov h1 (by omega) h4 _ (gvT_all ht hs h2 h3 (by omega)) (by omega)
end HO
theorem simW_ext {c : Cf} {rn W G W' G' : Nat → Nat → Int32} : ∀ t, (∀ h, h < t → W h = W' h ∧ G h = G' h) → simW c rn W G t = simW c rn W' G' t
  | 0, _ => rfl
  | t + 1, h => by
    rw [simW, simW, simW_ext t (fun h' hh => h h' (by omega)), (h t (by omega)).1, (h t (by omega)).2]
section SO
variable {σ : St} {Ls : List Ru} {O nn : Nat}
/-- ahead of its hour -/
theorem simD_bf {j hj t : Nat} (hO : O ≤ 200) (hjO : j < O) (eh : gr σ 20 j = nI hj) (hh : hj < 1000) (ht : t ≤ hj) : simD σ Ls O nn (nI j) t = simD σ Ls O nn (-1) t := by
  unfold simD
  refine simW_ext t (fun h hlt => ?_)
  have q : gvT (gr σ 20) O (h + 1) ≤ j := gvT_bf eh hh (by omega)
  exact ⟨funext (fun m => hdO_lt (by omega) _ q), funext (fun m => hdO_lt (by omega) _ q)⟩
/-- if it doesn't matter -/
theorem simD_nm {j t : Nat} (hO : O ≤ 200) (hj : j < O) (ht : t ≤ 999) (hs : ∀ i j, i ≤ j → j < O → gr σ 20 i ≤ gr σ 20 j) (hn : hdO (gr σ 21) (gr σ 22) (gr σ 23) (-1) j (slO (gr σ 21) (gr σ 22) j) = gr σ 23 j ∨ ∃ k, j < k ∧ k < O ∧ gr σ 20 k = gr σ 20 j ∧ slO (gr σ 21) (gr σ 22) k = slO (gr σ 21) (gr σ 22) j) : simD σ Ls O nn (nI j) t = simD σ Ls O nn (-1) t := by
  unfold simD
  refine simW_ext t (fun h hlt => ?_)
  exact ⟨funext (fun m => hdO_nm (t := h + 1) hO hj (by omega) hs hn _), funext (fun m => hdO_nm (t := h + 1) hO hj (by omega) hs hn _)⟩
end SO
theorem wkS_ext {S S' : Nat → Rw} {m a : Nat} : ∀ d, (∀ t, t ≤ a + d → S t = S' t) → wkS S m a d = wkS S' m a d
  | 0, _ => rfl
  | d + 1, h => by
    rw [wkS, wkS, wkS_ext d (fun t ht => h t (by omega)), h _ (by omega)]
theorem wkT_ext {S S' : Nat → Rw} {m a t : Nat} : ∀ d, (∀ i, i ≤ t + d → S i = S' i) → wkT S m a t d = wkT S' m a t d
  | 0, _ => rfl
  | d + 1, h => by
    rw [wkT, wkT, wkT_ext d (fun t ht => h t (by omega)), h _ (by omega)]
theorem wkT_add {S : Nat → Rw} {m a t : Nat} : ∀ d, wkT S m a 0 t + wkT S m a t d = wkT S m a 0 (t + d)
  | 0 => by
    rw [wkT, Int32.add_zero]
    rfl
  | d + 1 => by
    rw [← Nat.add_assoc, wkT, wkT, ← wkT_add d, Int32.add_assoc, Nat.zero_add]
section MA
variable {σ : St} {Q : Int32 → St → Prop} {O k : Nat}
theorem sameD {i : Nat} (hO : O ≤ 200) (hi : i < O) (hk : k < O) (hm : ∀ j, j < O → ∃ m, m < 7 ∧ gr σ 21 j = nI m) (hg : ∀ j, j < O → gr σ 22 j = 0 ∨ gr σ 22 j = 1) (h1 : slO (gr σ 21) (gr σ 22) i = slO (gr σ 21) (gr σ 22) k → Q 1 σ) (h0 : slO (gr σ 21) (gr σ 22) i ≠ slO (gr σ 21) (gr σ 22) k → Q 0 σ) : wX4_isOfSame (nI i) (nI k) σ Q := by
  have vi : vp_in (nI i) 200 := vp_in_nI (by omega) (by decide)
  have vk : vp_in (nI k) 200 := vp_in_nI (by omega) (by decide)
  obtain ⟨a, ha, ea⟩ := hm i hi
  obtain ⟨b, hb, eb⟩ := hm k hk
  have zne : (1 : Int32) ≠ 0 := by decide
  unfold slO at h1 h0
  rw [ea, eb, nI_clamp (by omega), nI_clamp (by omega)] at h1 h0
  rw [wX4_isOfSame, nI_clamp (by omega), nI_clamp (by omega), show gv σ 21 i = nI a from ea, show gv σ 21 k = nI b from eb, show gv σ 22 i = gr σ 22 i from rfl, show gv σ 22 k = gr σ 22 k from rfl]
  refine ⟨vi, vk, fun c => ⟨vi, vk, fun c2 => h1 ?_, fun c2 => h0 ?_⟩, fun c => h0 ?_⟩
  · rw [(nI_eq (by omega) (by omega)).mp c, c2]
  · rcases hg i hi with g1 | g1 <;> rcases hg k hk with g2 | g2 <;> rw [g1, g2] at c2 ⊢
    · exact absurd rfl c2
    · rw [if_pos rfl, if_neg zne]; omega
    · rw [if_pos rfl, if_neg zne]; omega
    · exact absurd rfl c2
  · have : a ≠ b := fun e => c (by rw [e])
    rcases hg i hi with g1 | g1 <;> rcases hg k hk with g2 | g2 <;> rw [g1, g2]
    · omega
    · rw [if_pos rfl, if_neg zne]; omega
    · rw [if_pos rfl, if_neg zne]; omega
    · omega
theorem stays_loop (hO : O ≤ 200) (hk : k < O) (eO : gv σ 4 4 = nI O) (hm : ∀ j, j < O → ∃ m, m < 7 ∧ gr σ 21 j = nI m) (hg : ∀ j, j < O → gr σ 22 j = 0 ∨ gr σ 22 j = 1) {x : Int32} (hx : x = hdO (gr σ 21) (gr σ 22) (gr σ 23) (-1) k (slO (gr σ 21) (gr σ 22) k)) (h1 : Q 1 σ)
    (h0 : (hdO (gr σ 21) (gr σ 22) (gr σ 23) (-1) k (slO (gr σ 21) (gr σ 22) k) = gr σ 23 k ∨ ∃ i, k < i ∧ i < O ∧ gr σ 20 i = gr σ 20 k ∧ slO (gr σ 21) (gr σ 22) i = slO (gr σ 21) (gr σ 22) k) → Q 0 σ) :
    ∀ (d i : Nat) (s : Int32), i + d = O → k < i → (s = 1 ∨ (s = 0 ∧ ∃ i', k < i' ∧ i' < O ∧ gr σ 20 i' = gr σ 20 k ∧ slO (gr σ 21) (gr σ 22) i' = slO (gr σ 21) (gr σ 22) k)) → wX4_matters_42 Q (d + 1) (nI k) x s (nI i) σ := by
  have vk : vp_in (nI k) 200 := vp_in_nI (by omega) (by decide)
  have fin : ∀ s : Int32, (s = 1 ∨ (s = 0 ∧ ∃ i', k < i' ∧ i' < O ∧ gr σ 20 i' = gr σ 20 k ∧ slO (gr σ 21) (gr σ 22) i' = slO (gr σ 21) (gr σ 22) k)) → wX4_matters_93 Q (nI k) x s σ := by
    intro s hs
    unfold wX4_matters_93
    rw [nI_clamp (by omega)]
    refine ⟨fun c => ?_, fun c => ⟨vk, fun c2 => h0 (Or.inl ?_), fun _ => h1⟩⟩
    · rcases hs with q | ⟨_, q⟩
      · rw [q] at c
        exact absurd c (by decide)
      · exact h0 (Or.inr q)
    · rw [← hx, c2]
      rfl
  intro d
  induction d with
  | zero =>
    intro i s hi hki hs
    refine ⟨fun _ => fin s hs, fun c => ?_⟩
    rw [eO] at c
    exact absurd (nI_le (by omega) (by omega)) c
  | succ d ih =>
    intro i s hi hki hs
    rw [wX4_matters_42, eO, nI_clamp (show k < 2 ^ 31 by omega), nI_clamp (show i < 2 ^ 31 by omega)]
    refine ⟨fun c => absurd c (nI_ge (by omega) (by omega)), fun _ => ⟨vp_in_nI (by omega) (by decide), vk, fun c => ⟨fun c2 => ?_, fun c2 => ?_⟩, fun _ => fin s hs⟩⟩
    · rintro x4 rfl
      rw [nI_1]
      refine ih (i + 1) 0 (by omega) (by omega) (Or.inr ⟨rfl, ?_⟩)
      rcases hs with q | ⟨_, q⟩
      · rw [q] at c2
        exact absurd c2 (by decide)
      · exact q
    · refine sameD hO (by omega) hk hm hg (fun q => ⟨z11, fun _ => ?_⟩) (fun q => ⟨fun _ => ?_, fun c => absurd rfl c⟩)
      · rintro x4 rfl
        rw [nI_1]
        exact ih (i + 1) 0 (by omega) (by omega) (Or.inr ⟨rfl, i, hki, by omega, c, q⟩)
      · rintro x4 rfl
        rw [nI_1]
        exact ih (i + 1) 1 (by omega) (by omega) (Or.inl rfl)
theorem mattersD (hO : O ≤ 200) (hk : k < O) (eO : gv σ 4 4 = nI O) (hm : ∀ j, j < O → ∃ m, m < 7 ∧ gr σ 21 j = nI m) (hg : ∀ j, j < O → gr σ 22 j = 0 ∨ gr σ 22 j = 1) (h1 : Q 1 σ)
    (h0 : (hdO (gr σ 21) (gr σ 22) (gr σ 23) (-1) k (slO (gr σ 21) (gr σ 22) k) = gr σ 23 k ∨ ∃ i, k < i ∧ i < O ∧ gr σ 20 i = gr σ 20 k ∧ slO (gr σ 21) (gr σ 22) i = slO (gr σ 21) (gr σ 22) k) → Q 0 σ) : wX4_matters (nI k) σ Q := by
  suffices h : ∀ (d i : Nat), i + d = k → wX4_matters_4 Q (d + 1) (nI k) (hdO (gr σ 21) (gr σ 22) (gr σ 23) (-1) i (slO (gr σ 21) (gr σ 22) k)) (nI i) σ from ⟨k + 1, h k 0 (by omega)⟩
  intro d
  induction d with
  | zero =>
    intro i hi
    have e : i = k := by omega
    subst e
    refine ⟨fun _ => ?_, fun c => absurd (Int32.le_refl _) c⟩
    rintro x4 rfl
    exact ⟨O - (i + 1) + 1, by rw [nI_1]; exact stays_loop hO hk eO hm hg rfl h1 h0 (O - (i + 1)) (i + 1) 1 (by omega) (by omega) (Or.inl rfl)⟩
  | succ d ih =>
    intro i hi
    rw [wX4_matters_4]
    refine ⟨fun c => absurd c (nI_ge (by omega) (by omega)), fun _ => sameD hO (by omega) hk hm hg (fun q => ⟨z11, fun _ => ⟨vp_in_nI (by omega) (by decide), ?_⟩⟩) (fun q => ⟨fun _ => ?_, fun c => absurd rfl c⟩)⟩
    · rintro x3 rfl
      rw [nI_1, nI_clamp (by omega)]
      have := ih (i + 1) (by omega)
      rw [hdO_s, if_pos ⟨nI_neg1 (by omega), q⟩] at this
      exact this
    · rintro x3 rfl
      rw [nI_1]
      have := ih (i + 1) (by omega)
      rw [hdO_s, if_neg (fun c => q c.2)] at this
      exact this
/-- one stage's copy of another -/
theorem copyD {Q : St → Prop} {k0 k1 : Nat} (hk : Stg k0) (hd : k0 + 13 ≤ k1 ∨ k1 + 13 ≤ k0) (hQ : ∀ τ, Fm (xS k0) σ τ → (∀ j, j = 2 ∨ j = 3 ∨ j = 4 → gv τ k0 j = gv σ k1 j) → (∀ i j, i < 11 → gv τ (k0 + 2 + i) j = gv σ (k1 + 2 + i) j) → Q τ) : wX7_copy k0 k1 σ Q := by
  have xin : ∀ a j, k0 ≤ a → a < k0 + 13 → xS k0 a j = true := fun a j h1 h2 => by simp [xS, h1, h2]
  suffices h : ∀ (d i : Nat) (τ : St), i + d = 10 → Fm (xS k0) σ τ → (∀ a j, k1 ≤ a → a < k1 + 13 → gv τ a j = gv σ a j) → (∀ i' j, i' < i → gv τ (k0 + 3 + i') j = gv σ (k1 + 3 + i') j) → wX7_copy_2 k0 k1 Q (d + 1) (nI i) τ from ⟨11, h 10 0 σ (by omega) Fm.rf (fun _ _ _ _ => rfl) (fun _ _ h => absurd h (by omega))⟩
  intro d
  induction d with
  | zero =>
    intro i τ hi f g r
    have e : i = 10 := by omega
    subst e
    refine ⟨fun _ => ?_, fun c => absurd (by decide) c⟩
    rintro σ2 rfl σ3 rfl σ4 rfl σ5 rfl
    refine hQ _ ((((f.tr (Fm_pa (fun j => xin _ j (by omega) (by omega)))).tr (Fm_pv (xin _ _ (by omega) (by omega)))).tr (Fm_pv (xin _ _ (by omega) (by omega)))).tr (Fm_pv (xin _ _ (by omega) (by omega)))) (fun j hj => ?_) (fun i j hi => ?_)
    · rcases hj with rfl | rfl | rfl
      · rw [gv_pv, if_neg (by omega), gv_pv, if_neg (by omega), gv_pv, if_pos ⟨rfl, rfl⟩, gv_pa, if_neg (by omega), g _ _ (by omega) (by omega)]
      · rw [gv_pv, if_neg (by omega), gv_pv, if_pos ⟨rfl, rfl⟩, gv_pv, if_neg (by omega), gv_pa, if_neg (by omega), g _ _ (by omega) (by omega)]
      · rw [gv_pv, if_pos ⟨rfl, rfl⟩, gv_pv, if_neg (by omega), gv_pv, if_neg (by omega), gv_pa, if_neg (by omega), g _ _ (by omega) (by omega)]
    · rw [gv_pv, if_neg (by omega), gv_pv, if_neg (by omega), gv_pv, if_neg (by omega), gv_pa]
      by_cases q : i = 0
      · subst q
        rw [if_pos rfl]
        exact g _ _ (by omega) (by omega)
      · rw [if_neg (by omega)]
        have := r (i - 1) j (by omega)
        rw [show k0 + 3 + (i - 1) = k0 + 2 + i by omega, show k1 + 3 + (i - 1) = k1 + 2 + i by omega] at this
        exact this
  | succ d ih =>
    intro i τ hi f g r
    refine ⟨fun c => absurd c (nI_ge (show i < 10 by omega) (by decide)), fun _ => ⟨vp_in_nI (by omega) (by decide), vp_in_nI (by omega) (by decide), ?_⟩⟩
    rw [nI_clamp (by omega)]
    rintro σ8 rfl x2 rfl
    rw [nI_1]
    refine ih (i + 1) _ (by omega) (f.tr (Fm_pa (fun j => xin _ j (by omega) (by omega)))) (fun a j h1 h2 => ?_) (fun i' j hi' => ?_)
    · rw [gv_pa, if_neg (by omega)]
      exact g a j h1 h2
    · rw [gv_pa]
      by_cases q : i' = i
      · subst q
        rw [if_pos (by omega), show k1 + (3 + i') = k1 + 3 + i' by omega]
        exact g _ _ (by omega) (by omega)
      · rw [if_neg (by omega)]
        exact r i' j (by omega)
end MA
