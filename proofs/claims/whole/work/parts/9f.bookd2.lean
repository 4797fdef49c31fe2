/-! read: the class's sums, relations, conditions. -/
theorem sg_join {τ1 τ2 τ3 : St} {C : Nat} {E T : Ex} {op : Int32} (h1 : seg (gr τ1 36) C E) (f2 : Fm (xEm (C + E.length)) τ1 τ2) (h2 : gr τ2 36 (C + E.length) = op) (f3 : Fm (xEm (C + E.length + 1)) τ2 τ3) (h3 : seg (gr τ3 36) (C + E.length + 1) T) : seg (gr τ3 36) C (E ++ [op] ++ T) := by
  refine sg_app (sg_app (sg_fm (sg_fm h1 f2 (Nat.le_refl _)) f3 (by omega)) (sg_one ?_)) ?_
  · exact (f3.2 36 (C + E.length) (xEm_no (by decide) (by omega) (by omega))).trans h2
  · rw [List.length_append, List.length_singleton, ← Nat.add_assoc]
    exact h3
theorem sg_join0 {τ1 τ3 : St} {C : Nat} {E T : Ex} (h1 : seg (gr τ1 36) C E) (f3 : Fm (xEm (C + E.length)) τ1 τ3) (h3 : seg (gr τ3 36) (C + E.length) T) : seg (gr τ3 36) C (E ++ T) := sg_app (sg_fm h1 f3 (Nat.le_refl _)) h3
section BF
variable {σ : St} {K P : Nat → Nat} {V : Nat → Int32} {NM : Nat → List Nat} {M : Nat}
theorem len3 {C : Nat} {E T : Ex} {op : Int32} : C + (E ++ [op] ++ T).length = C + E.length + 1 + T.length := by
  rw [List.length_append, List.length_append, List.length_singleton]; omega
theorem len2 {C : Nat} {E T : Ex} : C + (E ++ T).length = C + E.length + T.length := by
  rw [List.length_append]; omega
/-- of the reader's answers what they tell of the state -/
theorem PrD.nx {i j C C' : Nat} {τ τ' : St} (h : PrD σ M i C τ) (f : Fm (xEm C) τ τ') (A : AtD σ M j τ') (e : gv τ' 8 4 = nI C') (hs : C' + 600 ≤ gn τ + j) : PrD σ M j C' τ' := ⟨A, e, by rw [f.gn]; exact hs, by rw [f.gn]; exact h.2.2.2⟩
theorem PrD.tk {i C : Nat} {τ τ' : St} (h : PrD σ M i C τ) (f : Fm xTk τ τ') (A : AtD σ M (i + 1) τ') : PrD σ M (i + 1) C τ' := h.nx (f.mono (fun _ _ q => xTk_Em q)) A (e84 f h.2.1) (by have := h.2.2.1; omega)
theorem productD_loop (hT : TkD σ K P V NM M) {Sw : Int32 → St → (Int32 → St → Prop) → Prop} {S : Nat → Rs Ex} {dp hh : Nat} (hU : ∀ i C τ, PrD σ M i C τ → RsD σ P M (unP K V S dp i) C τ (fun Q => wX0_unit Sw (nI dp) τ Q)) (hUg : ∀ i, GdR hh i (unP K V S dp i)) : ∀ (f b i C : Nat) (τ : St), b + f = 600 → PrD σ M i C τ → RsD σ P M (prL K V S dp f i) C τ (fun Q => wX0_product_12 Sw Q (f + 1) (nI dp) (nI b) τ) := by
  intro f
  induction f with
  | zero =>
    intro b i C τ hb h Q hok hno
    exact ⟨fun _ => hok i [] τ rfl h.1 h.2.1 sg_nil Fm.rf, fun c => absurd (nI_le (a := 600) (by omega) (by omega)) c⟩
  | succ f ih =>
    intro b i C τ hb h Q hok hno
    have hK := hT.2.2.2.1.1 i
    show wX0_product_12 Sw Q (f + 1 + 1) (nI dp) (nI b) τ
    rw [wX0_product_12]
    refine ⟨fun c => absurd c (nI_ge (b := 600) (by omega) (by decide)), fun _ => kindD hT h.1 ⟨fun c => ?_, fun c => ?_⟩⟩
    · have hk : K i = 10 := (nI_eq (b := 10) (by omega) (by decide)).mp c
      have hp : prL K V S dp (f + 1) i = (tkP K 10 i).bd fun j _ => (unP K V S dp j).bd fun k E => (prL K V S dp f k).bd fun l T => .ok l (E ++ [-10] ++ T) := by rw [prL, if_pos hk]
      refine takeD (k := 10) hT h.1 (by decide) (by decide) (fun τ1 _ hi ht A1 f1 => ⟨z11, fun _ => ?_⟩) (fun g τ1 ht F1 f1 => ⟨fun _ => hno g i τ1 (by rw [hp, ht, bd_n]) F1 (f1.mono (fun _ _ q => xTk_Em q)), fun c => absurd rfl c⟩)
      have P1 := h.tk f1 A1
      have f1e : Fm (xEm C) τ τ1 := f1.mono (fun _ _ q => xTk_Em q)
      refine hU (i + 1) C τ1 P1 _ (fun k E τ2 hu A2 q8 qs f2 => ⟨z11, fun _ => ?_⟩) (fun g j τ2 hu F2 f2 => ⟨fun _ => hno g j τ2 (by rw [hp, ht, bd_o, hu, bd_n]) F2 (f1e.tr f2), fun c => absurd rfl c⟩)
      obtain ⟨g1, g2, g3, _, _⟩ := hUg (i + 1) k E hu
      have hgn : gn τ2 = gn τ := f2.gn.trans f1.gn
      have hsl := h.2.2.1
      refine emitD (by rw [hgn]; exact h.2.2.2) q8 (by rw [hgn]; omega) (fun τ3 f3 g5 e3 x3 => ?_)
      rintro x2 rfl
      rw [nI_1]
      have A3 : AtD σ M k τ3 := A2.fm f3 ((g5 4).trans A2.2.1)
      have f13 : Fm (xEm C) τ τ3 := (f1e.tr f2).tr (f3.mono (fun _ _ q => xEm_le (by omega) q))
      have P3 : PrD σ M k (C + E.length + 1) τ3 := h.nx f13 A3 e3 (by omega)
      refine ih (b + 1) k (C + E.length + 1) τ3 (by omega) P3 Q (fun l T τ4 hl A4 e4 s4 f4 => ?_) (fun g j τ4 hl F4 f4 => ?_)
      · refine hok l (E ++ [-10] ++ T) τ4 (by rw [hp, ht, bd_o, hu, bd_o, hl, bd_o]) A4 (by rw [len3]; exact e4) (sg_join qs f3 x3 f4 s4) (f13.tr (f4.mono (fun _ _ q => xEm_le (by omega) q)))
      · exact hno g j τ4 (by rw [hp, ht, bd_o, hu, bd_o, hl, bd_n]) F4 (f13.tr (f4.mono (fun _ _ q => xEm_le (by omega) q)))
    · have hk : ¬ K i = 10 := fun e => c (by rw [e]; rfl)
      exact hok i [] τ (by rw [prL, if_neg hk]) h.1 h.2.1 sg_nil Fm.rf
theorem productD (hT : TkD σ K P V NM M) {Sw : Int32 → St → (Int32 → St → Prop) → Prop} {S : Nat → Rs Ex} {dp hh : Nat} (hU : ∀ i C τ, PrD σ M i C τ → RsD σ P M (unP K V S dp i) C τ (fun Q => wX0_unit Sw (nI dp) τ Q)) (hUg : ∀ i, GdR hh i (unP K V S dp i)) {i C : Nat} {τ : St} (h : PrD σ M i C τ) : RsD σ P M (prP K V S dp i) C τ (fun Q => wX0_product Sw (nI dp) τ Q) := by
  intro Q hok hno
  refine hU i C τ h _ (fun k E τ1 hu A1 q8 qs f1 => ⟨z11, fun _ => ⟨601, ?_⟩⟩) (fun g j τ1 hu F1 f1 => ⟨fun _ => hno g j τ1 (by unfold prP; rw [hu, bd_n]) F1 f1, fun c => absurd rfl c⟩)
  obtain ⟨g1, g2, g3, _, _⟩ := hUg i k E hu
  have hsl := h.2.2.1
  refine productD_loop hT hU hUg 600 0 k (C + E.length) τ1 (by omega) (h.nx f1 A1 q8 (by omega)) Q (fun l T τ2 hl A2 e2 s2 f2 => ?_) (fun g j τ2 hl F2 f2 => ?_)
  · exact hok l (E ++ T) τ2 (by unfold prP; rw [hu, bd_o, hl, bd_o]) A2 (by rw [len2]; exact e2) (sg_join0 qs f2 s2) (f1.tr (f2.mono (fun _ _ q => xEm_le (by omega) q)))
  · exact hno g j τ2 (by unfold prP; rw [hu, bd_o, hl, bd_n]) F2 (f1.tr (f2.mono (fun _ _ q => xEm_le (by omega) q)))
theorem sumD_loop (hT : TkD σ K P V NM M) {Sw : Int32 → St → (Int32 → St → Prop) → Prop} {S : Nat → Rs Ex} {dp hh : Nat} (hU : ∀ i C τ, PrD σ M i C τ → RsD σ P M (prP K V S dp i) C τ (fun Q => wX0_product Sw (nI dp) τ Q)) (hUg : ∀ i, GdR hh i (prP K V S dp i)) : ∀ (f b i C : Nat) (τ : St), b + f = 600 → PrD σ M i C τ → RsD σ P M (smL K V S dp f i) C τ (fun Q => wX0_sum_55 Sw Q (f + 1) (nI dp) (nI b) τ) := by
  intro f
  induction f with
  | zero =>
    intro b i C τ hb h Q hok hno
    exact ⟨fun _ => hok i [] τ rfl h.1 h.2.1 sg_nil Fm.rf, fun c => absurd (nI_le (a := 600) (by omega) (by omega)) c⟩
  | succ f ih =>
    intro b i C τ hb h Q hok hno
    have hK := hT.2.2.2.1.1 i
    show wX0_sum_55 Sw Q (f + 1 + 1) (nI dp) (nI b) τ
    rw [wX0_sum_55]
    have go : (K i = 8 ∨ K i = 9) → wX0_sum_80 Sw Q (fun x1' x3' σ' => wX0_sum_55 Sw Q (f + 1) x1' x3' σ') (nI dp) (nI b) τ := by
      intro hk
      have hp : smL K V S dp (f + 1) i = (tkP K (K i) i).bd fun j _ => (prP K V S dp j).bd fun k E => (smL K V S dp f k).bd fun l T => .ok l (E ++ [-(nI (K i))] ++ T) := by rw [smL, if_pos hk]
      refine kindD hT h.1 (takeD (k := K i) hT h.1 (by omega) (by omega) (fun τ1 _ hi ht A1 f1 => ⟨z11, fun _ => ?_⟩) (fun g τ1 ht F1 f1 => ⟨fun _ => hno g i τ1 (by rw [hp, ht, bd_n]) F1 (f1.mono (fun _ _ q => xTk_Em q)), fun c => absurd rfl c⟩))
      have P1 := h.tk f1 A1
      have f1e : Fm (xEm C) τ τ1 := f1.mono (fun _ _ q => xTk_Em q)
      refine hU (i + 1) C τ1 P1 _ (fun k E τ2 hu A2 q8 qs f2 => ⟨z11, fun _ => ?_⟩) (fun g j τ2 hu F2 f2 => ⟨fun _ => hno g j τ2 (by rw [hp, ht, bd_o, hu, bd_n]) F2 (f1e.tr f2), fun c => absurd rfl c⟩)
      obtain ⟨g1, g2, g3, _, _⟩ := hUg (i + 1) k E hu
      have hgn : gn τ2 = gn τ := f2.gn.trans f1.gn
      have hsl := h.2.2.1
      refine emitD (by rw [hgn]; exact h.2.2.2) q8 (by rw [hgn]; omega) (fun τ3 f3 g5 e3 x3 => ?_)
      rintro x2 rfl
      rw [nI_1]
      have A3 : AtD σ M k τ3 := A2.fm f3 ((g5 4).trans A2.2.1)
      have f13 : Fm (xEm C) τ τ3 := (f1e.tr f2).tr (f3.mono (fun _ _ q => xEm_le (by omega) q))
      have P3 : PrD σ M k (C + E.length + 1) τ3 := h.nx f13 A3 e3 (by omega)
      refine ih (b + 1) k (C + E.length + 1) τ3 (by omega) P3 Q (fun l T τ4 hl A4 e4 s4 f4 => ?_) (fun g j τ4 hl F4 f4 => ?_)
      · refine hok l (E ++ [-(nI (K i))] ++ T) τ4 (by rw [hp, ht, bd_o, hu, bd_o, hl, bd_o]) A4 (by rw [len3]; exact e4) (sg_join qs f3 x3 f4 s4) (f13.tr (f4.mono (fun _ _ q => xEm_le (by omega) q)))
      · exact hno g j τ4 (by rw [hp, ht, bd_o, hu, bd_o, hl, bd_n]) F4 (f13.tr (f4.mono (fun _ _ q => xEm_le (by omega) q)))
    refine ⟨fun c => absurd c (nI_ge (b := 600) (by omega) (by decide)), fun _ => kindD hT h.1 ⟨fun c => go (Or.inl ((nI_eq (b := 8) (by omega) (by decide)).mp c)), fun c => kindD hT h.1 ⟨fun c2 => go (Or.inr ((nI_eq (b := 9) (by omega) (by decide)).mp c2)), fun c2 => ?_⟩⟩⟩
    have hk : ¬ (K i = 8 ∨ K i = 9) := fun e => by
      rcases e with e | e
      · exact c (by rw [e]; rfl)
      · exact c2 (by rw [e]; rfl)
    exact hok i [] τ (by rw [smL, if_neg hk]) h.1 h.2.1 sg_nil Fm.rf
theorem sumD1 (hT : TkD σ K P V NM M) {Sw : Int32 → St → (Int32 → St → Prop) → Prop} {S : Nat → Rs Ex} {dp hh : Nat} (hU : ∀ i C τ, PrD σ M i C τ → RsD σ P M (prP K V S dp i) C τ (fun Q => wX0_product Sw (nI dp) τ Q)) (hUg : ∀ i, GdR hh i (prP K V S dp i)) {i C : Nat} {τ : St} (h : PrD σ M i C τ) : RsD σ P M (smP K V S dp i) C τ (fun Q => wX0_sum Sw (nI dp) τ Q) := by
  intro Q hok hno
  have hK := hT.2.2.2.1.1 i
  have hsl := h.2.2.1
  refine kindD hT h.1 ⟨fun c => ?_, fun c => ?_⟩
  · have hk : K i = 9 := (nI_eq (b := 9) (by omega) (by decide)).mp c
    have hp : smP K V S dp i = (tkP K 9 i).bd fun j _ => (prP K V S dp j).bd fun k E => (smL K V S dp 600 k).bd fun l T => .ok l (E ++ [-15] ++ T) := by unfold smP; rw [if_pos hk]
    refine ⟨z11, fun _ => takeD (k := 9) hT h.1 (by decide) (by decide) (fun τ1 _ hi ht A1 f1 => ⟨z11, fun _ => ?_⟩) (fun g τ1 ht F1 f1 => ⟨fun _ => hno g i τ1 (by rw [hp, ht, bd_n]) F1 (f1.mono (fun _ _ q => xTk_Em q)), fun c => absurd rfl c⟩)⟩
    have P1 := h.tk f1 A1
    have f1e : Fm (xEm C) τ τ1 := f1.mono (fun _ _ q => xTk_Em q)
    refine hU (i + 1) C τ1 P1 _ (fun k E τ2 hu A2 q8 qs f2 => ⟨z11, fun _ => ⟨z11, fun _ => ?_⟩⟩) (fun g j τ2 hu F2 f2 => ⟨fun _ => hno g j τ2 (by rw [hp, ht, bd_o, hu, bd_n]) F2 (f1e.tr f2), fun c => absurd rfl c⟩)
    obtain ⟨g1, g2, g3, _, _⟩ := hUg (i + 1) k E hu
    have hgn : gn τ2 = gn τ := f2.gn.trans f1.gn
    refine emitD (by rw [hgn]; exact h.2.2.2) q8 (by rw [hgn]; omega) (fun τ3 f3 g5 e3 x3 => ⟨601, ?_⟩)
    have A3 : AtD σ M k τ3 := A2.fm f3 ((g5 4).trans A2.2.1)
    have f13 : Fm (xEm C) τ τ3 := (f1e.tr f2).tr (f3.mono (fun _ _ q => xEm_le (by omega) q))
    have P3 : PrD σ M k (C + E.length + 1) τ3 := h.nx f13 A3 e3 (by omega)
    refine sumD_loop hT hU hUg 600 0 k (C + E.length + 1) τ3 (by omega) P3 Q (fun l T τ4 hl A4 e4 s4 f4 => ?_) (fun g j τ4 hl F4 f4 => ?_)
    · refine hok l (E ++ [-15] ++ T) τ4 (by rw [hp, ht, bd_o, hu, bd_o, hl, bd_o]) A4 (by rw [len3]; exact e4) (sg_join qs f3 x3 f4 s4) (f13.tr (f4.mono (fun _ _ q => xEm_le (by omega) q)))
    · exact hno g j τ4 (by rw [hp, ht, bd_o, hu, bd_o, hl, bd_n]) F4 (f13.tr (f4.mono (fun _ _ q => xEm_le (by omega) q)))
  · have hk : ¬ K i = 9 := fun e => c (by rw [e]; rfl)
    have hp : smP K V S dp i = (prP K V S dp i).bd fun k E => (smL K V S dp 600 k).bd fun l T => .ok l (E ++ T) := by unfold smP; rw [if_neg hk]
    refine ⟨fun _ => hU i C τ h _ (fun k E τ2 hu A2 q8 qs f2 => ⟨z11, fun _ => ⟨fun _ => ⟨601, ?_⟩, fun c => absurd rfl c⟩⟩) (fun g j τ2 hu F2 f2 => ⟨fun _ => hno g j τ2 (by rw [hp, hu, bd_n]) F2 f2, fun c => absurd rfl c⟩), fun c => absurd rfl c⟩
    obtain ⟨g1, g2, g3, _, _⟩ := hUg i k E hu
    refine sumD_loop hT hU hUg 600 0 k (C + E.length) τ2 (by omega) (h.nx f2 A2 q8 (by omega)) Q (fun l T τ4 hl A4 e4 s4 f4 => ?_) (fun g j τ4 hl F4 f4 => ?_)
    · exact hok l (E ++ T) τ4 (by rw [hp, hu, bd_o, hl, bd_o]) A4 (by rw [len2]; exact e4) (sg_join0 qs f4 s4) (f2.tr (f4.mono (fun _ _ q => xEm_le (by omega) q)))
    · exact hno g j τ4 (by rw [hp, hu, bd_o, hl, bd_n]) F4 (f2.tr (f4.mono (fun _ _ q => xEm_le (by omega) q)))
theorem sumD (hT : TkD σ K P V NM M) : ∀ d dp, dp ≤ 8 → 9 ≤ dp + d → ∀ i C τ, PrD σ M i C τ → RsD σ P M (smN K V d dp i) C τ (fun Q => wX0_sumN d (nI dp) τ Q)
  | 0, dp, h1, h2 => absurd h2 (by omega)
  | d + 1, dp, h1, h2 => by
    intro i C τ h
    have hUg : ∀ i, GdR (17 - 2 * dp) i (unP K V (smN K V d (dp + 1)) dp i) := fun i => un_gd hT.2.2.2.1 h1 (fun q i' => by
      have := smN_gd hT.2.2.2.1 d (dp + 1) (by omega) (by omega) i'
      rwa [show 19 - 2 * (dp + 1) = 17 - 2 * dp by omega] at this)
    have hU : ∀ i C τ, PrD σ M i C τ → RsD σ P M (unP K V (smN K V d (dp + 1)) dp i) C τ (fun Q => wX0_unit (wX0_sumN d) (nI dp) τ Q) := fun i C τ h => unitD hT (by omega) (fun q i C τ h => sumD hT d (dp + 1) (by omega) (by omega) i C τ h) h
    exact sumD1 hT (fun i C τ h => productD hT hU hUg h) (fun i => prP_gd h1 hUg i) h
/-- as RsD, of what is told by a code -/
def RsG {α : Type} (σ : St) (P : Nat → Nat) (M : Nat) (cd : α → Ex) (x : Rs α) (C : Nat) (τ : St) (W : (Int32 → St → Prop) → Prop) : Prop := ∀ Q : Int32 → St → Prop, (∀ j E τ', x = .ok j E → AtD σ M j τ' → gv τ' 8 4 = nI (C + (cd E).length) → seg (gr τ' 36) C (cd E) → Fm (xEm C) τ τ' → Q 1 τ') → (∀ f j τ', x = .no f j → FlD P f j τ' → Fm (xEm C) τ τ' → Q 0 τ') → W Q
theorem sgn_ng {s : Nat} (h1 : 11 ≤ s) : -(nI s) = -(nI (11 + (s - 11))) := by rw [show 11 + (s - 11) = s by omega]
theorem relationD (hT : TkD σ K P V NM M) {i C : Nat} {τ : St} (h : PrD σ M i C τ) : RsG σ P M (fun r : Ex × Nat × Ex => rlX r.1 r.2.1 r.2.2) (rlP K V i) C τ (fun Q => wX0_relation τ Q) := by
  intro Q hok hno
  have hsl := h.2.2.1
  refine sumD hT 10 0 (by omega) (by omega) i C τ h _ (fun j L τ1 h1 A1 e1 s1 f1 => ⟨z11, fun _ => ?_⟩) (fun g j τ1 h1 F1 f1 => ⟨fun _ => hno g j τ1 (by unfold rlP; rw [h1, bd_n]) F1 f1, fun c => absurd rfl c⟩)
  obtain ⟨g1, g2, g3, _⟩ := sm_ok hT.2.2.2.1 h1
  have hK := hT.2.2.2.1.1 j
  have stp : (K j < 11 ∨ 14 < K j) → wX0_relation_27 Q τ1 := fun q => stopD (f := 1) hT A1 (fun τ2 f2 F2 => ⟨nr0, hno 1 j τ2 (by unfold rlP; rw [h1, bd_o, if_pos q]) F2 (f1.tr (f2.mono (fun _ _ q => xTk_Em q)))⟩)
  refine kindD hT A1 ⟨fun c => stp (Or.inl ((nI_ltI (b := 11) (by omega) (by decide)).mp c)), fun c => ⟨fun c2 => ?_, fun c2 => stp (Or.inr (Nat.not_le.mp (fun q => c2 ((nI_leI (b := 14) (by omega) (by decide)).mpr q))))⟩⟩
  have k1 : 11 ≤ K j := Nat.not_lt.mp (fun q => c ((nI_ltI (b := 11) (by omega) (by decide)).mpr q))
  have k2 : K j ≤ 14 := (nI_leI (b := 14) (by omega) (by decide)).mp c2
  have hp : rlP K V i = (tkP K (K j) j).bd fun k _ => (smN K V 10 0 k).bd fun l R => .ok l (L, K j - 11, R) := by
    unfold rlP
    rw [h1, bd_o, if_neg (by omega)]
  refine takeD (k := K j) hT A1 (by omega) (by omega) (fun τ2 _ hi ht A2 f2 => ⟨z11, fun _ => ?_⟩) (fun g τ2 ht F2 f2 => ⟨fun _ => hno g j τ2 (by rw [hp, ht, bd_n]) F2 (f1.tr (f2.mono (fun _ _ q => xTk_Em q))), fun c => absurd rfl c⟩)
  have f12 : Fm (xEm C) τ τ2 := f1.tr (f2.mono (fun _ _ q => xTk_Em q))
  have P2 : PrD σ M (j + 1) (C + L.length) τ2 := h.nx f12 A2 (e84 f2 e1) (by omega)
  have s2 : seg (gr τ2 36) C L := fun k c hk => (f2.2 36 _ rfl).trans (s1 k c hk)
  refine sumD hT 10 0 (by omega) (by omega) (j + 1) (C + L.length) τ2 P2 _ (fun l R τ3 h3 A3 e3 s3 f3 => ⟨z11, fun _ => ?_⟩) (fun g k τ3 h3 F3 f3 => ⟨fun _ => hno g k τ3 (by rw [hp, ht, bd_o, h3, bd_n]) F3 (f12.tr (f3.mono (fun _ _ q => xEm_le (by omega) q))), fun c => absurd rfl c⟩)
  obtain ⟨m1, m2, m3, _⟩ := sm_ok hT.2.2.2.1 h3
  have f13 : Fm (xEm C) τ τ3 := f12.tr (f3.mono (fun _ _ q => xEm_le (by omega) q))
  have hgn : gn τ3 = gn τ := f13.gn
  refine emitD (by rw [hgn]; exact h.2.2.2) e3 (by rw [hgn]; omega) (fun τ4 f4 g5 e4 x4 => ?_)
  have A4 : AtD σ M l τ4 := A3.fm f4 ((g5 4).trans A3.2.1)
  have el : (L ++ R).length = L.length + R.length := List.length_append
  refine hok l (L, K j - 11, R) τ4 (by rw [hp, ht, bd_o, h3, bd_o]) A4 ?_ ?_ (f13.tr (f4.mono (fun _ _ q => xEm_le (by omega) q)))
  · show gv τ4 8 4 = nI (C + (rlX L (K j - 11) R).length)
    rw [e4]
    unfold rlX
    rw [List.length_append, List.length_append, List.length_singleton]
    congr 1
    omega
  · show seg (gr τ4 36) C (rlX L (K j - 11) R)
    unfold rlX
    rw [← sgn_ng k1]
    refine sg_app (sg_fm (sg_join0 s2 f3 s3) f4 (by omega)) (sg_one ?_)
    rw [el, ← Nat.add_assoc]
    exact x4
end BF
