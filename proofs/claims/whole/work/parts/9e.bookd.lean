/-! read: the class's reader of sums and conditions. -/
theorem bd_o {α β : Type} {i : Nat} {a : α} {g : Nat → α → Rs β} : (Rs.ok i a).bd g = g i a := rfl
theorem bd_n {α β : Type} {f i : Nat} {g : Nat → α → Rs β} : (Rs.no f i : Rs α).bd g = .no f i := rfl
/-- the tape and the tokens are as they were, and no room has failed -/
def TpD (σ τ : St) : Prop := gr τ 24 = gr σ 24 ∧ gr τ 25 = gr σ 25 ∧ gr τ 26 = gr σ 26 ∧ gv τ 6 0 = gv σ 6 0 ∧ gr τ 204 = gr σ 204 ∧ gv τ 5 5 = 1
/-- the tokens that the class cut, their ints and names -/
def TkD (σ : St) (K P : Nat → Nat) (V : Nat → Int32) (NM : Nat → List Nat) (M : Nat) : Prop := M ≤ 600 ∧ (M = 600 ∨ K M ≤ 1) ∧ (∀ i, i ≤ M → gv σ 25 i = nI (K i) ∧ gv σ 26 i = nI (P i)) ∧ OkT K V ∧
  (∀ i, i ≤ M → K i = 2 → gv σ 204 i = V i) ∧
  (∀ (i : Nat) (τ : St) (Q : Int64 → St → Prop), i ≤ M → K i = 3 → TpD σ τ → Q (pkN 32 (NM i)) τ → wX9_name (nI i) τ Q) ∧ ∀ i, K i = 3 → okN (NM i)
def AtD (σ : St) (M i : Nat) (τ : St) : Prop := TpD σ τ ∧ gv τ 5 4 = nI i ∧ i ≤ M
def FlD (P : Nat → Nat) (f i : Nat) (τ : St) : Prop := gv τ 5 5 = nI f ∧ (gv τ 5 4 = nI i ∧ i ≤ 600 ∧ gv τ 26 i = nI (P i)) ∧ (f = 1 ∨ f = 2)
def xTk (a j : Nat) : Bool := a == 5 && (j == 4 || j == 5 || j == 2)
def xEm (C a j : Nat) : Bool := xTk a j || (a == 8 && j == 4) || (a == 36 && decide (C ≤ j))
theorem TpD.fm {X : Nat → Nat → Bool} {σ τ τ' : St} (h : TpD σ τ) (f : Fm X τ τ') (h1 : ∀ a j, 24 ≤ a → a ≤ 26 → X a j = false) (h2 : X 6 0 = false) (h3 : ∀ j, X 204 j = false := by intro j; first | rfl | simp) (h4 : X 5 5 = false := by first | rfl | simp) : TpD σ τ' :=
  ⟨(f.gr (fun j => h1 24 j (by decide) (by decide))).trans h.1, (f.gr (fun j => h1 25 j (by decide) (by decide))).trans h.2.1, (f.gr (fun j => h1 26 j (by decide) (by decide))).trans h.2.2.1, (f.2 6 0 h2).trans h.2.2.2.1, (f.gr h3).trans h.2.2.2.2.1, (f.2 5 5 h4).trans h.2.2.2.2.2⟩
theorem xTk_no {a j : Nat} (h : a ≠ 5) : xTk a j = false := by simp [xTk, h]
theorem xEm_no {C a j : Nat} (h : a ≠ 5) (h2 : a = 8 → j ≠ 4) (h3 : a = 36 → j < C) : xEm C a j = false := by
  unfold xEm
  rw [xTk_no h]
  simp only [Bool.or_eq_false_iff, Bool.and_eq_false_iff, decide_eq_false_iff_not, beq_eq_false_iff_ne]
  exact ⟨⟨trivial, by omega⟩, by omega⟩
theorem xTk_Em {C a j : Nat} (h : xEm C a j = false) : xTk a j = false := by
  unfold xEm at h
  simp only [Bool.or_eq_false_iff] at h
  exact h.1.1
theorem xEm_le {C C' a j : Nat} (hC : C ≤ C') (h : xEm C a j = false) : xEm C' a j = false := by
  unfold xEm at h ⊢
  simp only [Bool.or_eq_false_iff, Bool.and_eq_false_iff, decide_eq_false_iff_not] at h ⊢
  refine ⟨h.1, ?_⟩
  rcases h.2 with q | q
  · exact Or.inl q
  · exact Or.inr (by omega)
theorem sg_app {f : Nat → Int32} {s : Nat} {a b : Ex} (h1 : seg f s a) (h2 : seg f (s + a.length) b) : seg f s (a ++ b) := by
  intro j c hj
  by_cases q : j < a.length
  · rw [List.getElem?_append_left q] at hj
    exact h1 j c hj
  · rw [List.getElem?_append_right (by omega)] at hj
    have := h2 (j - a.length) c hj
    rwa [show s + a.length + (j - a.length) = s + j by omega] at this
theorem sg_one {f : Nat → Int32} {s : Nat} {c : Int32} (h : f s = c) : seg f s [c] := by
  intro j x hj
  cases j with
  | zero => cases hj; exact h
  | succ j => cases hj
theorem sg_nil {f : Nat → Int32} {s : Nat} : seg f s [] := fun j x hj => by cases hj
theorem sg_fm {τ τ' : St} {C C' : Nat} {E : Ex} (h : seg (gr τ 36) C E) (f : Fm (xEm C') τ τ') (hC : C + E.length ≤ C') : seg (gr τ' 36) C E := by
  intro j c hj
  have hl : j < E.length := by
    rw [List.getElem?_eq_some_iff] at hj
    exact hj.1
  have := f.2 36 (C + j) (xEm_no (by decide) (by omega) (by omega))
  exact this.trans (h j c hj)
section BD
variable {σ : St} {K P : Nat → Nat} {V : Nat → Int32} {NM : Nat → List Nat} {M : Nat}
theorem AtD.em {i C : Nat} {τ τ' : St} (h : AtD σ M i τ) (f : Fm (xEm C) τ τ') (g : ∀ j, gv τ' 5 j = gv τ 5 j) : AtD σ M i τ' :=
  ⟨⟨(f.gr (fun j => xEm_no (by decide) (by omega) (by omega))).trans h.1.1, (f.gr (fun j => xEm_no (by decide) (by omega) (by omega))).trans h.1.2.1, (f.gr (fun j => xEm_no (by decide) (by omega) (by omega))).trans h.1.2.2.1, (f.2 6 0 (xEm_no (by decide) (by omega) (by omega))).trans h.1.2.2.2.1, (f.gr (fun j => xEm_no (by decide) (by omega) (by omega))).trans h.1.2.2.2.2.1, (g 5).trans h.1.2.2.2.2.2⟩, (g 4).trans h.2.1, h.2.2⟩
theorem tokV {i : Nat} {τ : St} (hT : TkD σ K P V NM M) (h : TpD σ τ) (hi : i ≤ M) (hk : K i = 2) : gv τ 204 i = V i := (congrFun h.2.2.2.2.1 i).trans (hT.2.2.2.2.1 i hi hk)
/-- where it stands, what is wrong is the syntax -/
theorem AtD.no {i : Nat} {τ : St} (hT : TkD σ K P V NM M) (h : AtD σ M i τ) : FlD P 1 i τ :=
  ⟨h.1.2.2.2.2.2, ⟨h.2.1, by have := hT.1; have := h.2.2; omega, (congrFun h.1.2.2.1 i).trans (hT.2.2.1 i h.2.2).2⟩, Or.inl rfl⟩
/-- or there is no room -/
theorem AtD.full {i : Nat} {τ : St} (hT : TkD σ K P V NM M) (h : AtD σ M i τ) : FlD P 2 i (pv τ 5 5 2) ∧ Fm xTk τ (pv τ 5 5 2) := by
  refine ⟨⟨by rw [gv_pv, if_pos ⟨rfl, rfl⟩]; rfl, ⟨by rw [gv_pv, if_neg (by decide)]; exact h.2.1, by have := hT.1; have := h.2.2; omega, ?_⟩, Or.inr rfl⟩, Fm_pv rfl⟩
  rw [gv_pv, if_neg (by omega)]
  exact (congrFun h.1.2.2.1 i).trans (hT.2.2.1 i h.2.2).2
theorem kindD {i : Nat} {τ : St} {Q : Int32 → St → Prop} (hT : TkD σ K P V NM M) (h : AtD σ M i τ) (hQ : Q (nI (K i)) τ) : wX0_kind τ Q := by
  obtain ⟨h1, h2, h3⟩ := h
  have h6 := hT.1
  rw [wX0_kind, h2, nI_clamp (by omega), show gv τ 25 i = nI (K i) from (congrFun h1.2.1 i).trans (hT.2.2.1 i h3).1]
  exact ⟨fun c => absurd c (nI_nlt (a := 600) (by omega) (by decide)), fun _ => ⟨vp_in_nI (by omega) (by decide), hQ⟩⟩
theorem nr0 : narrow .boolean (.int (0 : Int32)) = .int (0 : Int32) := rfl
theorem takeD {i k : Nat} {τ : St} {Q : Int32 → St → Prop} (hT : TkD σ K P V NM M) (h : AtD σ M i τ) (hk : 2 ≤ k) (hk2 : k ≤ 38) (hok : ∀ τ', K i = k → i < 600 → tkP K k i = .ok (i + 1) () → AtD σ M (i + 1) τ' → Fm xTk τ τ' → Q 1 τ') (hno : ∀ f τ', tkP K k i = .no f i → FlD P f i τ' → Fm xTk τ τ' → Q 0 τ') : wX0_take (nI k) τ Q := by
  have h6 := hT.1
  have h3 := h.2.2
  rw [wX0_take, h.2.1, nI_clamp (by omega), show gv τ 25 i = nI (K i) from (congrFun h.1.2.1 i).trans (hT.2.2.1 i h3).1]
  refine ⟨fun c => absurd c (nI_nlt (a := 600) (by omega) (by decide)), fun _ => ⟨vp_in_nI (by omega) (by decide), fun c => ?_, fun c => ?_⟩⟩
  · have hk1 : K i = k := (nI_eq (by have := hT.2.2.2.1.1 i; omega) (by omega)).mp c
    refine ⟨fun c2 => ?_, fun c2 => ?_⟩
    · have hi : ¬ i < 600 := fun q => by
        have := (nI_eq (b := 600) (by omega) (by decide)).mp c2
        omega
      rintro σ6 rfl
      exact hno 2 _ (by unfold tkP; rw [if_pos hk1, if_neg hi]) (h.full hT).1 (h.full hT).2
    · have hi : i < 600 := Nat.lt_of_le_of_ne (by omega) (fun e => c2 (by rw [e]; rfl))
      rintro σ5 rfl
      rw [nI_1]
      have hM : i + 1 ≤ M := by
        rcases hT.2.1 with q | q
        · omega
        · have : i ≠ M := fun e => by rw [← e, hk1] at q; omega
          omega
      refine hok _ hk1 hi (by unfold tkP; rw [if_pos hk1, if_pos hi]) ⟨h.1.fm (Fm_pv (X := fun a j => a == 5 && j == 4) rfl) (fun a j h1 h2 => by simp; omega) rfl, by rw [gv_pv, if_pos ⟨rfl, rfl⟩], hM⟩ (Fm_pv rfl)
  · have hk1 : ¬ K i = k := fun e => c (by rw [e])
    exact hno 1 τ (by unfold tkP; rw [if_neg hk1]) (h.no hT) Fm.rf
theorem emitD {C : Nat} {x : Int32} {τ : St} {Q : St → Prop} (hg : gn τ ≤ 7000) (e : gv τ 8 4 = nI C) (hC : C < gn τ) (hQ : ∀ τ', Fm (xEm C) τ τ' → (∀ j, gv τ' 5 j = gv τ 5 j) → gv τ' 8 4 = nI (C + 1) → gr τ' 36 C = x → Q τ') : wX2_emit x τ Q := by
  rw [wX2_emit, e]
  refine ⟨fun c => absurd c (nI_ge hC (by omega)), fun _ => ⟨vp_in_nI hC (by omega), ?_⟩⟩
  rw [nI_clamp (by omega)]
  rintro σ3 rfl
  rw [show gv (pv τ 36 C x) 8 4 = nI C by rw [gv_pv, if_neg (by omega)]; exact e, nI_1]
  rintro σ4 rfl
  refine hQ _ ((Fm_pv (by simp [xEm])).tr (Fm_pv (by simp [xEm]))) (fun j => ?_) ?_ ?_
  · rw [gv_pv, if_neg (by omega), gv_pv, if_neg (by omega)]
  · rw [gv_pv, if_pos ⟨rfl, rfl⟩]
  · show gv (pv (pv τ 36 C x) 8 4 (nI (C + 1))) 36 C = x
    rw [gv_pv, if_neg (by omega), gv_pv, if_pos ⟨rfl, rfl⟩]
/-- what the reader makes of a text from token i on, its code from C on -/
def RsD (σ : St) (P : Nat → Nat) (M : Nat) (x : Rs Ex) (C : Nat) (τ : St) (W : (Int32 → St → Prop) → Prop) : Prop := ∀ Q : Int32 → St → Prop, (∀ j E τ', x = .ok j E → AtD σ M j τ' → gv τ' 8 4 = nI (C + E.length) → seg (gr τ' 36) C E → Fm (xEm C) τ τ' → Q 1 τ') → (∀ f j τ', x = .no f j → FlD P f j τ' → Fm (xEm C) τ τ' → Q 0 τ') → W Q
def PrD (σ : St) (M i C : Nat) (τ : St) : Prop := AtD σ M i τ ∧ gv τ 8 4 = nI C ∧ C + 600 ≤ gn τ + i ∧ gn τ ≤ 7000
theorem e84 {τ τ' : St} {C : Nat} (f : Fm xTk τ τ') (h : gv τ 8 4 = nI C) : gv τ' 8 4 = nI C := (f.2 8 4 rfl).trans h
theorem unitD (hT : TkD σ K P V NM M) {Sw : Int32 → St → (Int32 → St → Prop) → Prop} {S : Nat → Rs Ex} {dp : Nat} (hdp : dp ≤ 9) (hS : dp < 8 → ∀ i C τ, PrD σ M i C τ → RsD σ P M (S i) C τ (fun Q => Sw (nI (dp + 1)) τ Q)) {i C : Nat} {τ : St} (h : PrD σ M i C τ) : RsD σ P M (unP K V S dp i) C τ (fun Q => wX0_unit Sw (nI dp) τ Q) := by
  intro Q hok hno
  obtain ⟨hA, e8, hC, hg⟩ := h
  have h6 := hT.1
  have hiM := hA.2.2
  have hK := hT.2.2.2.1.1 i
  have lit : ∀ (k : Nat) (x : Int32), K i = k → 2 ≤ k → (unP K V S dp i = (tkP K k i).bd fun j _ => .ok j [x]) → wX0_unit_42 Sw Q (nI k) x τ := by
    intro k x hk hk2 hu
    have tl : ∀ τ1, Fm (xEm C) τ τ1 → (∀ j, gv τ1 5 j = gv τ 5 j) → (i < 600 → gv τ1 8 4 = nI (C + 1) ∧ gr τ1 36 C = x) → wX0_take (nI k) τ1 (fun r17 σ18 => narrow .boolean (.int r17) = .int r17 ∧ Q r17 σ18) := by
      intro τ1 f1 g1 s1
      have A1 : AtD σ M i τ1 := hA.em f1 g1
      refine takeD hT A1 hk2 (by omega) (fun τ2 _ hi ht A2 f2 => ⟨rfl, hok (i + 1) [x] τ2 (by rw [hu, ht]; rfl) A2 ?_ ?_ (f1.tr (f2.mono (fun _ _ q => xTk_Em q)))⟩) (fun f τ2 ht F2 f2 => ⟨nr0, hno f i τ2 (by rw [hu, ht]; rfl) F2 (f1.tr (f2.mono (fun _ _ q => xTk_Em q)))⟩)
      · rw [f2.2 8 4 rfl]
        exact (s1 hi).1
      · exact sg_one ((f2.2 36 C rfl).trans (s1 hi).2)
    unfold wX0_unit_42
    by_cases hi : C < gn τ
    · exact emitD hg e8 hi (fun τ1 f1 g1 q1 q2 => tl τ1 f1 g1 (fun _ => ⟨q1, q2⟩))
    · rw [wX2_emit, e8]
      refine ⟨fun _ => tl τ Fm.rf (fun _ => rfl) (fun q => absurd q (by omega)), fun c => absurd (nI_le (by omega) (by omega)) c⟩
  refine kindD hT hA ⟨fun c => ?_, fun c => ⟨fun c2 => ?_, fun c2 => ?_⟩⟩
  · have hk : K i = 2 := (nI_eq (b := 2) (by omega) (by decide)).mp c
    have := lit 2 (V i) hk (by decide) (by unfold unP; rw [if_pos hk])
    rw [hk]
    unfold wX0_unit_16
    rw [hA.2.1, nI_clamp (by omega), tokV hT hA.1 hiM hk]
    exact ⟨fun _ => ⟨vp_in_nI (by omega) (by decide), this⟩, fun c => absurd rfl c⟩
  · have hk : ¬ K i = 2 := fun e => c (by rw [e]; rfl)
    have hk2 : K i < 27 := (nI_ltI (b := 27) (by omega) (by decide)).mp c2
    have hop : ¬ (K i = 6 ∧ 8 ≤ dp) → wX0_unit_70 Sw Q (nI dp) τ := by
      intro hn
      have hu : unP K V S dp i = (tkP K 6 i).bd fun j _ => (S j).bd fun k E => (tkP K 7 k).bd fun l _ => .ok l E := by
        unfold unP
        rw [if_neg hk, if_neg (by omega), if_neg hn]
      refine takeD (k := 6) hT hA (by decide) (by decide) (fun τ1 hk6 hi ht A1 f1 => ⟨z11, fun _ => ?_⟩) (fun f τ1 ht F1 f1 => ⟨fun _ => hno f i τ1 (by rw [hu, ht]; rfl) F1 (f1.mono (fun _ _ q => xTk_Em q)), fun c => absurd rfl c⟩)
      rw [nI_1]
      have hd8 : dp < 8 := Nat.not_le.mp (fun q => hn ⟨hk6, q⟩)
      refine hS hd8 (i + 1) C τ1 ⟨A1, e84 f1 e8, by rw [f1.gn]; omega, by rw [f1.gn]; exact hg⟩ _ (fun k E τ2 hs A2 q8 qs f2 => ⟨z11, fun _ => ?_⟩) (fun f j τ2 hs F2 f2 => ⟨fun _ => hno f j τ2 (by rw [hu, ht, bd_o, hs, bd_n]) F2 ((f1.mono (fun _ _ q => xTk_Em q)).tr f2), fun c => absurd rfl c⟩)
      have hu2 : unP K V S dp i = (tkP K 7 k).bd fun l _ => .ok l E := by rw [hu, ht, bd_o, hs, bd_o]
      refine takeD (k := 7) hT A2 (by decide) (by decide) (fun τ3 _ _ ht3 A3 f3 => ⟨z11, fun _ => hok (k + 1) E τ3 (by rw [hu2, ht3]; rfl) A3 ((f3.2 8 4 rfl).trans q8) ?_ (((f1.mono (fun _ _ q => xTk_Em q)).tr f2).tr (f3.mono (fun _ _ q => xTk_Em q)))⟩) (fun f τ3 ht3 F3 f3 => ⟨fun _ => hno f k τ3 (by rw [hu2, ht3]; rfl) F3 (((f1.mono (fun _ _ q => xTk_Em q)).tr f2).tr (f3.mono (fun _ _ q => xTk_Em q))), fun c => absurd rfl c⟩)
      intro j c hj
      exact (f3.2 36 (C + j) rfl).trans (qs j c hj)
    refine ⟨fun c3 => ⟨fun c4 => ?_, fun c4 => ?_⟩, fun c3 => hop (fun q => c3 (by rw [q.1]; rfl))⟩
    · have hd : dp < 8 := (nI_ltI (b := 8) (by omega) (by decide)).mp c4
      exact hop (fun q => absurd q.2 (by omega))
    · have hd : ¬ dp < 8 := fun q => c4 ((nI_ltI (b := 8) (by omega) (by decide)).mpr q)
      have hk6 : K i = 6 := (nI_eq (b := 6) (by omega) (by decide)).mp c3
      rintro σ7 rfl
      refine hno 2 i _ ?_ (hA.full hT).1 ((hA.full hT).2.mono (fun _ _ q => xTk_Em q))
      unfold unP
      rw [if_neg hk, if_neg (by omega), if_pos ⟨hk6, by omega⟩]
  · have hk27 : 27 ≤ K i := Nat.not_lt.mp (fun q => c2 ((nI_ltI (b := 27) (by omega) (by decide)).mpr q))
    have := lit (K i) (-(nI (K i))) rfl (by omega) (by unfold unP; rw [if_neg (by omega), if_pos hk27])
    exact ⟨fun q => absurd q c, fun _ => this⟩
end BD
