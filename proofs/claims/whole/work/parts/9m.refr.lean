/-! read: the reference's reader, its small steps. -/
/-- a token's kind as the reference numbers it -/
def kN (k : Nat) : Nat := if k = 1 then 3 else if k = 3 then 1 else if k ≤ 14 then k else if k = 20 then 26 else if k = 21 then 28 else if k = 22 then 27 else if k = 23 then 24 else if k = 24 then 25 else k + 4
theorem kN_inj : ∀ k, k < 39 → ∀ k', k' < 39 → kN k = kN k' → k = k' := by decide
theorem kN_le : ∀ k, k < 39 → kN k < 43 := by decide
theorem kM_eq {k k' : Nat} (h : k ≤ 38) (h' : k' ≤ 38) : nI (kN k) = nI (kN k') ↔ k = k' := by
  have b1 := kN_le k (by omega)
  have b2 := kN_le k' (by omega)
  rw [nI_eq (by omega) (by omega)]
  exact ⟨fun e => kN_inj k (by omega) k' (by omega) e, fun e => by rw [e]⟩
def TpM (σ τ : St) : Prop := gr τ 50 = gr σ 50 ∧ gr τ 51 = gr σ 51 ∧ gr τ 52 = gr σ 52 ∧ gw τ 53 = gw σ 53
def TkM (σ : St) (K P : Nat → Nat) (V : Nat → Int32) (NM : Nat → List Nat) (M : Nat) : Prop := M ≤ 600 ∧ (M = 600 ∨ K M ≤ 1) ∧ (∀ i, i ≤ M → gv σ 50 i = nI (kN (K i)) ∧ gv σ 51 i = nI (P i) ∧ (K i = 2 → gv σ 52 i = V i) ∧ (K i = 3 → gw σ 53 i = pkN 27 (NM i))) ∧ OkT K V ∧ (∀ i, K i = 3 → okN (NM i)) ∧ (∀ i j, i < j → j ≤ M → P i < P j ∧ P j < 2 ^ 30) ∧ ∀ j, j ≤ M → P j < 2 ^ 30
def AtM (σ : St) (M i : Nat) (τ : St) : Prop := TpM σ τ ∧ gv τ 11 11 = nI i ∧ i ≤ M ∧ gv τ 11 13 = 0
/-- behind a fault -/
def FlM (P : Nat → Nat) (f i : Nat) (τ : St) : Prop := gv τ 11 13 = nI f ∧ (f = 1 ∨ f = 2) ∧ gv τ 11 14 = nI (P i) ∧ P i < 2 ^ 30
/-- behind a fault, how far is told of no one -/
def FaM (P : Nat → Nat) (f i : Nat) (τ : St) : Prop := FlM P f i τ
def xTm (a j : Nat) : Bool := a == 11 && (j == 11 || j == 13 || j == 14)
theorem xTm_no {a j : Nat} (h : a ≠ 11) : xTm a j = false := by simp [xTm, h]
theorem TpM.fm {X : Nat → Nat → Bool} {σ τ τ' : St} (h : TpM σ τ) (f : Fm X τ τ') (h1 : ∀ a j, 50 ≤ a → a ≤ 52 → X a j = false) : TpM σ τ' :=
  ⟨(f.gr (fun j => h1 50 j (by decide) (by decide))).trans h.1, (f.gr (fun j => h1 51 j (by decide) (by decide))).trans h.2.1, (f.gr (fun j => h1 52 j (by decide) (by decide))).trans h.2.2.1, f.gw.trans h.2.2.2⟩
theorem FlM.fm {X : Nat → Nat → Bool} {P : Nat → Nat} {τ τ' : St} {f i : Nat} (h : FlM P f i τ) (g : Fm X τ τ') (h1 : X 11 13 = false) (h2 : X 11 14 = false) : FlM P f i τ' := ⟨(g.2 11 13 h1).trans h.1, h.2.1, (g.2 11 14 h2).trans h.2.2.1, h.2.2.2⟩
theorem FlM.ne {P : Nat → Nat} {τ : St} {f i : Nat} (h : FlM P f i τ) : ¬ gv τ 11 13 = 0 ∧ ¬ gv τ 11 13 ≤ 0 := by
  rw [h.1]
  rcases h.2.1 with q | q <;> rw [q] <;> exact ⟨by decide, by decide⟩
section RM
variable {σ : St} {K P : Nat → Nat} {V : Nat → Int32} {NM : Nat → List Nat} {M : Nat}
theorem isM {i k : Nat} {τ : St} {Q : Int32 → St → Prop} (hT : TkM σ K P V NM M) (h : AtM σ M i τ) (hk : k ≤ 38) {y : Int32} (hy : y = nI (kN k)) (h1 : K i = k → Q 1 τ) (h0 : K i ≠ k → Q 0 τ) : wX12_is y τ Q := by
  obtain ⟨a1, a2, a3, a4⟩ := h
  have h6 := hT.1
  rw [hy, wX12_is, a2, nI_clamp (by omega), show gv τ 50 i = nI (kN (K i)) from (congrFun a1.1 i).trans (hT.2.2.1 i a3).1]
  refine ⟨fun _ => ⟨vp_in_nI (by omega) (by decide), fun c => h1 ((kM_eq (hT.2.2.2.1.1 i) hk).mp c), fun c => h0 (fun e => c (by rw [e]))⟩, fun c => absurd a4 c⟩
theorem isF {f i : Nat} {τ : St} {Q : Int32 → St → Prop} {y : Int32} (h : FlM P f i τ) (h0 : Q 0 τ) : wX12_is y τ Q := ⟨fun c => absurd c h.ne.1, fun _ => h0⟩
theorem failM {i f : Nat} {τ : St} {Q : St → Prop} (hT : TkM σ K P V NM M) (h : AtM σ M i τ) (hf : f = 1 ∨ f = 2) {y : Int32} (hy : y = nI f) (hQ : ∀ τ', Fm xTm τ τ' → gv τ' 11 11 = gv τ 11 11 → FlM P f i τ' → Q τ') : wX12_fail y τ Q := by
  obtain ⟨a1, a2, a3, a4⟩ := h
  have h6 := hT.1
  rw [hy]
  refine ⟨fun _ => ?_, fun c => absurd (by rw [a4]; decide) c⟩
  rintro σ2 rfl
  have e : gv (pv τ 11 13 (nI f)) 11 11 = nI i := by rw [gv_pv, if_neg (by decide)]; exact a2
  rw [e, nI_clamp (by omega)]
  refine ⟨vp_in_nI (by omega) (by decide), ?_⟩
  rintro σ4 rfl
  refine hQ _ ((Fm_pv rfl).tr (Fm_pv rfl)) ?_ ⟨?_, hf, ?_, hT.2.2.2.2.2.2 i a3⟩
  · rw [gv_pv, if_neg (by decide), gv_pv, if_neg (by decide)]
  · rw [gv_pv, if_neg (by decide), gv_pv, if_pos ⟨rfl, rfl⟩]
  · rw [gv_pv, if_pos ⟨rfl, rfl⟩, gv_pv, if_neg (by omega)]
    exact (congrFun a1.2.1 i).trans (hT.2.2.1 i a3).2.1
theorem failF {f i : Nat} {τ : St} {Q : St → Prop} {y : Int32} (h : FlM P f i τ) (hQ : Q τ) : wX12_fail y τ Q := ⟨fun c => absurd c h.ne.2, fun _ => hQ⟩
/-- on, from a token that isn't the last one -/
theorem nextM {i k : Nat} {τ : St} {Q : St → Prop} (hT : TkM σ K P V NM M) (h : AtM σ M i τ) (hk : K i = k) (hk2 : 2 ≤ k) (hok : ∀ τ', i < 600 → tkP K k i = .ok (i + 1) () → AtM σ M (i + 1) τ' → Fm xTm τ τ' → Q τ') (hno : ∀ f τ', tkP K k i = .no f i → FlM P f i τ' → Fm xTm τ τ' → Q τ') : wX12_next τ Q := by
  have h6 := hT.1
  have a3 := h.2.2.1
  rw [wX12_next, h.2.1]
  refine ⟨fun c => ?_, fun c => ?_⟩
  · have hi : i = 600 := (nI_eq (b := 600) (by omega) (by decide)).mp c
    exact failM (f := 2) hT h (Or.inr rfl) rfl (fun τ1 f1 _ F1 => hno 2 τ1 (by unfold tkP; rw [if_pos hk, if_neg (by omega)]) F1 f1)
  · have hi : i < 600 := by
      have : i ≠ 600 := fun e => c (by rw [e]; rfl)
      omega
    rintro σ2 rfl
    rw [nI_1]
    have hM : i + 1 ≤ M := by
      rcases hT.2.1 with q | q
      · omega
      · have : i ≠ M := fun e => by rw [← e, hk] at q; omega
        omega
    refine hok _ hi (by unfold tkP; rw [if_pos hk, if_pos hi]) ⟨h.1.fm (Fm_pv (X := xTm) rfl) (fun a j h1 h2 => xTm_no (by omega)), by rw [gv_pv, if_pos ⟨rfl, rfl⟩], hM, by rw [gv_pv, if_neg (by decide)]; exact h.2.2.2⟩ (Fm_pv rfl)
theorem nextF {f i : Nat} {τ : St} {Q : St → Prop} (h : FlM P f i τ) (hQ : ∀ τ', Fm xTm τ τ' → FlM P f i τ' → Q τ') : wX12_next τ Q := by
  refine ⟨fun _ => failF h (hQ τ Fm.rf h), fun _ => ?_⟩
  rintro σ2 rfl
  exact hQ _ (Fm_pv rfl) (h.fm (Fm_pv (X := fun a j => a == 11 && j == 11) rfl) rfl rfl)
theorem mustM {i k : Nat} {τ : St} {Q : St → Prop} (hT : TkM σ K P V NM M) (h : AtM σ M i τ) (hk2 : 2 ≤ k) (hk : k ≤ 38) {y : Int32} (hy : y = nI (kN k)) (hok : ∀ τ', K i = k → i < 600 → tkP K k i = .ok (i + 1) () → AtM σ M (i + 1) τ' → Fm xTm τ τ' → Q τ') (hno : ∀ f τ', tkP K k i = .no f i → FlM P f i τ' → Fm xTm τ τ' → Q τ') : wX12_must y τ Q := by
  refine isM hT h hk hy (fun e => ⟨z11, fun _ => nextM hT h e hk2 (fun τ1 hi ht A1 f1 => hok τ1 e hi ht A1 f1) hno⟩) (fun e => ⟨fun _ => failM (f := 1) hT h (Or.inl rfl) rfl (fun τ1 f1 _ F1 => hno 1 τ1 (by unfold tkP; rw [if_neg e]) F1 f1), fun c => absurd rfl c⟩)
theorem mustF {f i : Nat} {τ : St} {Q : St → Prop} {y : Int32} (h : FlM P f i τ) (hQ : Q τ) : wX12_must y τ Q := isF h ⟨fun _ => failF h hQ, fun c => absurd rfl c⟩
end RM
def xEx (C a j : Nat) : Bool := (a == 11 && (j == 11 || j == 12 || j == 13 || j == 14 || j == 38 || j == 42)) || a == 72 || ((a == 70 || a == 71) && decide (C ≤ j))
theorem xEx_le {C C' a j : Nat} (hC : C ≤ C') (h : xEx C a j = false) : xEx C' a j = false := by
  unfold xEx at h ⊢
  simp only [Bool.or_eq_false_iff, Bool.and_eq_false_iff, decide_eq_false_iff_not] at h ⊢
  refine ⟨h.1, ?_⟩
  rcases h.2 with q | q
  · exact Or.inl q
  · exact Or.inr (by omega)
theorem xTm_Ex {C a j : Nat} (h : xEx C a j = false) : xTm a j = false := by
  unfold xEx at h
  unfold xTm
  simp only [Bool.or_eq_false_iff, Bool.and_eq_false_iff, decide_eq_false_iff_not, beq_eq_false_iff_ne] at h ⊢
  omega
theorem rp_app {f g : Nat → Int32} {s : Nat} {a b : Ex} (h1 : rpE f g s a) (h2 : rpE f g (s + a.length) b) : rpE f g s (a ++ b) := by
  intro j c hj
  by_cases q : j < a.length
  · rw [List.getElem?_append_left q] at hj
    exact h1 j c hj
  · rw [List.getElem?_append_right (by omega)] at hj
    have := h2 (j - a.length) c hj
    rwa [show s + a.length + (j - a.length) = s + j by omega] at this
theorem rp_nil {f g : Nat → Int32} {s : Nat} : rpE f g s [] := fun j x hj => by cases hj
theorem rp_one {f g : Nat → Int32} {s : Nat} {c : Int32} (h : f s = eA c ∧ g s = eB c) : rpE f g s [c] := by
  intro j x hj
  cases j with
  | zero => cases hj; exact h
  | succ j => cases hj
theorem rp_fm {X : Nat → Nat → Bool} {τ τ' : St} {C : Nat} {E : Ex} (h : rpE (gr τ 70) (gr τ 71) C E) (f : Fm X τ τ') (hx : ∀ a j, a = 70 ∨ a = 71 → j < C + E.length → X a j = false) : rpE (gr τ' 70) (gr τ' 71) C E := by
  intro j c hj
  have hl : j < E.length := by
    rw [List.getElem?_eq_some_iff] at hj
    exact hj.1
  obtain ⟨q1, q2⟩ := h j c hj
  exact ⟨(f.2 70 (C + j) (hx 70 _ (Or.inl rfl) (by omega))).trans q1, (f.2 71 (C + j) (hx 71 _ (Or.inr rfl) (by omega))).trans q2⟩
theorem xEx_70 {C a j : Nat} (h : a = 70 ∨ a = 71) (hj : j < C) : xEx C a j = false := by
  unfold xEx
  simp only [Bool.or_eq_false_iff, Bool.and_eq_false_iff, decide_eq_false_iff_not, beq_eq_false_iff_ne]
  omega
theorem emitM {C : Nat} {k v c : Int32} {τ : St} {Q : St → Prop} (e : gv τ 11 38 = nI C) (hC : C < 20000) (h1 : k = eA c) (h2 : v = eB c) (hQ : ∀ τ', Fm (fun a j => (a == 11 && j == 38) || ((a == 70 || a == 71) && j == C)) τ τ' → gv τ' 11 38 = nI (C + 1) → rpE (gr τ' 70) (gr τ' 71) C [c] → Q τ') : wX12_emit k v τ Q := by
  rw [wX12_emit, e, nI_clamp (by omega)]
  refine ⟨vp_in_nI hC (by decide), ?_⟩
  rintro σ2 rfl
  rw [show gv (pv τ 70 C k) 11 38 = nI C by rw [gv_pv, if_neg (by omega)]; exact e, nI_clamp (by omega)]
  refine ⟨vp_in_nI hC (by decide), ?_⟩
  rintro σ4 rfl
  rw [show gv (pv (pv τ 70 C k) 71 C v) 11 38 = nI C by rw [gv_pv, if_neg (by omega), gv_pv, if_neg (by omega)]; exact e, nI_1]
  rintro σ5 rfl
  refine hQ _ (((Fm_pv (by simp)).tr (Fm_pv (by simp))).tr (Fm_pv (by simp))) (by rw [gv_pv, if_pos ⟨rfl, rfl⟩]) (rp_one ⟨?_, ?_⟩)
  · show gv (pv (pv (pv τ 70 C k) 71 C v) 11 38 (nI (C + 1))) 70 C = eA c
    rw [gv_pv, if_neg (by omega), gv_pv, if_neg (by omega), gv_pv, if_pos ⟨rfl, rfl⟩, h1]
  · show gv (pv (pv (pv τ 70 C k) 71 C v) 11 38 (nI (C + 1))) 71 C = eB c
    rw [gv_pv, if_neg (by omega), gv_pv, if_pos ⟨rfl, rfl⟩, h2]
/-- the signs that wait, the first one lowest -/
def WsM (S : List Int32) (τ : St) : Prop := gv τ 11 42 = nI S.length ∧ ∀ k x, S[k]? = some x → gv τ 72 k = x
/-- a sign's code -/
def ocM (x : Int32) : Int32 := if x = 8 then -8 else if x = 9 then -9 else if x = 10 then -10 else -15
theorem WsM.pop {S : List Int32} {x : Int32} {τ τ' : St} (h : WsM (S ++ [x]) τ) (e : gv τ' 11 42 = nI S.length) (f : ∀ k, gv τ' 72 k = gv τ 72 k) : WsM S τ' := by
  refine ⟨e, fun k y hk => (f k).trans (h.2 k y ?_)⟩
  have : k < S.length := by
    rw [List.getElem?_eq_some_iff] at hk
    exact hk.1
  rw [List.getElem?_append_left this]
  exact hk
theorem WsM.push {S : List Int32} {x : Int32} {τ τ' : St} (h : WsM S τ) (e : gv τ' 11 42 = nI (S.length + 1)) (f : ∀ k, gv τ' 72 k = if k = S.length then x else gv τ 72 k) : WsM (S ++ [x]) τ' := by
  refine ⟨by rw [List.length_append, List.length_singleton]; exact e, fun k y hk => ?_⟩
  rw [f k]
  by_cases q : k < S.length
  · rw [List.getElem?_append_left q] at hk
    rw [if_neg (by omega)]
    exact h.2 k y hk
  · rw [List.getElem?_append_right (by omega)] at hk
    have hz : k - S.length = 0 := by
      by_cases z : k - S.length = 0
      · exact z
      · obtain ⟨w, hw⟩ : ∃ w, k - S.length = w + 1 := ⟨k - S.length - 1, by omega⟩
        rw [hw] at hk
        cases hk
    rw [hz] at hk
    cases hk
    rw [if_pos (by omega)]
theorem WsM.fm {X : Nat → Nat → Bool} {S : List Int32} {τ τ' : St} (h : WsM S τ) (f : Fm X τ τ') (h1 : X 11 42 = false) (h2 : ∀ j, X 72 j = false) : WsM S τ' := ⟨(f.2 11 42 h1).trans h.1, fun k x hk => (f.2 72 k (h2 k)).trans (h.2 k x hk)⟩
