/-! read: the reference's expressions: a pile of signs. -/
def xCo (C a j : Nat) : Bool := (a == 11 && (j == 38 || j == 42)) || ((a == 70 || a == 71) && decide (C ≤ j))
theorem xCo_Ex {C C' a j : Nat} (hC : C ≤ C') (h : xEx C a j = false) : xCo C' a j = false := by
  unfold xEx at h
  unfold xCo
  simp only [Bool.or_eq_false_iff, Bool.and_eq_false_iff, decide_eq_false_iff_not, beq_eq_false_iff_ne] at h ⊢
  omega
theorem xCo_le {C C' a j : Nat} (hC : C ≤ C') (h : xCo C a j = false) : xCo C' a j = false := by
  unfold xCo at h ⊢
  simp only [Bool.or_eq_false_iff, Bool.and_eq_false_iff, decide_eq_false_iff_not, beq_eq_false_iff_ne] at h ⊢
  omega
def sgM (x : Int32) : Prop := x = 3 ∨ x = 8 ∨ x = 9 ∨ x = 10
theorem popM {S : List Int32} {x : Int32} {C : Nat} {τ : St} {Q : St → Prop} {K0 : Int32 → St → Prop} {x1 : Int32} (h : WsM (S ++ [x]) τ) (hS : S.length < 60) (hx : sgM x) (e : gv τ 11 38 = nI C) (hC : C < 20000) (hQ : ∀ τ', WsM S τ' → gv τ' 11 38 = nI (C + 1) → rpE (gr τ' 70) (gr τ' 71) C [ocM x] → Fm (xCo C) τ τ' → K0 x1 τ') : wX12_comesOut_43 Q K0 x1 τ := by
  have ew : gv τ 11 42 = nI (S.length + 1) := by
    have := h.1
    rwa [List.length_append, List.length_singleton] at this
  have ex : gv τ 72 S.length = x := h.2 S.length x (by rw [List.getElem?_append_right (by omega), Nat.sub_self]; rfl)
  intro σ1 e1
  rw [ew, nI_pred] at e1
  have f1 : Fm (fun a j => a == 11 && j == 42) τ σ1 := by rw [e1]; exact Fm_pv rfl
  have w1 : gv σ1 11 42 = nI S.length := by rw [e1, gv_pv, if_pos ⟨rfl, rfl⟩]
  rw [w1, nI_clamp (by omega), show gv σ1 72 S.length = x from (f1.2 72 _ rfl).trans ex]
  refine ⟨vp_in_nI (by omega) (by decide), ?_⟩
  rintro x2 rfl
  have go : ∀ k : Int32, k = eA (ocM x2) → (0 : Int32) = eB (ocM x2) → wX12_comesOut_95 Q K0 x1 k σ1 := by
    intro k h1 h2
    refine emitM ((f1.2 11 38 rfl).trans e) hC h1 h2 (fun τ2 f2 e2 r2 => ?_)
    have f12 : Fm (xCo C) τ τ2 := (f1.mono (fun a j q => by unfold xCo at q; simp only [Bool.or_eq_false_iff, Bool.and_eq_false_iff, decide_eq_false_iff_not, beq_eq_false_iff_ne] at q ⊢; omega)).tr (f2.mono (fun a j q => by unfold xCo at q; simp only [Bool.or_eq_false_iff, Bool.and_eq_false_iff, decide_eq_false_iff_not, beq_eq_false_iff_ne] at q ⊢; omega))
    refine hQ τ2 (h.pop ((f2.2 11 42 (by simp)).trans w1) (fun k => (f2.2 72 k (by simp)).trans (f1.2 72 k rfl))) e2 r2 f12
  rcases hx with rfl | rfl | rfl | rfl
  · exact ⟨fun c => absurd c (by decide), fun _ => ⟨fun c => absurd c (by decide), fun _ => ⟨fun c => absurd c (by decide), fun _ => go 5 (by decide) (by decide)⟩⟩⟩
  · exact ⟨fun _ => go 2 (by decide) (by decide), fun c => absurd rfl c⟩
  · exact ⟨fun c => absurd c (by decide), fun _ => ⟨fun _ => go 3 (by decide) (by decide), fun c => absurd rfl c⟩⟩
  · exact ⟨fun c => absurd c (by decide), fun _ => ⟨fun c => absurd c (by decide), fun _ => ⟨fun _ => go 4 (by decide) (by decide), fun c => absurd rfl c⟩⟩⟩
/-- nothing more comes out -/
def flM (x1 : Int32) (S : List Int32) : Prop := S = [] ∨ ∃ S' y, S = S' ++ [y] ∧ (y = 6 ∨ (x1 ≠ 0 ∧ y ≠ 10))
theorem topM {S : List Int32} {x : Int32} {τ : St} (h : WsM (S ++ [x]) τ) (hS : S.length < 60) : gv τ 11 42 - 1 = nI S.length ∧ ¬ gv τ 11 42 ≤ 0 ∧ gv τ 72 (gv τ 11 42 - 1).toNatClampNeg = x := by
  have ew : gv τ 11 42 = nI (S.length + 1) := by
    have := h.1
    rwa [List.length_append, List.length_singleton] at this
  have ex : gv τ 72 S.length = x := h.2 S.length x (by rw [List.getElem?_append_right (by omega), Nat.sub_self]; rfl)
  rw [ew, nI_pred, nI_clamp (by omega)]
  exact ⟨rfl, nI_ge (a := 0) (by omega) (by omega), ex⟩
theorem comes_stop {x1 : Int32} {S : List Int32} {τ : St} {Q : St → Prop} {n : Nat} (h : WsM S τ) (hS : S.length < 60) (hf : flM x1 S) (hQ : Q τ) : wX12_comesOut_0 Q (n + 1) x1 τ := by
  rcases hf with rfl | ⟨S', y, rfl, hy⟩
  · refine ⟨fun _ => hQ, fun c => ?_⟩
    rw [h.1] at c
    exact absurd (by decide) c
  · rw [List.length_append, List.length_singleton] at hS
    obtain ⟨t1, t2, t3⟩ := topM h (by omega)
    rw [wX12_comesOut_0, t3, t1]
    have v : vp_in (nI S'.length) 64 := vp_in_nI (by omega) (by decide)
    refine ⟨fun c => absurd c t2, fun _ => ⟨v, fun _ => hQ, fun c => ⟨fun c2 => ?_, fun c2 => ⟨v, fun c3 => ?_, fun _ => hQ⟩⟩⟩⟩
    · rcases hy with q | q
      · exact absurd q c
      · exact absurd c2 q.1
    · rcases hy with q | q
      · exact absurd q c
      · exact absurd c3 q.2
theorem comes_loop {x1 : Int32} {Q : St → Prop} : ∀ (n : Nat) (p S : List Int32) (C : Nat) (τ : St), p.length = n → WsM (S ++ p) τ → (S ++ p).length < 60 → gv τ 11 38 = nI C → C + n < 20000 → (∀ x ∈ p, sgM x ∧ (x1 = 0 ∨ x = 10)) → flM x1 S → (∀ τ', WsM S τ' → gv τ' 11 38 = nI (C + n) → rpE (gr τ' 70) (gr τ' 71) C (p.reverse.map ocM) → Fm (xCo C) τ τ' → Q τ') → wX12_comesOut_0 Q (n + 1) x1 τ
  | 0, p, S, C, τ, hp, h, hl, e, hC, hx, hf, hQ => by
    rw [List.length_eq_zero_iff] at hp
    subst hp
    rw [List.append_nil] at h hl
    exact comes_stop h hl hf (hQ τ h e rp_nil Fm.rf)
  | n + 1, p, S, C, τ, hp, h, hl, e, hC, hx, hf, hQ => by
    rcases List.eq_nil_or_concat p with q | ⟨p', x, q⟩
    · rw [q] at hp; cases hp
    · rw [List.concat_eq_append] at q
      subst q
      rw [← List.append_assoc] at h hl
      rw [List.length_append, List.length_singleton] at hp hl
      obtain ⟨t1, t2, t3⟩ := topM h (by omega)
      obtain ⟨hs, h10⟩ := hx x (List.mem_append_right _ (List.mem_singleton.mpr rfl))
      have v : vp_in (nI (S ++ p').length) 64 := vp_in_nI (by omega) (by decide)
      have pop : wX12_comesOut_43 Q (fun x1' σ' => wX12_comesOut_0 Q (n + 1) x1' σ') x1 τ := by
        refine popM h (by omega) hs e (by omega) (fun τ1 w1 e1 r1 f1 => ?_)
        refine comes_loop n p' S (C + 1) τ1 (by omega) w1 (by omega) e1 (by omega) (fun y hy => hx y (List.mem_append_left _ hy)) hf (fun τ2 w2 e2 r2 f2 => ?_)
        refine hQ τ2 w2 (by rw [e2]; congr 1; omega) ?_ (f1.tr (f2.mono (fun _ _ q => xCo_le (by omega) q)))
        rw [List.reverse_append, List.reverse_singleton, List.map_append]
        refine rp_app (rp_fm r1 f2 (fun a j ha hj => ?_)) r2
        have hj : j < C + 1 := hj
        unfold xCo
        simp only [Bool.or_eq_false_iff, Bool.and_eq_false_iff, decide_eq_false_iff_not, beq_eq_false_iff_ne]
        omega
      rw [wX12_comesOut_0, t3, t1]
      refine ⟨fun c => absurd c t2, fun _ => ⟨v, fun c => ?_, fun _ => ⟨fun _ => pop, fun c => ⟨v, fun _ => pop, fun c2 => ?_⟩⟩⟩⟩
      · rcases hs with q | q | q | q <;> rw [q] at c <;> exact absurd c (by decide)
      · rcases h10 with q | q
        · exact absurd q c
        · exact absurd q c2
theorem comesM {x1 : Int32} {Q : St → Prop} {p S : List Int32} {C : Nat} {τ : St} (h : WsM (S ++ p) τ) (hl : (S ++ p).length < 60) (e : gv τ 11 38 = nI C) (hC : C + p.length < 20000) (hx : ∀ x ∈ p, sgM x ∧ (x1 = 0 ∨ x = 10)) (hf : flM x1 S) (hQ : ∀ τ', WsM S τ' → gv τ' 11 38 = nI (C + p.length) → rpE (gr τ' 70) (gr τ' 71) C (p.reverse.map ocM) → Fm (xCo C) τ τ' → Q τ') : wX12_comesOut x1 τ Q := ⟨p.length + 1, comes_loop p.length p S C τ rfl h hl e hC hx hf hQ⟩
/-- behind a fault all comes out -/
theorem comesF {Q : St → Prop} : ∀ (n : Nat) (S : List Int32) (C : Nat) (τ : St), S.length = n → WsM S τ → n < 60 → gv τ 11 38 = nI C → C + n < 20000 → (∀ x ∈ S, x = 6 ∨ sgM x) → (∀ τ', Fm (xCo C) τ τ' → Q τ') → wX12_comesOut_0 Q (n + 1) 0 τ
  | 0, S, C, τ, hp, h, hl, e, hC, hx, hQ => by
    rw [List.length_eq_zero_iff] at hp
    subst hp
    exact comes_stop h (by decide) (Or.inl rfl) (hQ τ Fm.rf)
  | n + 1, S, C, τ, hp, h, hl, e, hC, hx, hQ => by
    rcases List.eq_nil_or_concat S with q | ⟨S', x, q⟩
    · rw [q] at hp; cases hp
    · rw [List.concat_eq_append] at q
      subst q
      rw [List.length_append, List.length_singleton] at hp
      rcases hx x (List.mem_append_right _ (List.mem_singleton.mpr rfl)) with z | hs
      · exact comes_stop h (by rw [List.length_append, List.length_singleton]; omega) (Or.inr ⟨S', x, rfl, Or.inl z⟩) (hQ τ Fm.rf)
      · obtain ⟨t1, t2, t3⟩ := topM h (by omega)
        have v : vp_in (nI S'.length) 64 := vp_in_nI (by omega) (by decide)
        rw [wX12_comesOut_0, t3, t1]
        refine ⟨fun c => absurd c t2, fun _ => ⟨v, fun _ => hQ τ Fm.rf, fun _ => ⟨fun _ => ?_, fun c => absurd rfl c⟩⟩⟩
        refine popM h (by omega) hs e (by omega) (fun τ1 w1 e1 r1 f1 => ?_)
        exact comesF n S' (C + 1) τ1 (by omega) w1 (by omega) e1 (by omega) (fun y hy => hx y (List.mem_append_left _ hy)) (fun τ2 f2 => hQ τ2 (f1.tr (f2.mono (fun _ _ q => xCo_le (by omega) q))))
abbrev K14 (Q : St → Prop) (N : Nat) : Int32 → Int32 → Int32 → St → Prop := fun x1' x2' x3' σ' => wX12_expression_14 Q N x1' x2' x3' σ'
def ExM (σ : St) (M CB i dp C : Nat) (S : List Int32) (τ : St) : Prop := AtM σ M i τ ∧ gv τ 11 12 = nI dp ∧ gv τ 11 38 = nI C ∧ WsM S τ ∧ C + S.length + 600 ≤ CB + i ∧ CB ≤ 19000 ∧ ∀ x ∈ S, x = 6 ∨ sgM x
section EX
variable {σ : St} {K P : Nat → Nat} {V : Nat → Int32} {NM : Nat → List Nat} {M CB : Nat} {Q : St → Prop}
theorem fL1 {f i C j N : Nat} {S : List Int32} {τ : St} (F : FlM P f i τ) (h : WsM S τ) (hS : S.length < 60) (e : gv τ 11 38 = nI C) (hC : C + S.length < 20000) (hx : ∀ x ∈ S, x = 6 ∨ sgM x) (hQ : ∀ τ', Fm (xCo C) τ τ' → FlM P f i τ' → Q τ') : wX12_expression_246 Q (K14 Q N) (j + 1) 0 0 τ := by
  have out : wX12_expression_345 Q τ := ⟨S.length + 1, comesF S.length S C τ rfl h hS e hC hx (fun τ' f' => hQ τ' f' (F.fm f' (by simp [xCo]) (by simp [xCo])))⟩
  have l327 : wX12_expression_327 Q (K14 Q N) 0 0 0 τ := ⟨fun _ => ⟨fun _ => out, fun _ => failF F out⟩, fun c => absurd rfl c⟩
  have l295 : wX12_expression_295 Q (K14 Q N) 0 0 τ := isF F ⟨fun _ => isF F ⟨fun _ => isF F ⟨fun _ => l327, fun c => absurd rfl c⟩, fun c => absurd rfl c⟩, fun c => absurd rfl c⟩
  exact isF F ⟨fun _ => l295, fun c => absurd rfl c⟩
theorem fU0 {f i N : Nat} {x3 : Int32} {τ : St} (F : FlM P f i τ) (hQ : Q τ) : wX12_expression_62 Q (K14 Q N) 0 x3 τ := by
  have l175 : wX12_expression_175 Q (K14 Q N) 0 0 0 τ := isF F ⟨fun _ => ⟨fun _ => failF F ⟨fun c => absurd c F.ne.2, fun _ => hQ⟩, fun c => absurd rfl c⟩, fun c => absurd rfl c⟩
  exact isF F ⟨fun _ => ⟨fun c => absurd c F.ne.1, fun _ => l175⟩, fun c => absurd rfl c⟩
theorem fL0 {f i N : Nat} {x2 : Int32} {τ : St} (F : FlM P f i τ) (hQ : Q τ) : wX12_expression_14 Q (N + 1) 0 x2 1 τ := ⟨fun c => absurd c z10, fun _ => ⟨fun c => absurd c F.ne.1, fun _ => hQ⟩⟩
/-- what the reference makes of a sum -/
def SmM (σ : St) (K P : Nat → Nat) (M CB : Nat) (Q : St → Prop) (dp : Nat) (x : Nat → Rs Ex) : Prop := ∀ (i C : Nat) (S : List Int32) (τ : St), 1 ≤ i → ExM σ M CB i dp C S τ → S.length ≤ 3 * dp → flM 0 S →
  (∀ j E E0 p τ', x i = .ok j E → K j ≠ 8 → K j ≠ 9 → K j ≠ 10 → E = E0 ++ p.reverse.map ocM → p.length ≤ 2 → (∀ y ∈ p, sgM y) → ExM σ M CB j dp (C + E0.length) (S ++ p) τ' → rpE (gr τ' 70) (gr τ' 71) C E0 → Fm (xEx C) τ τ' → ∀ j1 N', 602 ≤ j1 + j → 601 ≤ N' + j → wX12_expression_246 Q (K14 Q N') j1 0 0 τ') →
  (∀ f k τ', x i = .no f k → FlM P f k τ' → Fm (xEx C) τ τ' → Q τ') → ∀ N, 602 ≤ N + i → wX12_expression_14 Q N 0 1 1 τ
theorem xEx_no {C a j : Nat} (h1 : a = 11 → j ≠ 11 ∧ j ≠ 12 ∧ j ≠ 13 ∧ j ≠ 14 ∧ j ≠ 38 ∧ j ≠ 42) (h2 : a ≠ 72) (h3 : a = 70 ∨ a = 71 → j < C) : xEx C a j = false := by
  unfold xEx
  simp only [Bool.or_eq_false_iff, Bool.and_eq_false_iff, decide_eq_false_iff_not, beq_eq_false_iff_ne]
  omega
theorem kN_var : ∀ k, k < 39 → (kN k < 31 ↔ k < 27) := by decide
theorem kN_v4 : ∀ k, k < 39 → 27 ≤ k → kN k = k + 4 := by decide
theorem AtM.fm {X : Nat → Nat → Bool} {i : Nat} {τ τ' : St} (h : AtM σ M i τ) (f : Fm X τ τ') (h1 : ∀ a j, 50 ≤ a → a ≤ 52 → X a j = false) (h2 : X 11 11 = false) (h3 : X 11 13 = false) : AtM σ M i τ' := ⟨h.1.fm f h1, (f.2 11 11 h2).trans h.2.1, h.2.2.1, (f.2 11 13 h3).trans h.2.2.2⟩
theorem unitM (hT : TkM σ K P V NM M) {S0 : Nat → Rs Ex} {dp : Nat} (hdp : dp ≤ 8) (hS : dp < 8 → SmM σ K P M CB Q (dp + 1) S0) {i C : Nat} {S : List Int32} {τ : St} (hi1 : 1 ≤ i) (h : ExM σ M CB i dp C S τ) (hl : S.length ≤ 3 * dp + 2)
    (hok : ∀ j E τ', unP K V S0 dp i = .ok j E → ExM σ M CB j dp (C + E.length) S τ' → rpE (gr τ' 70) (gr τ' 71) C E → Fm (xEx C) τ τ' → ∀ j1 N', 602 ≤ j1 + j → 601 ≤ N' + j → wX12_expression_246 Q (K14 Q N') j1 0 0 τ') (hno : ∀ f k τ', unP K V S0 dp i = .no f k → FlM P f k τ' → Fm (xEx C) τ τ' → Q τ') (N : Nat) (hN : 601 ≤ N + i) : wX12_expression_62 Q (K14 Q N) 0 1 τ := by
  obtain ⟨A, eo, ec, W, hB, hCB, hx⟩ := h
  have h6 := hT.1
  have hiM := A.2.2.1
  have hK := hT.2.2.2.1.1 i
  have hKn := kN_le (K i) (by omega)
  have a2 := A.2.1
  have e50 : gv τ 50 i = nI (kN (K i)) := (congrFun A.1.1 i).trans (hT.2.2.1 i hiM).1
  have v603 : vp_in (nI i) 603 := vp_in_nI (by omega) (by decide)
  have lit : ∀ (k y : Int32) (c : Int32) (kk : Nat), K i = kk → 2 ≤ kk → k = eA c → y = eB c → unP K V S0 dp i = ((tkP K kk i).bd fun j _ => .ok j [c]) → wX12_emit k y τ (fun σ5 => wX12_expression_242 Q (K14 Q N) 0 0 σ5) := by
    intro k y c kk hk hk2 h1 h2 hu
    refine emitM ec (by omega) h1 h2 (fun τ1 f1 e1 r1 => ?_)
    have f1x : Fm (xEx C) τ τ1 := f1.mono (fun a j q => by
      unfold xEx at q
      simp only [Bool.or_eq_false_iff, Bool.and_eq_false_iff, decide_eq_false_iff_not, beq_eq_false_iff_ne] at q ⊢
      omega)
    have A1 : AtM σ M i τ1 := A.fm f1 (fun a j h1 h2 => by simp; omega) (by simp) (by simp)
    have W1 : WsM S τ1 := W.fm f1 (by simp) (fun _ => by simp)
    refine nextM hT A1 hk hk2 (fun τ2 hi ht A2 f2 => ⟨700, ?_⟩) (fun f τ2 ht F2 f2 => ⟨1, ?_⟩)
    · refine hok (i + 1) [c] τ2 (by rw [hu, ht, bd_o]) ⟨A2, (f2.2 11 12 rfl).trans ((f1.2 11 12 (by simp)).trans eo), (f2.2 11 38 rfl).trans e1, W1.fm f2 rfl (fun _ => rfl), by simp; omega, hCB, hx⟩ (rp_fm r1 f2 (fun a j ha _ => xTm_no (by omega))) (f1x.tr (f2.mono (fun _ _ q => xTm_Ex q))) 700 N (by omega) (by omega)
    · refine fL1 F2 (W1.fm f2 rfl (fun _ => rfl)) (by omega) ((f2.2 11 38 rfl).trans e1) (by omega) hx (fun τ3 f3 F3 => hno f i τ3 (by rw [hu, ht, bd_n]) F3 ((f1x.tr (f2.mono (fun _ _ q => xTm_Ex q))).tr (f3.mono (fun _ _ q => xCo_Ex (by omega) q))))
  refine isM (k := 6) hT A (by decide) rfl (fun hk => ⟨z11, fun _ => ?_⟩) (fun hk => ⟨fun _ => ⟨fun _ => ?_, fun c => absurd A.2.2.2 c⟩, fun c => absurd rfl c⟩)
  · have hk2 : ¬ K i = 2 := by omega
    rw [eo]
    refine ⟨fun c => ?_, fun c => ?_⟩
    · have hd : dp = 8 := (nI_eq (b := 8) (by omega) (by decide)).mp c
      refine failM (f := 2) hT A (Or.inr rfl) rfl (fun τ1 f1 _ F1 => ⟨fun c => absurd c F1.ne.2, fun _ => hno 2 i τ1 ?_ F1 (f1.mono (fun _ _ q => xTm_Ex q))⟩)
      unfold unP
      rw [if_neg hk2, if_neg (by omega), if_pos ⟨hk, by omega⟩]
    · have hd : dp < 8 := by
        have : dp ≠ 8 := fun e => c (by rw [e]; rfl)
        omega
      have hu : unP K V S0 dp i = (tkP K 6 i).bd fun j _ => (S0 j).bd fun k E => (tkP K 7 k).bd fun l _ => .ok l E := by
        unfold unP
        rw [if_neg hk2, if_neg (by omega), if_neg (by omega)]
      refine ⟨fun _ => ?_, fun c => absurd (by rw [A.2.2.2]; decide) c⟩
      rw [eo, nI_1]
      rintro σ2 rfl
      have f2 : Fm (fun a j => a == 11 && j == 12) τ (pv τ 11 12 (nI (dp + 1))) := Fm_pv rfl
      have f2x : Fm (xEx C) τ (pv τ 11 12 (nI (dp + 1))) := Fm_pv rfl
      have A2 : AtM σ M i (pv τ 11 12 (nI (dp + 1))) := A.fm f2 (fun a j h1 h2 => by simp; omega) (by simp) (by simp)
      have W2 : WsM S (pv τ 11 12 (nI (dp + 1))) := W.fm f2 (by simp) (fun _ => by simp)
      have push : ∀ τ3, WsM S τ3 → (∀ τ5, WsM (S ++ [6]) τ5 → Fm (fun a j => (a == 11 && j == 42) || a == 72) τ3 τ5 → wX12_expression_14 Q N 0 1 1 τ5) → vp_in (gv τ3 11 42) 64 ∧ ∀ σ6 : St, σ6 = pv τ3 72 (gv τ3 11 42).toNatClampNeg (6 : Int32) → ∀ σ7 : St, σ7 = pv σ6 11 42 ((gv σ6 11 42) + (1 : Int32)) → wX12_expression_14 Q N 0 1 1 σ7 := by
        intro τ3 W3 hk3
        rw [W3.1, nI_clamp (by omega)]
        refine ⟨vp_in_nI (by omega) (by decide), ?_⟩
        rintro σ6 rfl
        rw [show gv (pv τ3 72 S.length 6) 11 42 = nI S.length by rw [gv_pv, if_neg (by omega)]; exact W3.1, nI_1]
        rintro σ7 rfl
        refine hk3 _ (W3.push (by rw [gv_pv, if_pos ⟨rfl, rfl⟩]) (fun k => ?_)) ((Fm_pv (by simp)).tr (Fm_pv (by simp)))
        rw [gv_pv, if_neg (by omega), gv_pv]
        by_cases z : k = S.length
        · rw [if_pos ⟨rfl, z⟩, if_pos z]
        · rw [if_neg (fun q => z q.2), if_neg z]
      refine nextM hT A2 hk (by decide) (fun τ3 hi ht A3 f3 => ?_) (fun f τ3 ht F3 f3 => ?_)
      · refine push τ3 (W2.fm f3 rfl (fun _ => rfl)) (fun τ4 W4 f4 => ?_)
        have A4 : AtM σ M (i + 1) τ4 := A3.fm f4 (fun a j h1 h2 => by simp; omega) (by simp) (by simp)
        have f4x : Fm (xEx C) τ τ4 := (f2x.tr (f3.mono (fun _ _ q => xTm_Ex q))).tr (f4.mono (fun a j q => by
          unfold xEx at q
          simp only [Bool.or_eq_false_iff, Bool.and_eq_false_iff, decide_eq_false_iff_not, beq_eq_false_iff_ne] at q ⊢
          omega))
        have e12 : gv τ4 11 12 = nI (dp + 1) := by
          rw [f4.2 11 12 (by simp), f3.2 11 12 rfl, gv_pv, if_pos ⟨rfl, rfl⟩]
        have e38 : gv τ4 11 38 = nI C := by
          rw [f4.2 11 38 (by simp), f3.2 11 38 rfl, gv_pv, if_neg (by decide)]
          exact ec
        have lS : (S ++ [6]).length = S.length + 1 := by rw [List.length_append, List.length_singleton]
        have X4 : ExM σ M CB (i + 1) (dp + 1) C (S ++ [6]) τ4 := ⟨A4, e12, e38, W4, by rw [lS]; omega, hCB, fun x hx' => by
          rw [List.mem_append, List.mem_singleton] at hx'
          rcases hx' with q | q
          · exact hx x q
          · exact Or.inl q⟩
        refine hS hd (i + 1) C (S ++ [6]) τ4 (by omega) X4 (by rw [lS]; omega) (Or.inr ⟨S, 6, rfl, Or.inl rfl⟩) (fun j E E0 p τ5 hs k8 k9 k10 hE hp2 hps X5 r5 f5 j1 N' hj1 hN' => ?_) (fun f k τ5 hs F5 f5 => hno f k τ5 (by rw [hu, ht, bd_o, hs, bd_n]) F5 (f4x.tr f5)) N (by omega)
        obtain ⟨A5, eo5, ec5, W5, hB5, _, hx5⟩ := X5
        have hu2 : unP K V S0 dp i = (tkP K 7 j).bd fun l _ => .ok l E := by rw [hu, ht, bd_o, hs, bd_o]
        obtain ⟨j1', rfl⟩ : ∃ j1', j1 = j1' + 1 := ⟨j1 - 1, by have := A5.2.2.1; omega⟩
        have lP : (S ++ [6] ++ p).length = S.length + 1 + p.length := by rw [List.length_append, lS]
        have f45 : Fm (xEx C) τ τ5 := f4x.tr f5
        rw [wX12_expression_246]
        refine isM (k := 7) hT A5 (by decide) rfl (fun k7 => ⟨z11, fun _ => ?_⟩) (fun k7 => ⟨fun _ => ?_, fun c => absurd rfl c⟩)
        · rw [eo5]
          refine ⟨fun c => absurd c (nI_ge (a := 0) (by omega) (by omega)), fun _ => comesM (x1 := 0) W5 (by rw [lP]; omega) ec5 (by rw [lP] at hB5; have := A5.2.2.1; omega) (fun x hx' => ⟨hps x hx', Or.inl rfl⟩) (Or.inr ⟨S, 6, rfl, Or.inl rfl⟩) (fun τ6 W6 e6 r6 f6 => ?_)⟩
          have w6 : gv τ6 11 42 = nI (S.length + 1) := by rw [W6.1, lS]
          rw [w6, nI_pred]
          rintro σ7 rfl
          have o6 : gv (pv τ6 11 42 (nI S.length)) 11 12 = nI (dp + 1) := by
            rw [gv_pv, if_neg (by decide), f6.2 11 12 (by simp [xCo])]
            exact eo5
          rw [o6, nI_pred]
          intro σ8 e8
          have f8 : Fm (fun a j => a == 11 && (j == 12 || j == 42)) τ6 σ8 := by
            rw [e8]
            exact (Fm_pv (by simp)).tr (Fm_pv (by simp))
          have A8 : AtM σ M j σ8 := (A5.fm f6 (fun a j h1 h2 => by unfold xCo; simp; omega) (by simp [xCo]) (by simp [xCo])).fm f8 (fun a j h1 h2 => by simp; omega) (by simp) (by simp)
          have W8 : WsM S σ8 := by
            refine W6.pop ?_ (fun k => f8.2 72 k (by simp))
            rw [e8, gv_pv, if_neg (by decide), gv_pv, if_pos ⟨rfl, rfl⟩]
          have o8 : gv σ8 11 12 = nI dp := by rw [e8, gv_pv, if_pos ⟨rfl, rfl⟩]
          have c8 : gv σ8 11 38 = nI (C + E.length) := by
            rw [f8.2 11 38 (by simp), e6, hE, List.length_append, List.length_map, List.length_reverse, Nat.add_assoc]
          have rE : rpE (gr σ8 70) (gr σ8 71) C E := by
            rw [hE]
            refine rp_fm (rp_app (rp_fm r5 f6 (fun a j' ha hj' => ?_)) r6) f8 (fun a j' ha _ => by simp; omega)
            unfold xCo
            simp only [Bool.or_eq_false_iff, Bool.and_eq_false_iff, decide_eq_false_iff_not, beq_eq_false_iff_ne]
            omega
          have f58 : Fm (xEx C) τ5 σ8 := (f6.mono (fun _ _ q => xCo_Ex (by omega) q)).tr (f8.mono (fun a j q => by
            unfold xEx at q
            simp only [Bool.or_eq_false_iff, Bool.and_eq_false_iff, decide_eq_false_iff_not, beq_eq_false_iff_ne] at q ⊢
            omega))
          have lE : E.length = E0.length + p.length := by rw [hE, List.length_append, List.length_map, List.length_reverse]
          refine nextM hT A8 k7 (by decide) (fun τ9 hi9 ht9 A9 f9 => ?_) (fun f τ9 ht9 F9 f9 => ?_)
          · refine hok (j + 1) E τ9 (by rw [hu2, ht9, bd_o]) ⟨A9, (f9.2 11 12 rfl).trans o8, (f9.2 11 38 rfl).trans c8, W8.fm f9 rfl (fun _ => rfl), by rw [lP] at hB5; omega, hCB, hx⟩ (rp_fm rE f9 (fun a j ha _ => xTm_no (by omega))) ((f45.tr f58).tr (f9.mono (fun _ _ q => xTm_Ex q))) j1' N' (by omega) (by omega)
          · obtain ⟨j2, rfl⟩ : ∃ j2, j1' = j2 + 1 := ⟨j1' - 1, by have := A5.2.2.1; omega⟩
            refine fL1 F9 (W8.fm f9 rfl (fun _ => rfl)) (by omega) ((f9.2 11 38 rfl).trans c8) (by rw [lP] at hB5; have := A5.2.2.1; omega) hx (fun τ10 f10 F10 => hno f j τ10 (by rw [hu2, ht9, bd_n]) F10 (((f45.tr f58).tr (f9.mono (fun _ _ q => xTm_Ex q))).tr (f10.mono (fun _ _ q => xCo_Ex (by omega) q))))
        · have no7 : unP K V S0 dp i = .no 1 j := by rw [hu2]; unfold tkP; rw [if_neg k7, bd_n]
          refine isM (k := 8) hT A5 (by decide) rfl (fun q => absurd q k8) (fun _ => ⟨fun _ => isM (k := 9) hT A5 (by decide) rfl (fun q => absurd q k9) (fun _ => ⟨fun _ => isM (k := 10) hT A5 (by decide) rfl (fun q => absurd q k10) (fun _ => ⟨fun _ => ⟨fun _ => ⟨fun c => ?_, fun _ => failM (f := 1) hT A5 (Or.inl rfl) rfl (fun τ6 f6 _ F6 => ?_)⟩, fun c => absurd rfl c⟩, fun c => absurd rfl c⟩), fun c => absurd rfl c⟩), fun c => absurd rfl c⟩)
          · rw [eo5] at c
            exact absurd c (nI_ge (a := 0) (by omega) (by omega))
          · refine ⟨_, comesF _ (S ++ [6] ++ p) (C + E0.length) τ6 rfl (W5.fm f6 rfl (fun _ => rfl)) (by rw [lP]; omega) ((f6.2 11 38 rfl).trans ec5) (by rw [lP] at hB5 ⊢; have := A5.2.2.1; omega) hx5 (fun τ7 f7 => hno 1 j τ7 no7 (F6.fm f7 (by simp [xCo]) (by simp [xCo])) ((f45.tr (f6.mono (fun _ _ q => xTm_Ex q))).tr (f7.mono (fun _ _ q => xCo_Ex (by omega) q))))⟩
      · refine push τ3 (W2.fm f3 rfl (fun _ => rfl)) (fun τ4 W4 f4 => ?_)
        obtain ⟨N', rfl⟩ : ∃ N', N = N' + 1 := ⟨N - 1, by omega⟩
        have F4 := F3.fm f4 (by simp) (by simp)
        refine fL0 F4 (hno f i τ4 (by rw [hu, ht, bd_n]) F4 ((f2x.tr (f3.mono (fun _ _ q => xTm_Ex q))).tr (f4.mono (fun a j q => by
          unfold xEx at q
          simp only [Bool.or_eq_false_iff, Bool.and_eq_false_iff, decide_eq_false_iff_not, beq_eq_false_iff_ne] at q ⊢
          omega))))
  · rw [a2, nI_clamp (by omega), e50]
    have bad : K i ≠ 2 → K i < 27 → wX12_expression_174 Q (K14 Q N) 0 0 τ := by
      intro k2 k27
      show wX12_expression_175 Q (K14 Q N) 0 0 0 τ
      refine isM (k := 2) hT A (by decide) rfl (fun q => absurd q k2) (fun _ => ⟨fun _ => ⟨fun _ => failM (f := 1) hT A (Or.inl rfl) rfl (fun τ1 f1 _ F1 => ⟨fun c => absurd c F1.ne.2, fun _ => hno 1 i τ1 ?_ F1 (f1.mono (fun _ _ q => xTm_Ex q))⟩), fun c => absurd rfl c⟩, fun c => absurd rfl c⟩)
      unfold unP
      rw [if_neg k2, if_neg (by omega), if_neg (by omega)]
      unfold tkP
      rw [if_neg hk, bd_n]
    have int : K i = 2 → wX12_expression_174 Q (K14 Q N) 0 0 τ := by
      intro k2
      have hu : unP K V S0 dp i = (tkP K 2 i).bd fun j _ => .ok j [V i] := by unfold unP; rw [if_pos k2]
      obtain ⟨v, hv, ev⟩ := hT.2.2.2.1.2 i k2
      have hpos : (0 : Int32) ≤ V i := by rw [ev]; exact nI_nn (by omega)
      have go : wX12_expression_195 Q (K14 Q N) 0 0 0 τ := by
        refine ⟨fun _ => ⟨fun _ => ?_, fun c => absurd rfl c⟩, fun c => absurd (by rw [A.2.2.2]; decide) c⟩
        rw [a2, nI_clamp (by omega), show gv τ 52 i = V i from (congrFun A.1.2.2.1 i).trans ((hT.2.2.1 i hiM).2.2.1 k2)]
        exact ⟨v603, lit 0 (V i) (V i) 2 k2 (by decide) (by unfold eA; rw [if_pos hpos]) (by unfold eB; rw [if_pos hpos]) hu⟩
      show wX12_expression_175 Q (K14 Q N) 0 0 0 τ
      exact isM (k := 2) hT A (by decide) rfl (fun _ => ⟨z11, fun _ => go⟩) (fun q => absurd k2 q)
    refine ⟨v603, fun c => ?_, fun c => ⟨v603, fun c2 => absurd c2 (nI_nlt (a := 42) (by omega) (by decide)), fun _ => ?_⟩⟩
    · have k27 : K i < 27 := (kN_var (K i) (by omega)).mp ((nI_ltI (b := 31) (by omega) (by decide)).mp c)
      by_cases k2 : K i = 2
      · exact int k2
      · exact bad k2 k27
    · have k27 : 27 ≤ K i := by
        have : ¬ kN (K i) < 31 := fun q => c ((nI_ltI (b := 31) (by omega) (by decide)).mpr q)
        rw [kN_var (K i) (by omega)] at this
        omega
      have hu : unP K V S0 dp i = (tkP K (K i) i).bd fun j _ => .ok j [-(nI (K i))] := by unfold unP; rw [if_neg (by omega), if_pos k27]
      have hea : (1 : Int32) = eA (-(nI (K i))) ∧ nI (kN (K i)) - 31 = eB (-(nI (K i))) := by
        rw [kN_v4 (K i) (by omega) k27]
        rcases (show K i = 27 ∨ K i = 28 ∨ K i = 29 ∨ K i = 30 ∨ K i = 31 ∨ K i = 32 ∨ K i = 33 ∨ K i = 34 ∨ K i = 35 ∨ K i = 36 ∨ K i = 37 ∨ K i = 38 by omega) with q | q | q | q | q | q | q | q | q | q | q | q <;> rw [q] <;> exact ⟨by decide, by decide⟩
      have go : wX12_expression_195 Q (K14 Q N) 0 0 1 τ := by
        refine ⟨fun _ => ⟨fun c => absurd c z10, fun _ => ?_⟩, fun c => absurd (by rw [A.2.2.2]; decide) c⟩
        rw [a2, nI_clamp (by omega), e50]
        exact ⟨v603, lit 1 _ (-(nI (K i))) (K i) rfl (by omega) hea.1 hea.2 hu⟩
      exact isM (k := 2) hT A (by decide) rfl (fun q => absurd q (by omega)) (fun _ => ⟨fun _ => ⟨fun c => absurd c z10, fun _ => go⟩, fun c => absurd rfl c⟩)
end EX
