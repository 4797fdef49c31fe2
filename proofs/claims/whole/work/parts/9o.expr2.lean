/-! read: the reference's products, sums, expressions. -/
section EY
variable {σ : St} {K P : Nat → Nat} {V : Nat → Int32} {NM : Nat → List Nat} {M CB : Nat} {Q : St → Prop}
theorem xWa_Ex {C a j : Nat} (q : xEx C a j = false) : ((a == 11 && j == 42) || a == 72) = false := by
  unfold xEx at q
  simp only [Bool.or_eq_false_iff, Bool.and_eq_false_iff, decide_eq_false_iff_not, beq_eq_false_iff_ne] at q ⊢
  omega
/-- a sign is put on the pile -/
theorem pushM {S : List Int32} {y : Int32} {τ : St} {R : St → Prop} (W : WsM S τ) (hS : S.length < 60) (hk : ∀ τ5, WsM (S ++ [y]) τ5 → Fm (fun a j => (a == 11 && j == 42) || a == 72) τ τ5 → R τ5) : vp_in (gv τ 11 42) 64 ∧ ∀ σ6 : St, σ6 = pv τ 72 (gv τ 11 42).toNatClampNeg y → ∀ σ7 : St, σ7 = pv σ6 11 42 ((gv σ6 11 42) + (1 : Int32)) → R σ7 := by
  rw [W.1, nI_clamp (by omega)]
  refine ⟨vp_in_nI (by omega) (by decide), ?_⟩
  rintro σ6 rfl
  rw [show gv (pv τ 72 S.length y) 11 42 = nI S.length by rw [gv_pv, if_neg (by omega)]; exact W.1, nI_1]
  rintro σ7 rfl
  refine hk _ (W.push (by rw [gv_pv, if_pos ⟨rfl, rfl⟩]) (fun k => ?_)) ((Fm_pv (by simp)).tr (Fm_pv (by simp)))
  rw [gv_pv, if_neg (by omega), gv_pv]
  by_cases z : k = S.length
  · rw [if_pos ⟨rfl, z⟩, if_pos z]
  · rw [if_neg (fun q => z q.2), if_neg z]
theorem opM (hT : TkM σ K P V NM M) {dp i C k : Nat} {S p : List Int32} {τ : St} (h : ExM σ M CB i dp C (S ++ p) τ) (hk : K i = k) (hk3 : k = 8 ∨ k = 9 ∨ k = 10) (hl : (S ++ p).length < 50) (hp : ∀ x ∈ p, sgM x ∧ ((if k = 10 then (1 : Int32) else 0) = 0 ∨ x = 10)) (hf : flM (if k = 10 then 1 else 0) S)
    (hok : ∀ τ', tkP K k i = .ok (i + 1) () → ExM σ M CB (i + 1) dp (C + p.length) (S ++ [nI k]) τ' → rpE (gr τ' 70) (gr τ' 71) C (p.reverse.map ocM) → Fm (xEx C) τ τ' → ∀ N', 600 ≤ N' + i → wX12_expression_62 Q (K14 Q N') 0 1 τ') (hno : ∀ f τ', tkP K k i = .no f i → FlM P f i τ' → Fm (xEx C) τ τ' → Q τ') (j1 N : Nat) (hN : 601 ≤ N + i) : wX12_expression_246 Q (K14 Q N) (j1 + 1) 0 0 τ := by
  obtain ⟨A, eo, ec, W, hB, hCB, hx⟩ := h
  have h6 := hT.1
  have hiM := A.2.2.1
  obtain ⟨N', rfl⟩ : ∃ N', N = N' + 1 := ⟨N - 1, by omega⟩
  have lS : (S ++ p).length = S.length + p.length := List.length_append
  have kk : kN k = k := by rcases hk3 with q | q | q <;> rw [q] <;> decide
  have e50 : gv τ 50 i = nI k := by
    have := (congrFun A.1.1 i).trans (hT.2.2.1 i hiM).1
    rw [hk, kk] at this
    exact this
  have l375 : wX12_expression_375 Q (K14 Q (N' + 1)) 0 0 1 (nI k) (if k = 10 then 1 else 0) τ := by
    refine comesM W (by omega) ec (by omega) hp hf (fun τ1 W1 e1 r1 f1 => pushM W1 (by omega) (fun τ2 W2 f2 => ?_))
    have A2 : AtM σ M i τ2 := (A.fm f1 (fun a j h1 h2 => by unfold xCo; simp; omega) (by simp [xCo]) (by simp [xCo])).fm f2 (fun a j h1 h2 => by simp; omega) (by simp) (by simp)
    have f12 : Fm (xEx C) τ τ2 := (f1.mono (fun _ _ q => xCo_Ex (Nat.le_refl _) q)).tr (f2.mono (fun _ _ q => xWa_Ex q))
    refine nextM hT A2 hk (by omega) (fun τ3 hi ht A3 f3 => ?_) (fun f τ3 ht F3 f3 => fL0 F3 (hno f τ3 ht F3 (f12.tr (f3.mono (fun _ _ q => xTm_Ex q)))))
    refine ⟨fun c => absurd c z10, fun _ => ⟨fun _ => ⟨fun _ => ?_, fun c => absurd rfl c⟩, fun c => absurd A3.2.2.2 c⟩⟩
    refine hok τ3 ht ⟨A3, ?_, ?_, W2.fm f3 rfl (fun _ => rfl), ?_, hCB, fun x hx' => ?_⟩ (rp_fm (rp_fm r1 f2 (fun a j ha _ => by simp; omega)) f3 (fun a j ha _ => xTm_no (by omega))) (f12.tr (f3.mono (fun _ _ q => xTm_Ex q))) N' (by omega)
    · rw [f3.2 11 12 rfl, f2.2 11 12 (by simp), f1.2 11 12 (by simp [xCo])]
      exact eo
    · rw [f3.2 11 38 rfl, f2.2 11 38 (by simp)]
      exact e1
    · rw [List.length_append, List.length_singleton]
      omega
    · rw [List.mem_append, List.mem_singleton] at hx'
      rcases hx' with q | q
      · exact hx x (List.mem_append_left _ q)
      · rw [q]
        right
        rcases hk3 with z | z | z <;> rw [z]
        · exact Or.inr (Or.inl rfl)
        · exact Or.inr (Or.inr (Or.inl rfl))
        · exact Or.inr (Or.inr (Or.inr rfl))
  have l327 : wX12_expression_327 Q (K14 Q (N' + 1)) 0 0 1 τ := by
    refine ⟨fun c => absurd c z10, fun _ => ?_⟩
    rw [A.2.1, nI_clamp (by omega), e50]
    refine ⟨vp_in_nI (by omega) (by decide), ?_⟩
    rintro x5 rfl
    refine ⟨fun c => ?_, fun c => ?_⟩
    · have : k = 10 := (nI_eq (b := 10) (by omega) (by decide)).mp c
      rw [if_pos this] at l375
      exact l375
    · have : k ≠ 10 := fun e => c (by rw [e]; rfl)
      rw [if_neg this] at l375
      exact l375
  rw [wX12_expression_246]
  refine isM (k := 7) hT A (by decide) rfl (fun q => absurd q (by omega)) (fun _ => ⟨fun _ => ?_, fun c => absurd rfl c⟩)
  refine isM (k := 8) hT A (by decide) rfl (fun _ => ⟨z11, fun _ => l327⟩) (fun n8 => ⟨fun _ => isM (k := 9) hT A (by decide) rfl (fun _ => ⟨z11, fun _ => l327⟩) (fun n9 => ⟨fun _ => isM (k := 10) hT A (by decide) rfl (fun _ => ⟨z11, fun _ => l327⟩) (fun n10 => absurd hk (by omega)), fun c => absurd rfl c⟩), fun c => absurd rfl c⟩)
theorem prLM (hT : TkM σ K P V NM M) {S0 : Nat → Rs Ex} {dp hh : Nat} (hdp : dp ≤ 8) (hUg : ∀ i, GdR hh i (unP K V S0 dp i)) (hS : dp < 8 → SmM σ K P M CB Q (dp + 1) S0) {T : List Int32} (hT1 : flM 1 T) (hTl : T.length ≤ 3 * dp + 1) : ∀ (f i C : Nat) (q : List Int32) (τ : St), 600 < f + i → 1 ≤ i → ExM σ M CB i dp C (T ++ q) τ → (q = [] ∨ q = [10]) →
    (∀ l T' T0 q' τ', prL K V S0 dp f i = .ok l T' → K l ≠ 10 → q.map ocM ++ T' = T0 ++ q'.map ocM → (q' = [] ∨ q' = [10]) → ExM σ M CB l dp (C + T0.length) (T ++ q') τ' → rpE (gr τ' 70) (gr τ' 71) C T0 → Fm (xEx C) τ τ' → ∀ j1 N', 602 ≤ j1 + l → 601 ≤ N' + l → wX12_expression_246 Q (K14 Q N') j1 0 0 τ') →
    (∀ g k τ', prL K V S0 dp f i = .no g k → FlM P g k τ' → Fm (xEx C) τ τ' → Q τ') → ∀ j1 N, 602 ≤ j1 + i → 601 ≤ N + i → wX12_expression_246 Q (K14 Q N) j1 0 0 τ := by
  intro f
  induction f with
  | zero =>
    intro i C q τ hf _ h
    have := h.1.2.2.1
    have := hT.1
    exact absurd hf (by omega)
  | succ f ih =>
    intro i C q τ hf hi1 h hq hok hno j1 N hj1 hN
    have h6 := hT.1
    have hiM := h.1.2.2.1
    by_cases hk : K i = 10
    · obtain ⟨j1', rfl⟩ : ∃ j1', j1 = j1' + 1 := ⟨j1 - 1, by omega⟩
      have hp : prL K V S0 dp (f + 1) i = (tkP K 10 i).bd fun j _ => (unP K V S0 dp j).bd fun k E => (prL K V S0 dp f k).bd fun l T => .ok l (E ++ [-10] ++ T) := by rw [prL, if_pos hk]
      have lq : q.length ≤ 1 := by rcases hq with z | z <;> rw [z] <;> decide
      have rv : q.reverse.map ocM = q.map ocM := by rcases hq with z | z <;> rw [z] <;> rfl
      refine opM (k := 10) hT h hk (by omega) (by rw [List.length_append]; omega) (fun x hx => ?_) (by rw [if_pos rfl]; exact hT1) (fun τ1 ht X1 r1 f1 N1 hN1 => ?_) (fun g τ1 ht F1 f1 => hno g i τ1 (by rw [hp, ht, bd_n]) F1 f1) j1' N hN
      · have : x = 10 := by
          rcases hq with z | z <;> rw [z] at hx
          · cases hx
          · exact List.mem_singleton.mp hx
        rw [this]
        exact ⟨Or.inr (Or.inr (Or.inr rfl)), Or.inr rfl⟩
      · have X1 : ExM σ M CB (i + 1) dp (C + q.length) (T ++ [10]) τ1 := X1
        refine unitM hT hdp hS (by omega) X1 (by rw [List.length_append, List.length_singleton]; omega) (fun k E τ2 hu X2 r2 f2 j2 N2 hj2 hN2 => ?_) (fun g k τ2 hu F2 f2 => hno g k τ2 (by rw [hp, ht, bd_o, hu, bd_n]) F2 (f1.tr (f2.mono (fun _ _ q => xEx_le (by omega) q)))) N1 (by omega)
        have ik : i + 1 < k := (hUg (i + 1) k E hu).1
        have f12 : Fm (xEx C) τ τ2 := f1.tr (f2.mono (fun _ _ q => xEx_le (by omega) q))
        have rA : rpE (gr τ2 70) (gr τ2 71) C (q.map ocM ++ E) := by
          rw [rv] at r1
          refine rp_app (rp_fm r1 f2 (fun a j ha hj => xEx_70 ha (by rw [List.length_map] at hj; exact hj))) ?_
          rw [List.length_map]
          exact r2
        refine ih k (C + q.length + E.length) [10] τ2 (by omega) (by omega) X2 (Or.inr rfl) (fun l T' T0 q' τ3 hl k10 hq' hq2 X3 r3 f3 j3 N3 hj3 hN3 => ?_) (fun g l τ3 hl F3 f3 => hno g l τ3 (by rw [hp, ht, bd_o, hu, bd_o, hl, bd_n]) F3 (f12.tr (f3.mono (fun _ _ q => xEx_le (by omega) q)))) j2 N2 hj2 hN2
        have f13 : Fm (xEx C) τ τ3 := f12.tr (f3.mono (fun _ _ q => xEx_le (by omega) q))
        have lA : (q.map ocM ++ E ++ T0).length = q.length + E.length + T0.length := by rw [List.length_append, List.length_append, List.length_map]
        refine hok l (E ++ [-10] ++ T') (q.map ocM ++ E ++ T0) q' τ3 (by rw [hp, ht, bd_o, hu, bd_o, hl, bd_o]) k10 ?_ hq2 (by rw [lA, show C + (q.length + E.length + T0.length) = C + q.length + E.length + T0.length by omega]; exact X3) ?_ f13 j3 N3 hj3 hN3
        · have e10 : ([10] : List Int32).map ocM ++ T' = [-10] ++ T' := rfl
          rw [e10] at hq'
          rw [List.append_assoc E, hq', List.append_assoc, List.append_assoc]
        · refine rp_app (rp_fm rA f3 (fun a j ha hj => xEx_70 ha (by rw [List.length_append, List.length_map] at hj; omega))) ?_
          rw [List.length_append, List.length_map, ← Nat.add_assoc]
          exact r3
    · refine hok i [] [] q τ (by rw [prL, if_neg hk]) hk (by rw [List.append_nil, List.nil_append]) hq h rp_nil Fm.rf j1 N hj1 hN
/-- a product, from its first unit on -/
theorem prodM (hT : TkM σ K P V NM M) {S0 : Nat → Rs Ex} {dp : Nat} (hdp : dp ≤ 8) (hUg : ∀ i, GdR (17 - 2 * dp) i (unP K V S0 dp i)) (hS : dp < 8 → SmM σ K P M CB Q (dp + 1) S0) {T : List Int32} (hT1 : flM 1 T) (hTl : T.length ≤ 3 * dp + 1) {i C : Nat} {τ : St} (hi1 : 1 ≤ i) (h : ExM σ M CB i dp C T τ)
    (hok : ∀ l E E0 q τ', prP K V S0 dp i = .ok l E → i < l → K l ≠ 10 → E = E0 ++ q.map ocM → (q = [] ∨ q = [10]) → ExM σ M CB l dp (C + E0.length) (T ++ q) τ' → rpE (gr τ' 70) (gr τ' 71) C E0 → Fm (xEx C) τ τ' → ∀ j1 N', 602 ≤ j1 + l → 601 ≤ N' + l → wX12_expression_246 Q (K14 Q N') j1 0 0 τ') (hno : ∀ g k τ', prP K V S0 dp i = .no g k → FlM P g k τ' → Fm (xEx C) τ τ' → Q τ') (N : Nat) (hN : 601 ≤ N + i) : wX12_expression_62 Q (K14 Q N) 0 1 τ := by
  refine unitM hT hdp hS hi1 h (by omega) (fun k E τ2 hu X2 r2 f2 j2 N2 hj2 hN2 => ?_) (fun g k τ2 hu F2 f2 => hno g k τ2 (by unfold prP; rw [hu, bd_n]) F2 f2) N hN
  have ik : i < k := (hUg i k E hu).1
  have X2' : ExM σ M CB k dp (C + E.length) (T ++ []) τ2 := by rw [List.append_nil]; exact X2
  refine prLM hT hdp hUg hS hT1 hTl 600 k (C + E.length) [] τ2 (by omega) (by omega) X2' (Or.inl rfl) (fun l T' T0 q' τ3 hl k10 hq' hq2 X3 r3 f3 j3 N3 hj3 hN3 => ?_) (fun g l τ3 hl F3 f3 => hno g l τ3 (by unfold prP; rw [hu, bd_o, hl, bd_n]) F3 (f2.tr (f3.mono (fun _ _ q => xEx_le (by omega) q)))) j2 N2 hj2 hN2
  have hq' : T' = T0 ++ q'.map ocM := hq'
  have il : k ≤ l := (prL_gd hdp hUg 600 k l T' hl).1
  refine hok l (E ++ T') (E ++ T0) q' τ3 (by unfold prP; rw [hu, bd_o, hl, bd_o]) (by omega) k10 (by rw [hq', List.append_assoc]) hq2 (by rw [List.length_append, ← Nat.add_assoc]; exact X3) (rp_app (rp_fm r2 f3 (fun a j ha hj => xEx_70 ha hj)) r3) (f2.tr (f3.mono (fun _ _ q => xEx_le (by omega) q))) j3 N3 hj3 hN3
theorem smLM (hT : TkM σ K P V NM M) {S0 : Nat → Rs Ex} {dp : Nat} (hdp : dp ≤ 8) (hUg : ∀ i, GdR (17 - 2 * dp) i (unP K V S0 dp i)) (hS : dp < 8 → SmM σ K P M CB Q (dp + 1) S0) {S : List Int32} (hS0 : flM 0 S) (hSl : S.length ≤ 3 * dp) : ∀ (f i C : Nat) (p : List Int32) (τ : St), 600 < f + i → 1 ≤ i → ExM σ M CB i dp C (S ++ p) τ → p.length ≤ 2 → (∀ y ∈ p, sgM y) → K i ≠ 10 →
    (∀ l T' T0 p' τ', smL K V S0 dp f i = .ok l T' → K l ≠ 8 → K l ≠ 9 → K l ≠ 10 → p.reverse.map ocM ++ T' = T0 ++ p'.reverse.map ocM → p'.length ≤ 2 → (∀ y ∈ p', sgM y) → ExM σ M CB l dp (C + T0.length) (S ++ p') τ' → rpE (gr τ' 70) (gr τ' 71) C T0 → Fm (xEx C) τ τ' → ∀ j1 N', 602 ≤ j1 + l → 601 ≤ N' + l → wX12_expression_246 Q (K14 Q N') j1 0 0 τ') →
    (∀ g k τ', smL K V S0 dp f i = .no g k → FlM P g k τ' → Fm (xEx C) τ τ' → Q τ') → ∀ j1 N, 602 ≤ j1 + i → 601 ≤ N + i → wX12_expression_246 Q (K14 Q N) j1 0 0 τ := by
  intro f
  induction f with
  | zero =>
    intro i C q τ hf _ h
    have := h.1.2.2.1
    have := hT.1
    exact absurd hf (by omega)
  | succ f ih =>
    intro i C p τ hf hi1 h hp2 hps h10 hok hno j1 N hj1 hN
    have h6 := hT.1
    have hiM := h.1.2.2.1
    by_cases hk : K i = 8 ∨ K i = 9
    · obtain ⟨j1', rfl⟩ : ∃ j1', j1 = j1' + 1 := ⟨j1 - 1, by omega⟩
      obtain ⟨k, hkk⟩ : ∃ k, K i = k := ⟨_, rfl⟩
      rw [hkk] at hk
      have hp : smL K V S0 dp (f + 1) i = (tkP K k i).bd fun j _ => (prP K V S0 dp j).bd fun k' E => (smL K V S0 dp f k').bd fun l T => .ok l (E ++ [-(nI k)] ++ T) := by rw [smL, if_pos (by rw [hkk]; exact hk), hkk]
      have n10 : ¬ k = 10 := by omega
      have oc : ocM (nI k) = -(nI k) := by rcases hk with z | z <;> rw [z] <;> decide
      have ne10 : nI k ≠ 10 := fun e => n10 ((nI_eq (b := 10) (by omega) (by decide)).mp e)
      have sgk : sgM (nI k) := by
        rcases hk with z | z <;> rw [z]
        · exact Or.inr (Or.inl rfl)
        · exact Or.inr (Or.inr (Or.inl rfl))
      refine opM (k := k) hT h hkk (by omega) (by rw [List.length_append]; omega) (fun x hx => ⟨hps x hx, Or.inl (if_neg n10)⟩) (by rw [if_neg n10]; exact hS0) (fun τ1 ht X1 r1 f1 N1 hN1 => ?_) (fun g τ1 ht F1 f1 => hno g i τ1 (by rw [hp, ht, bd_n]) F1 f1) j1' N hN
      refine prodM hT hdp hUg hS (T := S ++ [nI k]) (Or.inr ⟨S, nI k, rfl, Or.inr ⟨z10, ne10⟩⟩) (by rw [List.length_append, List.length_singleton]; omega) (by omega) X1 (fun l E E0 q τ2 hu il k10 hE hq X2 r2 f2 j2 N2 hj2 hN2 => ?_) (fun g k' τ2 hu F2 f2 => hno g k' τ2 (by rw [hp, ht, bd_o, hu, bd_n]) F2 (f1.tr (f2.mono (fun _ _ q => xEx_le (by omega) q)))) N1 (by omega)
      have f12 : Fm (xEx C) τ τ2 := f1.tr (f2.mono (fun _ _ q => xEx_le (by omega) q))
      have lp : (p.reverse.map ocM).length = p.length := by rw [List.length_map, List.length_reverse]
      have rA : rpE (gr τ2 70) (gr τ2 71) C (p.reverse.map ocM ++ E0) := by
        refine rp_app (rp_fm r1 f2 (fun a j ha hj => xEx_70 ha (by rw [lp] at hj; exact hj))) ?_
        rw [lp]
        exact r2
      have pq : ([nI k] ++ q).reverse.map ocM = q.map ocM ++ [-(nI k)] := by
        rcases hq with z | z <;> rw [z]
        · show [ocM (nI k)] = [-(nI k)]
          rw [oc]
        · show [ocM 10, ocM (nI k)] = [ocM 10, -(nI k)]
          rw [oc]
      have X2' : ExM σ M CB l dp (C + p.length + E0.length) (S ++ ([nI k] ++ q)) τ2 := by rw [← List.append_assoc]; exact X2
      refine ih l (C + p.length + E0.length) ([nI k] ++ q) τ2 (by omega) (by omega) X2' (by rcases hq with z | z <;> rw [z] <;> simp) (fun y hy => ?_) k10 (fun l2 T' T0 p' τ3 hl k8 k9 k10' hq' hq2 hps' X3 r3 f3 j3 N3 hj3 hN3 => ?_) (fun g l2 τ3 hl F3 f3 => hno g l2 τ3 (by rw [hp, ht, bd_o, hu, bd_o, hl, bd_n]) F3 (f12.tr (f3.mono (fun _ _ q => xEx_le (by omega) q)))) j2 N2 hj2 hN2
      · rw [List.mem_append, List.mem_singleton] at hy
        rcases hy with z | z
        · rw [z]; exact sgk
        · rcases hq with w | w <;> rw [w] at z
          · cases z
          · rw [List.mem_singleton.mp z]; exact Or.inr (Or.inr (Or.inr rfl))
      · have f13 : Fm (xEx C) τ τ3 := f12.tr (f3.mono (fun _ _ q => xEx_le (by omega) q))
        have lA : (p.reverse.map ocM ++ E0 ++ T0).length = p.length + E0.length + T0.length := by rw [List.length_append, List.length_append, lp]
        refine hok l2 (E ++ [-(nI k)] ++ T') (p.reverse.map ocM ++ E0 ++ T0) p' τ3 (by rw [hp, ht, bd_o, hu, bd_o, hl, bd_o]) k8 k9 k10' ?_ hq2 hps' (by rw [lA, show C + (p.length + E0.length + T0.length) = C + p.length + E0.length + T0.length by omega]; exact X3) ?_ f13 j3 N3 hj3 hN3
        · rw [pq] at hq'
          rw [hE]
          simp only [List.append_assoc] at hq' ⊢
          rw [hq']
        · refine rp_app (rp_fm rA f3 (fun a j ha hj => xEx_70 ha (by rw [List.length_append, lp] at hj; omega))) ?_
          rw [List.length_append, lp, ← Nat.add_assoc]
          exact r3
    · refine hok i [] [] p τ (by rw [smL, if_neg hk]) (fun e => hk (Or.inl e)) (fun e => hk (Or.inr e)) h10 (by rw [List.append_nil, List.nil_append]) hp2 hps h rp_nil Fm.rf j1 N hj1 hN
theorem sumM1 (hT : TkM σ K P V NM M) {S0 : Nat → Rs Ex} {dp : Nat} (hdp : dp ≤ 8) (hUg : ∀ i, GdR (17 - 2 * dp) i (unP K V S0 dp i)) (hS : dp < 8 → SmM σ K P M CB Q (dp + 1) S0) : SmM σ K P M CB Q dp (smP K V S0 dp) := by
  intro i C S τ hi1 h hSl hS0 hok hno N hN
  have h6 := hT.1
  have hiM := h.1.2.2.1
  obtain ⟨N', rfl⟩ : ∃ N', N = N' + 1 := ⟨N - 1, by omega⟩
  have S1 : flM 1 S := by
    rcases hS0 with z | ⟨S', y, e, w⟩
    · exact Or.inl z
    · rcases w with w | w
      · exact Or.inr ⟨S', y, e, Or.inl w⟩
      · exact absurd rfl w.1
  have tail : ∀ (s : List Int32) (i1 C1 : Nat) (τ1 : St) (op : Ex), (s = [] ∧ op = [] ∨ s = [3] ∧ op = [-15]) → C ≤ C1 → C1 = C → 1 ≤ i1 → ExM σ M CB i1 dp C1 (S ++ s) τ1 → Fm (xEx C) τ τ1 → smP K V S0 dp i = ((prP K V S0 dp i1).bd fun k E => (smL K V S0 dp 600 k).bd fun l T => .ok l (E ++ op ++ T)) → 601 ≤ N' + i1 → wX12_expression_62 Q (K14 Q N') 0 1 τ1 := by
    intro s i1 C1 τ1 op hs _ hC1 hi X1 f1 hp hN1
    subst hC1
    have fl : flM 1 (S ++ s) := by
      rcases hs with ⟨z, _⟩ | ⟨z, _⟩ <;> rw [z]
      · rw [List.append_nil]; exact S1
      · exact Or.inr ⟨S, 3, rfl, Or.inr ⟨z10, by decide⟩⟩
    have ls : s.length ≤ 1 := by rcases hs with ⟨z, _⟩ | ⟨z, _⟩ <;> rw [z] <;> decide
    refine prodM hT hdp hUg hS fl (by rw [List.length_append]; omega) hi X1 (fun l E E0 q τ2 hu il k10 hE hq X2 r2 f2 j2 N2 hj2 hN2 => ?_) (fun g k' τ2 hu F2 f2 => hno g k' τ2 (by rw [hp, hu, bd_n]) F2 (f1.tr f2)) N' hN1
    have pq : (s ++ q).reverse.map ocM = q.map ocM ++ op := by
      rcases hs with ⟨z, w⟩ | ⟨z, w⟩ <;> rcases hq with v | v <;> rw [z, w, v] <;> decide
    have X2' : ExM σ M CB l dp (C1 + E0.length) (S ++ (s ++ q)) τ2 := by rw [← List.append_assoc]; exact X2
    refine smLM hT hdp hUg hS hS0 hSl 600 l (C1 + E0.length) (s ++ q) τ2 (by omega) (by omega) X2' (by rcases hq with z | z <;> rw [z, List.length_append] <;> simp <;> omega) (fun y hy => ?_) k10 (fun l2 T' T0 p' τ3 hl k8 k9 k10' hq' hq2 hps' X3 r3 f3 j3 N3 hj3 hN3 => ?_) (fun g l2 τ3 hl F3 f3 => hno g l2 τ3 (by rw [hp, hu, bd_o, hl, bd_n]) F3 ((f1.tr f2).tr (f3.mono (fun _ _ q => xEx_le (by omega) q)))) j2 N2 hj2 hN2
    · rw [List.mem_append] at hy
      rcases hy with y1 | y1
      · rcases hs with ⟨z, _⟩ | ⟨z, _⟩ <;> rw [z] at y1
        · cases y1
        · rw [List.mem_singleton.mp y1]; exact Or.inl rfl
      · rcases hq with z | z <;> rw [z] at y1
        · cases y1
        · rw [List.mem_singleton.mp y1]; exact Or.inr (Or.inr (Or.inr rfl))
    · refine hok l2 (E ++ op ++ T') (E0 ++ T0) p' τ3 (by rw [hp, hu, bd_o, hl, bd_o]) k8 k9 k10' ?_ hq2 hps' (by rw [List.length_append, ← Nat.add_assoc]; exact X3) (rp_app (rp_fm r2 f3 (fun a j ha hj => xEx_70 ha hj)) r3) ((f1.tr f2).tr (f3.mono (fun _ _ q => xEx_le (by omega) q))) j3 N3 hj3 hN3
      rw [pq] at hq'
      rw [hE]
      simp only [List.append_assoc] at hq' ⊢
      rw [hq']
  refine ⟨fun c => absurd c z10, fun _ => ⟨fun _ => ⟨fun c => absurd c z10, fun _ => ?_⟩, fun c => absurd h.1.2.2.2 c⟩⟩
  refine isM (k := 9) hT h.1 (by decide) rfl (fun hk => ⟨z11, fun _ => ?_⟩) (fun hk => ⟨fun _ => ?_, fun c => absurd rfl c⟩)
  · have hp : smP K V S0 dp i = (tkP K 9 i).bd fun j _ => (prP K V S0 dp j).bd fun k E => (smL K V S0 dp 600 k).bd fun l T => .ok l (E ++ [-15] ++ T) := by unfold smP; rw [if_pos hk]
    obtain ⟨A, eo, ec, W, hB, hCB, hx⟩ := h
    refine nextM hT A hk (by decide) (fun τ1 hi ht A1 f1 => ?_) (fun f τ1 ht F1 f1 => ?_)
    · refine pushM (W.fm f1 rfl (fun _ => rfl)) (by omega) (fun τ2 W2 f2 => ?_)
      refine tail [3] (i + 1) C τ2 [-15] (Or.inr ⟨rfl, rfl⟩) (Nat.le_refl _) rfl (by omega) ⟨A1.fm f2 (fun a j h1 h2 => by simp; omega) (by simp) (by simp), ?_, ?_, W2, ?_, hCB, fun x hx' => ?_⟩ ((f1.mono (fun _ _ q => xTm_Ex q)).tr (f2.mono (fun _ _ q => xWa_Ex q))) (by rw [hp, ht, bd_o]) (by omega)
      · rw [f2.2 11 12 (by simp), f1.2 11 12 rfl]; exact eo
      · rw [f2.2 11 38 (by simp), f1.2 11 38 rfl]; exact ec
      · rw [List.length_append, List.length_singleton]; omega
      · rw [List.mem_append, List.mem_singleton] at hx'
        rcases hx' with q | q
        · exact hx x q
        · exact Or.inr (Or.inl q)
    · refine pushM (W.fm f1 rfl (fun _ => rfl)) (by omega) (fun τ2 W2 f2 => ?_)
      have F2 := F1.fm f2 (by simp) (by simp)
      exact fU0 F2 (hno f i τ2 (by rw [hp, ht, bd_n]) F2 ((f1.mono (fun _ _ q => xTm_Ex q)).tr (f2.mono (fun _ _ q => xWa_Ex q))))
  · refine tail [] i C τ [] (Or.inl ⟨rfl, rfl⟩) (Nat.le_refl _) rfl hi1 (by rw [List.append_nil]; exact h) Fm.rf ?_ (by omega)
    unfold smP
    rw [if_neg hk]
    simp only [List.append_nil]
theorem sumM (hT : TkM σ K P V NM M) : ∀ d dp, dp ≤ 8 → 9 ≤ dp + d → SmM σ K P M CB Q dp (smN K V d dp)
  | 0, dp, h1, h2 => absurd h2 (by omega)
  | d + 1, dp, h1, h2 => by
    have hUg : ∀ i, GdR (17 - 2 * dp) i (unP K V (smN K V d (dp + 1)) dp i) := fun i => un_gd hT.2.2.2.1 h1 (fun q i' => by
      have := smN_gd hT.2.2.2.1 d (dp + 1) (by omega) (by omega) i'
      rwa [show 19 - 2 * (dp + 1) = 17 - 2 * dp by omega] at this)
    exact sumM1 hT h1 hUg (fun q => sumM hT d (dp + 1) (by omega) (by omega))
/-- an expression of the reference -/
theorem expressionM (hT : TkM σ K P V NM M) {i C : Nat} {τ : St} (hi1 : 1 ≤ i) (A : AtM σ M i τ) (eo : gv τ 11 12 = 0) (ec : gv τ 11 38 = nI C) (hB : C + 600 ≤ CB + i) (hCB : CB ≤ 19000)
    (hok : ∀ j E τ', smN K V 10 0 i = .ok j E → AtM σ M j τ' → gv τ' 11 12 = 0 → gv τ' 11 38 = nI (C + E.length) → rpE (gr τ' 70) (gr τ' 71) C E → Fm (xEx C) τ τ' → Q τ') (hno : ∀ f k τ', smN K V 10 0 i = .no f k → FlM P f k τ' → Fm (xEx C) τ τ' → Q τ') : wX12_expression τ Q := by
  rintro σ1 rfl
  have e12 : gv (pv τ 11 42 0) 11 12 = nI 0 := by rw [gv_pv, if_neg (by decide)]; exact eo
  rintro x1 rfl
  have fp : Fm (fun a j => a == 11 && j == 42) τ (pv τ 11 42 0) := Fm_pv rfl
  have fpx : Fm (xEx C) τ (pv τ 11 42 0) := Fm_pv rfl
  rw [e12]
  have X : ExM σ M CB i 0 C [] (pv τ 11 42 0) := ⟨A.fm fp (fun a j h1 h2 => by simp; omega) (by simp) (by simp), e12, (fp.2 11 38 (by simp)).trans ec, ⟨by rw [gv_pv, if_pos ⟨rfl, rfl⟩]; rfl, fun k x hk => by cases hk⟩, by simp; omega, hCB, fun x hx => by cases hx⟩
  refine ⟨602, sumM (CB := CB) hT 10 0 (by omega) (by omega) i C [] _ hi1 X (by simp) (Or.inl rfl) (fun j E E0 p τ1 hs k8 k9 k10 hE hp2 hps X1 r1 f1 j1 N' hj1 hN' => ?_) (fun f k τ1 hs F1 f1 => hno f k τ1 hs F1 (fpx.tr f1)) 602 (by omega)⟩
  obtain ⟨A1, eo1, ec1, W1, hB1, _, hx1⟩ := X1
  rw [List.nil_append] at W1 hB1 hx1
  have h6 := hT.1
  have hjM := A1.2.2.1
  obtain ⟨j1', rfl⟩ : ∃ j1', j1 = j1' + 1 := ⟨j1 - 1, by omega⟩
  have out : wX12_expression_345 Q τ1 := by
    refine comesM (S := []) (p := p) W1 (by simp; omega) ec1 (by omega) (fun x hx => ⟨hps x hx, Or.inl rfl⟩) (Or.inl rfl) (fun τ2 W2 e2 r2 f2 => ?_)
    refine hok j E τ2 hs (A1.fm f2 (fun a j h1 h2 => by unfold xCo; simp; omega) (by simp [xCo]) (by simp [xCo])) ((f2.2 11 12 (by simp [xCo])).trans eo1) ?_ ?_ ((fpx.tr f1).tr (f2.mono (fun _ _ q => xCo_Ex (by omega) q)))
    · rw [e2, hE, List.length_append, List.length_map, List.length_reverse, Nat.add_assoc]
    · rw [hE]
      refine rp_app (rp_fm r1 f2 (fun a j' ha hj' => ?_)) r2
      unfold xCo
      simp only [Bool.or_eq_false_iff, Bool.and_eq_false_iff, decide_eq_false_iff_not, beq_eq_false_iff_ne]
      omega
  have l295 : wX12_expression_295 Q (K14 Q N') 0 0 τ1 := isM (k := 8) hT A1 (by decide) rfl (fun q => absurd q k8) (fun _ => ⟨fun _ => isM (k := 9) hT A1 (by decide) rfl (fun q => absurd q k9) (fun _ => ⟨fun _ => isM (k := 10) hT A1 (by decide) rfl (fun q => absurd q k10) (fun _ => ⟨fun _ => ⟨fun _ => ⟨fun _ => out, fun c => absurd (by rw [eo1]; decide) c⟩, fun c => absurd rfl c⟩, fun c => absurd rfl c⟩), fun c => absurd rfl c⟩), fun c => absurd rfl c⟩)
  rw [wX12_expression_246]
  refine isM (k := 7) hT A1 (by decide) rfl (fun _ => ⟨z11, fun _ => ⟨fun _ => l295, fun c => absurd (by rw [eo1]; decide) c⟩⟩) (fun _ => ⟨fun _ => l295, fun c => absurd rfl c⟩)
theorem expressionF {f i : Nat} {τ : St} (F : FlM P f i τ) (hQ : ∀ τ', Fm (fun a j => a == 11 && j == 42) τ τ' → FlM P f i τ' → Q τ') : wX12_expression τ Q := by
  rintro σ1 rfl
  rintro x1 rfl
  have F1 : FlM P f i (pv τ 11 42 0) := F.fm (Fm_pv (X := fun a j => a == 11 && j == 42) rfl) rfl rfl
  exact ⟨1, fun c => absurd c z10, fun _ => ⟨fun c => absurd c F1.ne.1, fun _ => hQ _ (Fm_pv rfl) F1⟩⟩
end EY
