/-! read: the reference's conditions. -/
def xCd (NR C a j : Nat) : Bool := xEx C a j || (a == 11 && j == 32) || (decide (65 ≤ a) && decide (a ≤ 69) && decide (NR ≤ j))
theorem xCd_Ex {NR C a j : Nat} (h : xCd NR C a j = false) : xEx C a j = false := by
  unfold xCd at h
  simp only [Bool.or_eq_false_iff] at h
  exact h.1.1
theorem xCd_le {NR NR' C C' a j : Nat} (h1 : NR ≤ NR') (h2 : C ≤ C') (h : xCd NR C a j = false) : xCd NR' C' a j = false := by
  unfold xCd at h ⊢
  simp only [Bool.or_eq_false_iff] at h ⊢
  refine ⟨⟨xEx_le h2 h.1.1, h.1.2⟩, ?_⟩
  have := h.2
  simp only [Bool.and_eq_false_iff, decide_eq_false_iff_not] at this ⊢
  omega
theorem xCd_no {NR C a j : Nat} (h1 : a = 11 → j ≠ 11 ∧ j ≠ 12 ∧ j ≠ 13 ∧ j ≠ 14 ∧ j ≠ 38 ∧ j ≠ 42 ∧ j ≠ 32) (h2 : a ≠ 72) (h3 : a = 70 ∨ a = 71 → j < C) (h4 : 65 ≤ a → a ≤ 69 → j < NR) : xCd NR C a j = false := by
  unfold xCd xEx
  simp only [Bool.or_eq_false_iff, Bool.and_eq_false_iff, decide_eq_false_iff_not, beq_eq_false_iff_ne]
  omega
theorem xTm_Cd {NR C a j : Nat} (h : xCd NR C a j = false) : xTm a j = false := xTm_Ex (xCd_Ex h)
theorem rpR_kp {τ τ' : St} {C C' : Nat} (hC : C ≤ C') (h70 : ∀ a j, a = 70 ∨ a = 71 → j < C → gv τ' a j = gv τ a j) : ∀ (cs : List Rl) (p : Nat), rpR (gr τ 65) (gr τ 66) (gr τ 67) (gr τ 68) (gr τ 69) (gr τ 70) (gr τ 71) C p cs → (∀ a j, 65 ≤ a → a ≤ 69 → p ≤ j → j < p + cs.length → gv τ' a j = gv τ a j) → rpR (gr τ' 65) (gr τ' 66) (gr τ' 67) (gr τ' 68) (gr τ' 69) (gr τ' 70) (gr τ' 71) C' p cs
  | [], _, _, _ => trivial
  | (o, L, s, R) :: t, p, h, h65 => by
    obtain ⟨⟨l, q1, q2, q3, q4, q5, q6⟩, q7, q8, q9⟩ := h
    have hx : ∀ a, 65 ≤ a → a ≤ 69 → gv τ' a p = gv τ a p := fun a h1 h2 => h65 a p h1 h2 (Nat.le_refl _) (by rw [List.length_cons]; omega)
    have re : ∀ (E : Ex) (s : Nat), s + E.length ≤ C → rpE (gr τ 70) (gr τ 71) s E → rpE (gr τ' 70) (gr τ' 71) s E := fun E s hs h j c hj => by
      have hl : j < E.length := by
        rw [List.getElem?_eq_some_iff] at hj
        exact hj.1
      obtain ⟨z1, z2⟩ := h j c hj
      exact ⟨(h70 70 (s + j) (Or.inl rfl) (by omega)).trans z1, (h70 71 (s + j) (Or.inr rfl) (by omega)).trans z2⟩
    refine ⟨⟨l, (hx 66 (by decide) (by decide)).trans q1, (hx 67 (by decide) (by decide)).trans q2, (hx 68 (by decide) (by decide)).trans q3, by omega, re L l (by omega) q5, re R (l + L.length) (by omega) q6⟩, (hx 65 (by decide) (by decide)).trans q7, (hx 69 (by decide) (by decide)).trans q8, rpR_kp hC h70 t (p + 1) q9 (fun a j h1 h2 h3 h4 => h65 a j h1 h2 (by omega) (by rw [List.length_cons]; omega))⟩
theorem kN_rel : ∀ k, k < 39 → ((11 ≤ kN k ∧ kN k ≤ 14) ↔ (11 ≤ k ∧ k ≤ 14)) := by decide
abbrev rpS (τ : St) (C p : Nat) (cs : List Rl) : Prop := rpR (gr τ 65) (gr τ 66) (gr τ 67) (gr τ 68) (gr τ 69) (gr τ 70) (gr τ 71) C p cs
def CnM (σ : St) (M CB NB i C NR : Nat) (τ : St) : Prop := AtM σ M i τ ∧ gv τ 11 12 = 0 ∧ gv τ 11 38 = nI C ∧ C + 600 ≤ CB + i ∧ CB ≤ 19000 ∧ gv τ 11 32 = nI NR ∧ NR + 600 ≤ NB + i ∧ NB ≤ 6600
section CM
variable {σ : St} {K P : Nat → Nat} {V : Nat → Int32} {NM : Nat → List Nat} {M CB NB : Nat} {Q : St → Prop}
/-- behind a relation: on, or not -/
def CdN (Q : St → Prop) (N : Nat) (τ : St) : Prop := wX12_is (29 : Int32) τ (fun (r18 : Int32) (σ19 : St) => ((r18 = 0 → wX12_is (30 : Int32) σ19 (fun (r21 : Int32) (σ22 : St) => ((r21 = 0 → wX12_condition_184 Q (fun x1' x2' σ' => wX12_condition_4 Q N x1' x2' σ') r18 (0 : Int32) σ22) ∧ (¬ (r21 = 0) → wX12_condition_179 Q (fun x1' x2' σ' => wX12_condition_4 Q N x1' x2' σ') r18 σ22)))) ∧ (¬ (r18 = 0) → wX12_condition_179 Q (fun x1' x2' σ' => wX12_condition_4 Q N x1' x2' σ') r18 σ19)))
theorem cond72F {f k N : Nat} {x1 x3 x4 : Int32} {τ : St} (F : FlM P f k τ) (hQ : ∀ τ', Fm (fun a j => a == 11 && (j == 11 || j == 13 || j == 14 || j == 42)) τ τ' → FlM P f k τ' → Q τ') : wX12_condition_72 Q (fun x1' x2' σ' => wX12_condition_4 Q N x1' x2' σ') x1 x3 x4 τ := by
  refine nextF F (fun τ1 f1 F1 => ?_)
  rintro x5 rfl
  refine expressionF F1 (fun τ2 f2 F2 => ⟨fun c => absurd c F2.ne.2, fun _ => hQ τ2 ((f1.mono (fun a j q => ?_)).tr (f2.mono (fun a j q => ?_))) F2⟩)
  · simp only [Bool.or_eq_false_iff, Bool.and_eq_false_iff, beq_eq_false_iff_ne] at q
    unfold xTm
    simp only [Bool.or_eq_false_iff, Bool.and_eq_false_iff, beq_eq_false_iff_ne]
    omega
  · simp only [Bool.or_eq_false_iff, Bool.and_eq_false_iff, beq_eq_false_iff_ne] at q ⊢
    omega
theorem xF_Cd {NR C a j : Nat} (h : xCd NR C a j = false) : (a == 11 && (j == 11 || j == 13 || j == 14 || j == 42)) = false := by
  have := xCd_Ex h
  unfold xEx at this
  simp only [Bool.or_eq_false_iff, Bool.and_eq_false_iff, decide_eq_false_iff_not, beq_eq_false_iff_ne] at this ⊢
  omega
theorem relM (hT : TkM σ K P V NM M) {i C NR : Nat} {o : Bool} {τ : St} (hi1 : 1 ≤ i) (h : CnM σ M CB NB i C NR τ)
    (hok : ∀ l r τ' N, rlP K V i = .ok l r → CnM σ M CB NB l (C + r.1.length + r.2.2.length) (NR + 1) τ' → rpS τ' (C + r.1.length + r.2.2.length) NR [(o, r)] → Fm (xCd NR C) τ τ' → 601 ≤ N + i → CdN Q N τ') (hno : ∀ f k τ', rlP K V i = .no f k → FlM P f k τ' → Fm (xCd NR C) τ τ' → Q τ') (N : Nat) (hN : 602 ≤ N + i) : wX12_condition_4 Q N (b01 o) 1 τ := by
  obtain ⟨A, eo, ec, hB, hCB, er, hNR, hNB⟩ := h
  have h6 := hT.1
  obtain ⟨N', rfl⟩ : ∃ N', N = N' + 1 := ⟨N - 1, by have := A.2.2.1; omega⟩
  refine ⟨fun c => absurd c z10, fun _ => ⟨fun _ => ?_, fun c => absurd A.2.2.2 c⟩⟩
  rintro x3 rfl
  rw [ec]
  refine expressionM (CB := CB) hT hi1 A eo ec hB hCB (fun j L τ1 h1 A1 o1 c1 r1 f1 => ?_) (fun f k τ1 h1 F1 f1 => ⟨fun c => absurd c F1.ne.2, fun _ => ⟨fun c => absurd c F1.ne.1, fun _ => cond72F F1 (fun τ2 f2 F2 => hno f k τ2 (by unfold rlP; rw [h1, bd_n]) F2 ((f1.mono (fun _ _ q => xCd_Ex q)).tr (f2.mono (fun _ _ q => xF_Cd q))))⟩⟩)
  obtain ⟨g1, g2, g3, _⟩ := sm_ok hT.2.2.2.1 h1
  have hjM := A1.2.2.1
  have hK := hT.2.2.2.1.1 j
  have hKn := kN_le (K j) (by omega)
  have f1c : Fm (xCd NR C) τ τ1 := f1.mono (fun _ _ q => xCd_Ex q)
  refine ⟨fun _ => ?_, fun c => absurd (by rw [A1.2.2.2]; decide) c⟩
  rw [A1.2.1, nI_clamp (by omega), show gv τ1 50 j = nI (kN (K j)) from (congrFun A1.1.1 j).trans (hT.2.2.1 j hjM).1]
  refine ⟨vp_in_nI (by omega) (by decide), fun _ => ?_, fun c => absurd A1.2.2.2 c⟩
  have bad : ∀ x4, (K j < 11 ∨ 14 < K j) → wX12_condition_67 Q (fun x1' x2' σ' => wX12_condition_4 Q N' x1' x2' σ') (b01 o) (nI C) x4 τ1 := by
    intro x4 hk
    refine failM (f := 1) hT A1 (Or.inl rfl) rfl (fun τ2 f2 _ F2 => cond72F F2 (fun τ3 f3 F3 => hno 1 j τ3 (by unfold rlP; rw [h1, bd_o, if_pos hk]) F3 ((f1c.tr (f2.mono (fun _ _ q => xTm_Cd q))).tr (f3.mono (fun _ _ q => xF_Cd q)))))
  have t0 : (nI (kN (K j)) - 11).toInt = (kN (K j) : Int) - 11 := by
    rw [show (11 : Int32) = nI 11 from rfl, pk_sub_toInt (by omega) (by decide)]
    rfl
  have z0 : (0 : Int32).toInt = 0 := by decide
  have z3 : (3 : Int32).toInt = 3 := by decide
  have rel := kN_rel (K j) (by omega)
  refine ⟨fun c => ?_, fun c => ⟨fun c2 => ?_, fun c2 => ?_⟩⟩
  · rw [Int32.lt_iff_toInt_lt, t0, z0] at c
    refine bad _ ?_
    by_cases z : 11 ≤ K j ∧ K j ≤ 14
    · have := rel.mpr z
      omega
    · omega
  · rw [Int32.lt_iff_toInt_lt, t0, z0] at c
    rw [Int32.le_iff_toInt_le, t0, z3] at c2
    have hk := rel.mp (by omega)
    have kk : kN (K j) = K j := by
      rcases (show K j = 11 ∨ K j = 12 ∨ K j = 13 ∨ K j = 14 by omega) with q | q | q | q <;> rw [q] <;> decide
    have es : nI (kN (K j)) - 11 = nI (K j - 11) := by rw [kk, show (11 : Int32) = nI 11 from rfl, pk_sub (by omega)]
    rw [es]
    have hp : rlP K V i = (tkP K (K j) j).bd fun k _ => (smN K V 10 0 k).bd fun l R => .ok l (L, K j - 11, R) := by
      unfold rlP
      rw [h1, bd_o, if_neg (by omega)]
    refine nextM hT A1 rfl (by omega) (fun τ2 hi ht A2 f2 => ?_) (fun f τ2 ht F2 f2 => ?_)
    · rintro x5 rfl
      have c2' : gv τ2 11 38 = nI (C + L.length) := (f2.2 11 38 rfl).trans c1
      rw [c2']
      have f12 : Fm (xCd NR C) τ τ2 := f1c.tr (f2.mono (fun _ _ q => xTm_Cd q))
      refine expressionM (CB := CB) hT (by omega) A2 ((f2.2 11 12 rfl).trans o1) c2' (by omega) hCB (fun l R τ3 h3 A3 o3 c3 r3 f3 => ?_) (fun f k τ3 h3 F3 f3 => ⟨fun c => absurd c F3.ne.2, fun _ => hno f k τ3 (by rw [hp, ht, bd_o, h3, bd_n]) F3 (f12.tr (f3.mono (fun _ _ q => xEx_le (by omega) (xCd_Ex q))))⟩)
      obtain ⟨m1, m2, m3, _⟩ := sm_ok hT.2.2.2.1 h3
      have f13 : Fm (xCd NR C) τ τ3 := f12.tr (f3.mono (fun _ _ q => xEx_le (by omega) (xCd_Ex q)))
      refine ⟨fun _ => ?_, fun c => absurd (by rw [A3.2.2.2]; decide) c⟩
      have e32 : gv τ3 11 32 = nI NR := by
        rw [f3.2 11 32 rfl, f2.2 11 32 rfl, f1.2 11 32 rfl]
        exact er
      have vr : vp_in (nI NR) 6600 := vp_in_nI (by have := A3.2.2.1; omega) (by decide)
      have cr : (nI NR).toNatClampNeg = NR := nI_clamp (by have := A3.2.2.1; omega)
      have en : vp_nar .boolean (b01 o) = b01 o := by cases o <;> rfl
      rw [e32, cr]
      refine ⟨vr, ?_⟩
      rintro σ8 rfl
      rw [show gv (pv τ3 65 NR (nI (K j - 11))) 11 32 = nI NR by rw [gv_pv, if_neg (by omega)]; exact e32, cr]
      refine ⟨vr, ?_⟩
      rintro σ10 rfl
      rw [show gv (pv (pv τ3 65 NR (nI (K j - 11))) 66 NR (nI C)) 11 32 = nI NR by rw [gv_pv, if_neg (by omega), gv_pv, if_neg (by omega)]; exact e32, cr]
      refine ⟨vr, ?_⟩
      rintro σ12 rfl
      rw [show gv (pv (pv (pv τ3 65 NR (nI (K j - 11))) 66 NR (nI C)) 67 NR (nI (C + L.length))) 11 32 = nI NR by rw [gv_pv, if_neg (by omega), gv_pv, if_neg (by omega), gv_pv, if_neg (by omega)]; exact e32, cr, show gv (pv (pv (pv τ3 65 NR (nI (K j - 11))) 66 NR (nI C)) 67 NR (nI (C + L.length))) 11 38 = nI (C + L.length + R.length) by rw [gv_pv, if_neg (by omega), gv_pv, if_neg (by omega), gv_pv, if_neg (by omega)]; exact c3]
      refine ⟨vr, ?_⟩
      rintro σ14 rfl
      rw [show gv (pv (pv (pv (pv τ3 65 NR (nI (K j - 11))) 66 NR (nI C)) 67 NR (nI (C + L.length))) 68 NR (nI (C + L.length + R.length))) 11 32 = nI NR by rw [gv_pv, if_neg (by omega), gv_pv, if_neg (by omega), gv_pv, if_neg (by omega), gv_pv, if_neg (by omega)]; exact e32, cr, en]
      refine ⟨vr, ?_⟩
      rintro σ16 rfl
      rw [show gv (pv (pv (pv (pv (pv τ3 65 NR (nI (K j - 11))) 66 NR (nI C)) 67 NR (nI (C + L.length))) 68 NR (nI (C + L.length + R.length))) 69 NR (b01 o)) 11 32 = nI NR by rw [gv_pv, if_neg (by omega), gv_pv, if_neg (by omega), gv_pv, if_neg (by omega), gv_pv, if_neg (by omega), gv_pv, if_neg (by omega)]; exact e32, nI_1]
      intro σ17 e17
      have fx : Fm (fun a j => (a == 11 && j == 32) || (decide (65 ≤ a) && decide (a ≤ 69) && j == NR)) τ3 σ17 := by
        rw [e17]
        exact (((((Fm_pv (by simp)).tr (Fm_pv (by simp))).tr (Fm_pv (by simp))).tr (Fm_pv (by simp))).tr (Fm_pv (by simp))).tr (Fm_pv (by simp))
      have fxc : Fm (xCd NR C) τ3 σ17 := fx.mono (fun a j q => by
        unfold xCd at q
        simp only [Bool.or_eq_false_iff, Bool.and_eq_false_iff, decide_eq_false_iff_not, beq_eq_false_iff_ne] at q ⊢
        omega)
      have A17 : AtM σ M l σ17 := A3.fm fx (fun a j h1 h2 => by simp; omega) (by simp) (by simp)
      refine hok l (L, K j - 11, R) σ17 N' (by rw [hp, ht, bd_o, h3, bd_o]) ⟨A17, (fx.2 11 12 (by simp)).trans o3, (fx.2 11 38 (by simp)).trans c3, by show C + L.length + R.length + 600 ≤ CB + l; omega, hCB, by rw [e17, gv_pv, if_pos ⟨rfl, rfl⟩], by omega, hNB⟩ ?_ (f13.tr fxc) (by omega)
      have rL : rpE (gr σ17 70) (gr σ17 71) C L := by
        have q2 : rpE (gr τ2 70) (gr τ2 71) C L := rp_fm r1 f2 (fun a j' ha _ => xTm_no (by omega))
        have q3 : rpE (gr τ3 70) (gr τ3 71) C L := rp_fm q2 f3 (fun a j' ha hj' => xEx_70 ha hj')
        exact rp_fm q3 fx (fun a j' ha _ => by simp; omega)
      have rR : rpE (gr σ17 70) (gr σ17 71) (C + L.length) R := rp_fm r3 fx (fun a j' ha _ => by simp; omega)
      refine ⟨⟨C, ?_, ?_, ?_, Nat.le_refl _, rL, rR⟩, ?_, ?_, trivial⟩
      · show gv σ17 66 NR = nI C
        rw [e17, gv_pv, if_neg (by omega), gv_pv, if_neg (by omega), gv_pv, if_neg (by omega), gv_pv, if_neg (by omega), gv_pv, if_pos ⟨rfl, rfl⟩]
      · show gv σ17 67 NR = nI (C + L.length)
        rw [e17, gv_pv, if_neg (by omega), gv_pv, if_neg (by omega), gv_pv, if_neg (by omega), gv_pv, if_pos ⟨rfl, rfl⟩]
      · show gv σ17 68 NR = nI (C + L.length + R.length)
        rw [e17, gv_pv, if_neg (by omega), gv_pv, if_neg (by omega), gv_pv, if_pos ⟨rfl, rfl⟩]
      · show gv σ17 65 NR = nI (K j - 11)
        rw [e17, gv_pv, if_neg (by omega), gv_pv, if_neg (by omega), gv_pv, if_neg (by omega), gv_pv, if_neg (by omega), gv_pv, if_neg (by omega), gv_pv, if_pos ⟨rfl, rfl⟩]
      · show gv σ17 69 NR = b01 o
        rw [e17, gv_pv, if_neg (by omega), gv_pv, if_pos ⟨rfl, rfl⟩]
    · rintro x5 rfl
      refine expressionF F2 (fun τ3 f3 F3 => ⟨fun c => absurd c F3.ne.2, fun _ => hno f j τ3 (by rw [hp, ht, bd_n]) F3 ((f1c.tr (f2.mono (fun _ _ q => xTm_Cd q))).tr (f3.mono (fun a j q => ?_)))⟩)
      have := xF_Cd q
      simp only [Bool.or_eq_false_iff, Bool.and_eq_false_iff, beq_eq_false_iff_ne] at this ⊢
      omega
  · rw [Int32.le_iff_toInt_le, t0, z3] at c2
    refine bad _ ?_
    by_cases z : 11 ≤ K j ∧ K j ≤ 14
    · have := rel.mpr z
      omega
    · omega
theorem cond_loop (hT : TkM σ K P V NM M) : ∀ (f i C NR : Nat) (τ : St) (N : Nat), 600 < f + i → 1 ≤ i → CnM σ M CB NB i C NR τ → 601 ≤ N + i →
    (∀ l cs τ' C', cdL K V f i = .ok l cs → CnM σ M CB NB l C' (NR + cs.length) τ' → C ≤ C' → rpS τ' C' NR cs → Fm (xCd NR C) τ τ' → Q τ') →
    (∀ g k τ', cdL K V f i = .no g k → FlM P g k τ' → Fm (xCd NR C) τ τ' → Q τ') → CdN Q N τ := by
  intro f
  induction f with
  | zero =>
    intro i C NR τ N hf _ h
    have := h.1.2.2.1
    have := hT.1
    exact absurd hf (by omega)
  | succ f ih =>
    intro i C NR τ N hf hi1 h hN hok hno
    have h6 := hT.1
    have A := h.1
    have go : ∀ (k : Nat) (o : Bool), K i = k → (k = 26 ∨ k = 25) → o = decide (k = 25) → wX12_condition_179 Q (fun x1' x2' σ' => wX12_condition_4 Q N x1' x2' σ') (b01 o) τ := by
      intro k o hk hk2 ho
      have hp : cdL K V (f + 1) i = (tkP K k i).bd fun j _ => (rlP K V j).bd fun k r => (cdL K V f k).bd fun l T => .ok l ((o, r) :: T) := by
        rw [cdL, if_pos (by rw [hk]; exact hk2), hk, ← ho]
      refine ⟨fun c => absurd c z10, fun _ => nextM hT A hk (by omega) (fun τ1 hi ht A1 f1 => ?_) (fun g τ1 ht F1 f1 => ?_)⟩
      · have C1 : CnM σ M CB NB (i + 1) C NR τ1 := by
          obtain ⟨_, eo, ec, hB, hCB, er, hNR, hNB⟩ := h
          exact ⟨A1, (f1.2 11 12 rfl).trans eo, (f1.2 11 38 rfl).trans ec, by omega, hCB, (f1.2 11 32 rfl).trans er, by omega, hNB⟩
        have f1c : Fm (xCd NR C) τ τ1 := f1.mono (fun _ _ q => xTm_Cd q)
        refine relM (o := o) hT (by omega) C1 (fun l r τ2 N2 hr C2 s2 f2 hN2 => ?_) (fun g k' τ2 hr F2 f2 => hno g k' τ2 (by rw [hp, ht, bd_o, hr, bd_n]) F2 (f1c.tr f2)) N (by omega)
        obtain ⟨g1, g2, g3, _⟩ := rl_ok hT.2.2.2.1 hr
        refine ih l _ (NR + 1) τ2 N2 (by omega) (by omega) C2 (by omega) (fun l2 cs τ3 C3 hl C4 hC3 s3 f3 => ?_) (fun g k' τ3 hl F3 f3 => hno g k' τ3 (by rw [hp, ht, bd_o, hr, bd_o, hl, bd_n]) F3 ((f1c.tr f2).tr (f3.mono (fun _ _ q => xCd_le (by omega) (by omega) q))))
        refine hok l2 ((o, r) :: cs) τ3 C3 (by rw [hp, ht, bd_o, hr, bd_o, hl, bd_o]) (by rw [List.length_cons, show NR + (cs.length + 1) = NR + 1 + cs.length by omega]; exact C4) (by omega) ?_ ((f1c.tr f2).tr (f3.mono (fun _ _ q => xCd_le (by omega) (by omega) q)))
        have s2' := rpR_kp hC3 (fun a j ha hj => f3.2 a j (xCd_no (by omega) (by omega) (by omega) (by omega))) [(o, r)] NR s2 (fun a j h1 h2 h3 h4 => f3.2 a j (xCd_no (by omega) (by omega) (by omega) (fun _ _ => by rw [List.length_singleton] at h4; omega)))
        obtain ⟨L, s, R⟩ := r
        exact ⟨s2'.1, s2'.2.1, s2'.2.2.1, s3⟩
      · obtain ⟨N', rfl⟩ : ∃ N', N = N' + 1 := ⟨N - 1, by have := A.2.2.1; omega⟩
        exact ⟨fun c => absurd c z10, fun _ => ⟨fun c => absurd c F1.ne.1, fun _ => hno g i τ1 (by rw [hp, ht, bd_n]) F1 (f1.mono (fun _ _ q => xTm_Cd q))⟩⟩
    refine isM (k := 25) hT A (by decide) rfl (fun hk => ⟨z11, fun _ => go 25 true hk (Or.inr rfl) rfl⟩) (fun hk => ⟨fun _ => isM (k := 26) hT A (by decide) rfl (fun hk2 => ⟨z11, fun _ => go 26 false hk2 (Or.inl rfl) rfl⟩) (fun hk2 => ⟨fun _ => ⟨fun _ => ?_, fun c => absurd rfl c⟩, fun c => absurd rfl c⟩), fun c => absurd rfl c⟩)
    obtain ⟨N', rfl⟩ : ∃ N', N = N' + 1 := ⟨N - 1, by have := A.2.2.1; omega⟩
    have hq : ¬ (K i = 26 ∨ K i = 25) := fun e => by
      rcases e with e | e
      · exact hk2 e
      · exact hk e
    refine ⟨fun _ => hok i [] τ C (by rw [cdL, if_neg hq]) h (Nat.le_refl _) trivial Fm.rf, fun c => absurd rfl c⟩
theorem conditionM (hT : TkM σ K P V NM M) {i C NR : Nat} {τ : St} (hi1 : 1 ≤ i) (h : CnM σ M CB NB i C NR τ)
    (hok : ∀ l cs τ' C', cdP K V i = .ok l cs → CnM σ M CB NB l C' (NR + cs.length) τ' → C ≤ C' → rpS τ' C' NR cs → Fm (xCd NR C) τ τ' → Q τ') (hno : ∀ g k τ', cdP K V i = .no g k → FlM P g k τ' → Fm (xCd NR C) τ τ' → Q τ') : wX12_condition τ Q := by
  refine ⟨602, relM (o := true) hT hi1 h (fun l r τ1 N1 hr C1 s1 f1 hN1 => ?_) (fun g k τ1 hr F1 f1 => hno g k τ1 (by unfold cdP; rw [hr, bd_n]) F1 f1) 602 (by omega)⟩
  obtain ⟨g1, g2, g3, _⟩ := rl_ok hT.2.2.2.1 hr
  refine cond_loop hT 600 l _ (NR + 1) τ1 N1 (by omega) (by omega) C1 (by omega) (fun l2 cs τ2 C2 hl C4 hC2 s2 f2 => ?_) (fun g k τ2 hl F2 f2 => hno g k τ2 (by unfold cdP; rw [hr, bd_o, hl, bd_n]) F2 (f1.tr (f2.mono (fun _ _ q => xCd_le (by omega) (by omega) q))))
  refine hok l2 ((true, r) :: cs) τ2 C2 (by unfold cdP; rw [hr, bd_o, hl, bd_o]) (by rw [List.length_cons, show NR + (cs.length + 1) = NR + 1 + cs.length by omega]; exact C4) (by omega) ?_ (f1.tr (f2.mono (fun _ _ q => xCd_le (by omega) (by omega) q)))
  have s1' := rpR_kp hC2 (fun a j ha hj => f2.2 a j (xCd_no (by omega) (by omega) (by omega) (by omega))) [(true, r)] NR s1 (fun a j h1 h2 h3 h4 => f2.2 a j (xCd_no (by omega) (by omega) (by omega) (fun _ _ => by rw [List.length_singleton] at h4; omega)))
  obtain ⟨L, s, R⟩ := r
  exact ⟨s1'.1, s1'.2.1, s1'.2.2.1, s2⟩
theorem conditionF {f i : Nat} {τ : St} (F : FlM P f i τ) (hQ : Q τ) : wX12_condition τ Q := ⟨1, fun c => absurd c z10, fun _ => ⟨fun c => absurd c F.ne.1, fun _ => hQ⟩⟩
end CM
