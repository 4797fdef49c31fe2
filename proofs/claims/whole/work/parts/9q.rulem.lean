/-! read: the reference's rules. -/
def xRm (nr NR C a j : Nat) : Bool := xCd NR C a j || (decide (58 ≤ a) && decide (a ≤ 64) && decide (nr ≤ j)) || (a == 11 && (j == 24 || j == 15 || j == 16))
theorem xRm_Cd {nr NR C a j : Nat} (h : xRm nr NR C a j = false) : xCd NR C a j = false := by
  unfold xRm at h
  simp only [Bool.or_eq_false_iff] at h
  exact h.1.1
theorem xRm_le {nr nr' NR NR' C C' a j : Nat} (h0 : nr ≤ nr') (h1 : NR ≤ NR') (h2 : C ≤ C') (h : xRm nr NR C a j = false) : xRm nr' NR' C' a j = false := by
  unfold xRm at h ⊢
  simp only [Bool.or_eq_false_iff] at h ⊢
  refine ⟨⟨xCd_le h1 h2 h.1.1, ?_⟩, h.2⟩
  have := h.1.2
  simp only [Bool.and_eq_false_iff, decide_eq_false_iff_not] at this ⊢
  omega
theorem xRm_no {nr NR C a j : Nat} (h1 : a ≠ 11) (h2 : a ≠ 72) (h3 : a = 70 ∨ a = 71 → j < C) (h4 : 65 ≤ a → a ≤ 69 → j < NR) (h5 : 58 ≤ a → a ≤ 64 → j < nr) : xRm nr NR C a j = false := by
  unfold xRm
  rw [xCd_no (by omega) h2 h3 h4]
  simp only [Bool.or_eq_false_iff, Bool.and_eq_false_iff, decide_eq_false_iff_not, beq_eq_false_iff_ne]
  exact ⟨⟨trivial, by omega⟩, Or.inl h1⟩
theorem xTm_Rm {nr NR C a j : Nat} (h : xRm nr NR C a j = false) : xTm a j = false := xTm_Cd (xRm_Cd h)
/-- what is noted of late faults, all ahead of token b -/
def LtM (P : Nat → Nat) (b : Nat) (τ : St) : Lt → Prop
  | none => gv τ 11 15 = 0
  | some x => gv τ 11 15 = nI x.1 ∧ x.1 ≠ 0 ∧ x.1 < 10 ∧ gv τ 11 16 = nI (P x.2) ∧ x.2 < b
theorem LtM.fm {X : Nat → Nat → Bool} {P : Nat → Nat} {b b' : Nat} {τ τ' : St} {lt : Lt} (h : LtM P b τ lt) (f : Fm X τ τ') (h1 : X 11 15 = false) (h2 : X 11 16 = false) (hb : b ≤ b') : LtM P b' τ' lt := by
  rcases lt with _ | x
  · exact (f.2 11 15 h1).trans h
  · exact ⟨(f.2 11 15 h1).trans h.1, h.2.1, h.2.2.1, (f.2 11 16 h2).trans h.2.2.2.1, by have := h.2.2.2.2; omega⟩
def xWr (a j : Nat) : Bool := a == 11 && (j == 15 || j == 16)
theorem xWr_Rm {nr NR C a j : Nat} (h : xRm nr NR C a j = false) : xWr a j = false := by
  unfold xRm at h
  unfold xWr
  simp only [Bool.or_eq_false_iff, Bool.and_eq_false_iff, decide_eq_false_iff_not, beq_eq_false_iff_ne] at h ⊢
  omega
/-- a rule of the reference's draft -/
def RuMt (NR C i : Nat) (r : Ru) (τ : St) : Prop := gv τ 59 i = r.2.1 ∧ gv τ 60 i = b01 r.1 ∧ gv τ 58 i = nI r.2.2.1 ∧ (∃ s, gv τ 61 i = nI s ∧ (if r.1 then gv τ 62 i = nI (s + r.2.2.2.2.2.1.length) ∧ s + r.2.2.2.2.2.1.length ≤ C ∧ rpE (gr τ 70) (gr τ 71) s r.2.2.2.2.2.1 else gv τ 62 i = nI (s + r.2.2.2.2.2.2.1.length) ∧ s + r.2.2.2.2.2.2.1.length ≤ NR ∧ rpS τ C s r.2.2.2.2.2.2.1)) ∧ ∃ s, gv τ 63 i = nI s ∧ gv τ 64 i = nI (s + r.2.2.2.2.2.2.2.length) ∧ s + r.2.2.2.2.2.2.2.length ≤ NR ∧ rpS τ C s r.2.2.2.2.2.2.2
theorem RuMt.kp {NR NR' C C' i : Nat} {r : Ru} {τ τ' : St} (h : RuMt NR C i r τ) (hN : NR ≤ NR') (hC : C ≤ C') (h1 : ∀ a, 58 ≤ a → a ≤ 64 → gv τ' a i = gv τ a i) (h2 : ∀ a j, 65 ≤ a → a ≤ 69 → j < NR → gv τ' a j = gv τ a j) (h3 : ∀ a j, a = 70 ∨ a = 71 → j < C → gv τ' a j = gv τ a j) : RuMt NR' C' i r τ' := by
  obtain ⟨q1, q2, q3, ⟨s, q4, q5⟩, s', q6, q7, q8, q9⟩ := h
  have rr : ∀ (cs : List Rl) (s : Nat), s + cs.length ≤ NR → rpS τ C s cs → rpS τ' C' s cs := fun cs s hs h => rpR_kp hC h3 cs s h (fun a j a1 a2 a3 a4 => h2 a j a1 a2 (by omega))
  refine ⟨(h1 59 (by decide) (by decide)).trans q1, (h1 60 (by decide) (by decide)).trans q2, (h1 58 (by decide) (by decide)).trans q3, ⟨s, (h1 61 (by decide) (by decide)).trans q4, ?_⟩, s', (h1 63 (by decide) (by decide)).trans q6, (h1 64 (by decide) (by decide)).trans q7, by omega, rr _ _ q8 q9⟩
  by_cases c : r.1 = true
  · rw [if_pos c] at q5 ⊢
    refine ⟨(h1 62 (by decide) (by decide)).trans q5.1, by omega, fun j x hj => ?_⟩
    have hl : j < r.2.2.2.2.2.1.length := by
      rw [List.getElem?_eq_some_iff] at hj
      exact hj.1
    obtain ⟨z1, z2⟩ := q5.2.2 j x hj
    exact ⟨(h3 70 (s + j) (Or.inl rfl) (by omega)).trans z1, (h3 71 (s + j) (Or.inr rfl) (by omega)).trans z2⟩
  · rw [if_neg c] at q5 ⊢
    exact ⟨(h1 62 (by decide) (by decide)).trans q5.1, by omega, rr _ _ q5.2.1 q5.2.2⟩
section RQ
variable {σ : St} {K P : Nat → Nat} {V : Nat → Int32} {NM : Nat → List Nat} {M CB NB : Nat} {Q : St → Prop}
theorem wrongM {k j b : Nat} {τ : St} {lt : Lt} {R : St → Prop} (hT : TkM σ K P V NM M) (hTp : TpM σ τ) (h13 : gv τ 11 13 = 0) (hj : j ≤ M) (hk : k ≠ 0) (hk2 : k < 10) (hb : b ≤ j) (h : LtM P b τ lt) (hQ : ∀ τ', Fm xWr τ τ' → LtM P (j + 1) τ' (ntP lt k j) → R τ') : wX12_wrong (nI k) (nI j) τ R := by
  have h6 := hT.1
  refine ⟨vp_in_nI (by omega) (by decide), ?_⟩
  rw [nI_clamp (by omega), show gv τ 51 j = nI (P j) from (congrFun hTp.2.1 j).trans (hT.2.2.1 j hj).2.1, h13]
  rintro x3 rfl
  refine ⟨fun c => absurd c (by decide), fun _ => ?_⟩
  rcases lt with _ | x
  · refine ⟨fun _ => ?_, fun c => absurd h c⟩
    rintro σ1 rfl σ2 rfl
    refine hQ _ ((Fm_pv rfl).tr (Fm_pv rfl)) ⟨?_, hk, hk2, ?_, Nat.lt_succ_self _⟩
    · rw [gv_pv, if_neg (by decide), gv_pv, if_pos ⟨rfl, rfl⟩]
    · rw [gv_pv, if_pos ⟨rfl, rfl⟩]
  · obtain ⟨q1, q2, q3, q4, q5⟩ := h
    have lt := hT.2.2.2.2.2.1 x.2 j (by omega) hj
    rw [q1, q4]
    refine ⟨fun c => absurd ((nI_eq (b := 0) (by omega) (by decide)).mp c) q2, fun _ => ⟨fun _ => hQ τ Fm.rf ⟨q1, q2, q3, q4, by omega⟩, fun c => absurd (nI_lt lt.1 (by omega)) c⟩⟩
theorem r259F {f k nr NR C : Nat} {τ : St} (hn : nr ≤ 30) (F : FlM P f k τ) (hQ : ∀ τ', FlM P f k τ' → Fm (xRm nr NR C) τ τ' → Q τ') : wX12_tellRule_259 Q (nI nr) τ := by
  refine ⟨vp_in_nI (by omega) (by decide), ?_⟩
  rw [nI_clamp (by omega)]
  rintro σ2 rfl
  have F2 : FlM P f k (pv τ 64 nr (gv τ 11 32)) := F.fm (Fm_pv (X := fun a _ => a == 64) rfl) rfl rfl
  exact mustF F2 ⟨fun c => absurd c F2.ne.1, fun _ => hQ _ F2 (Fm_pv (by simp [xRm]))⟩
theorem r232F {f k nr NR C : Nat} {τ : St} (hn : nr ≤ 30) (F : FlM P f k τ) (hQ : ∀ τ', FlM P f k τ' → Fm (xRm nr NR C) τ τ' → Q τ') : wX12_tellRule_232 Q (nI nr) τ := by
  refine ⟨vp_in_nI (by omega) (by decide), ?_⟩
  rw [nI_clamp (by omega)]
  rintro σ2 rfl
  have F2 : FlM P f k (pv τ 63 nr (gv τ 11 32)) := F.fm (Fm_pv (X := fun a _ => a == 63) rfl) rfl rfl
  exact isF F2 ⟨fun _ => r259F hn F2 (fun τ3 F3 f3 => hQ τ3 F3 ((Fm_pv (by simp [xRm])).tr f3)), fun c => absurd rfl c⟩
theorem r168F {f k nr NR C : Nat} {τ : St} (hn : nr ≤ 30) (F : FlM P f k τ) (hQ : ∀ τ', FlM P f k τ' → Fm (xRm nr NR C) τ τ' → Q τ') : wX12_tellRule_168 Q (nI nr) τ := by
  have vn : vp_in (nI nr) 31 := vp_in_nI (by omega) (by decide)
  have cn : (nI nr).toNatClampNeg = nr := nI_clamp (by omega)
  refine nextF F (fun τ1 f1 F1 => ?_)
  rw [cn]
  have f1r : Fm (xRm nr NR C) τ τ1 := f1.mono (fun _ _ q => xTm_Rm q)
  refine ⟨vn, fun _ => ⟨vn, ?_⟩, fun _ => ⟨vn, ?_⟩⟩
  · rintro σ6 rfl
    have F6 : FlM P f k (pv τ1 61 nr (gv τ1 11 32)) := F1.fm (Fm_pv (X := fun a _ => a == 61) rfl) rfl rfl
    refine conditionF F6 ⟨vn, ?_⟩
    rintro σ10 rfl
    exact r232F hn (F6.fm (Fm_pv (X := fun a _ => a == 62) rfl) rfl rfl) (fun τ3 F3 f3 => hQ τ3 F3 (f1r.tr (((Fm_pv (by simp [xRm])).tr (Fm_pv (by simp [xRm]))).tr f3)))
  · rintro σ12 rfl
    have F6 : FlM P f k (pv τ1 61 nr (gv τ1 11 38)) := F1.fm (Fm_pv (X := fun a _ => a == 61) rfl) rfl rfl
    refine expressionF F6 (fun τ2 f2 F2 => ⟨vn, ?_⟩)
    rintro σ16 rfl
    refine r232F hn (F2.fm (Fm_pv (X := fun a _ => a == 62) rfl) rfl rfl) (fun τ3 F3 f3 => hQ τ3 F3 (((f1r.tr (Fm_pv (by simp [xRm]))).tr (f2.mono (fun a j q => ?_))).tr ((Fm_pv (by simp [xRm])).tr f3)))
    have := xF_Cd (xRm_Cd q)
    simp only [Bool.or_eq_false_iff, Bool.and_eq_false_iff, beq_eq_false_iff_ne] at this ⊢
    omega
theorem r133F {f k nr NR C : Nat} {τ : St} (hn : nr ≤ 30) (F : FlM P f k τ) (hQ : ∀ τ', FlM P f k τ' → Fm (xRm nr NR C) τ τ' → Q τ') : wX12_tellRule_133 Q (nI nr) τ := by
  refine isF F ⟨vp_in_nI (by omega) (by decide), ?_⟩
  rw [nI_clamp (by omega)]
  rintro σ4 rfl
  have F4 : FlM P f k (pv τ 60 nr (vp_nar .boolean 0)) := F.fm (Fm_pv (X := fun a _ => a == 60) rfl) rfl rfl
  exact isF F4 ⟨fun _ => isF F4 ⟨fun _ => failF F4 (r168F hn F4 (fun τ3 F3 f3 => hQ τ3 F3 ((Fm_pv (by simp [xRm])).tr f3))), fun c => absurd rfl c⟩, fun c => absurd rfl c⟩
/-- the cells of a rule that is being told -/
theorem CnM_pv {i C NR a0 nr : Nat} {x : Int32} {τ : St} (h : CnM σ M CB NB i C NR τ) (ha : 58 ≤ a0 ∧ a0 ≤ 64) : CnM σ M CB NB i C NR (pv τ a0 nr x) := by
  have f : Fm (fun a _ => a == a0) τ (pv τ a0 nr x) := Fm_pv (by simp)
  have n11 : ∀ j, ((fun a _ => a == a0) : Nat → Nat → Bool) 11 j = false := fun j => by simp; omega
  obtain ⟨A, eo, ec, hB, hCB, er, hNR, hNB⟩ := h
  exact ⟨A.fm f (fun a j h1 h2 => by simp; omega) (n11 11) (n11 13), (f.2 11 12 (n11 12)).trans eo, (f.2 11 38 (n11 38)).trans ec, hB, hCB, (f.2 11 32 (n11 32)).trans er, hNR, hNB⟩
theorem CnM.tm {i C NR : Nat} {τ τ' : St} (h : CnM σ M CB NB i C NR τ) (A : AtM σ M (i + 1) τ') (f : Fm xTm τ τ') : CnM σ M CB NB (i + 1) C NR τ' := by
  obtain ⟨_, eo, ec, hB, hCB, er, hNR, hNB⟩ := h
  exact ⟨A, (f.2 11 12 rfl).trans eo, (f.2 11 38 rfl).trans ec, by omega, hCB, (f.2 11 32 rfl).trans er, by omega, hNB⟩
theorem ruleM {i nr a C NR : Nat} {τ : St} {lt : Lt} {fr un : Int32} (hT : TkM σ K P V NM M) (hi1 : 1 ≤ i) (h : CnM σ M CB NB i C NR τ) (hk : K i = 23 ∨ K i = 24) (hn : nr ≤ 30) (eR : gv τ 11 24 = nI nr) (hL : LtM P i τ lt)
    (hok : ∀ k x τ' C' NR', ruP K V a fr un nr i lt = .ok k x → CnM σ M CB NB k C' NR' τ' → i < k → gv τ' 11 24 = nI (nr + 1) → nr < 30 → NR ≤ NR' → C ≤ C' → RuMt NR' C' nr x.1 τ' → LtM P k τ' x.2 → Fm (xRm nr NR C) τ τ' → Q τ') (hno : ∀ f k τ', ruP K V a fr un nr i lt = .no f k → FlM P f k τ' → Fm (xRm nr NR C) τ τ' → Q τ') : wX12_tellRule (nI a) τ Q := by
  have h6 := hT.1
  have A := h.1
  have vn : vp_in (nI nr) 31 := vp_in_nI (by omega) (by decide)
  have cn : (nI nr).toNatClampNeg = nr := nI_clamp (by omega)
  have r40 : wX12_tellRule_26 Q (nI a) τ := by
    rw [wX12_tellRule_26, eR]
    refine ⟨fun c => ?_, fun c => ?_⟩
    · have e30 : nr = 30 := (nI_eq (b := 30) (by omega) (by decide)).mp c
      exact failM (f := 2) hT A (Or.inr rfl) rfl (fun τ1 f1 _ F1 => ⟨fun c => absurd c F1.ne.2, fun _ => hno 2 i τ1 (by unfold ruP; rw [if_pos (by omega)]) F1 (f1.mono (fun _ _ q => xTm_Rm q))⟩)
    · have hn30 : nr < 30 := by
        have : nr ≠ 30 := fun e => c (by rw [e]; rfl)
        omega
      have hp0 : ruP K V a fr un nr i lt = (whP K V i lt).bd fun j w => (tlP K V a fr un w.1 j).bd fun l r => (ifP K V l).bd fun k ifs => (tkP K 4 k).bd fun z _ => .ok z ((r.1, r.2.1, r.2.2.1, r.2.2.2.1, r.2.2.2.2.1, r.2.2.2.2.2.1, r.2.2.2.2.2.2.1, ifs), w.2) := by
        unfold ruP
        rw [if_neg (by omega)]
      have told : ∀ (j : Nat) (w : Int32 × Lt) (τ1 : St), whP K V i lt = .ok j w → i < j → CnM σ M CB NB j C NR τ1 → gv τ1 59 nr = w.1 → gv τ1 58 nr = nI a → gv τ1 11 24 = nI nr → LtM P j τ1 w.2 → Fm (xRm nr NR C) τ τ1 → wX12_tellRule_133 Q (nI nr) τ1 := by
        intro j w τ1 hw hij C1 v59 v58 v24 L1 f1
        have hp1 : ruP K V a fr un nr i lt = (tlP K V a fr un w.1 j).bd fun l r => (ifP K V l).bd fun k ifs => (tkP K 4 k).bd fun z _ => .ok z ((r.1, r.2.1, r.2.2.1, r.2.2.2.1, r.2.2.2.2.1, r.2.2.2.2.2.1, r.2.2.2.2.2.2.1, ifs), w.2) := by rw [hp0, hw, bd_o]
        have A1 := C1.1
        have rest : ∀ (l : Nat) (r : Ru) (τ3 : St) (C3 NR3 : Nat), tlP K V a fr un w.1 j = .ok l r → r.2.1 = w.1 → r.2.2.1 = a → j < l → CnM σ M CB NB l C3 NR3 τ3 → NR ≤ NR3 → C ≤ C3 → gv τ3 59 nr = w.1 → gv τ3 58 nr = nI a → gv τ3 11 24 = nI nr → gv τ3 60 nr = b01 r.1 → (∃ s, gv τ3 61 nr = nI s ∧ (if r.1 then gv τ3 62 nr = nI (s + r.2.2.2.2.2.1.length) ∧ s + r.2.2.2.2.2.1.length ≤ C3 ∧ rpE (gr τ3 70) (gr τ3 71) s r.2.2.2.2.2.1 else gv τ3 62 nr = nI (s + r.2.2.2.2.2.2.1.length) ∧ s + r.2.2.2.2.2.2.1.length ≤ NR3 ∧ rpS τ3 C3 s r.2.2.2.2.2.2.1)) → LtM P l τ3 w.2 → Fm (xRm nr NR C) τ τ3 → wX12_tellRule_232 Q (nI nr) τ3 := by
          intro l r τ3 C3 NR3 hl hr1 hr2 hjl X3 hNR3 hC3 w59 w58 w24 w60 w61 L3 f3
          have hp2 : ruP K V a fr un nr i lt = (ifP K V l).bd fun k ifs => (tkP K 4 k).bd fun z _ => .ok z ((r.1, r.2.1, r.2.2.1, r.2.2.2.1, r.2.2.2.2.1, r.2.2.2.2.2.1, r.2.2.2.2.2.2.1, ifs), w.2) := by rw [hp1, hl, bd_o]
          refine ⟨vn, ?_⟩
          rw [cn, X3.2.2.2.2.2.1]
          rintro σ2 rfl
          have X4 : CnM σ M CB NB l C3 NR3 (pv τ3 63 nr (nI NR3)) := CnM_pv X3 (by decide)
          have fp : Fm (fun a j => a == 63 && j == nr) τ3 (pv τ3 63 nr (nI NR3)) := Fm_pv (by simp)
          have f4 : Fm (xRm nr NR C) τ (pv τ3 63 nr (nI NR3)) := f3.tr (Fm_pv (by simp [xRm]))
          have ends : ∀ (k : Nat) (ifs : List Rl) (τ5 : St) (C5 NR5 : Nat), ifP K V l = .ok k ifs → l ≤ k → CnM σ M CB NB k C5 NR5 τ5 → NR5 = NR3 + ifs.length → C3 ≤ C5 → rpS τ5 C5 NR3 ifs → Fm (xCd NR3 C3) (pv τ3 63 nr (nI NR3)) τ5 → wX12_tellRule_259 Q (nI nr) τ5 := by
            intro k ifs τ5 C5 NR5 hk' hlk X5 hNR5 hC5 s5 f5
            have f05 : Fm (xRm nr NR C) τ τ5 := f4.tr (f5.mono (fun _ _ q => xCd_le hNR3 hC3 (xRm_Cd q)))
            refine ⟨vn, ?_⟩
            rw [cn, X5.2.2.2.2.2.1]
            rintro σ2 rfl
            have X6 : CnM σ M CB NB k C5 NR5 (pv τ5 64 nr (nI NR5)) := CnM_pv X5 (by decide)
            have fq : Fm (fun a j => a == 64 && j == nr) τ5 (pv τ5 64 nr (nI NR5)) := Fm_pv (by simp)
            have f6 : Fm (xRm nr NR C) τ (pv τ5 64 nr (nI NR5)) := f05.tr (Fm_pv (by simp [xRm]))
            refine mustM (k := 4) hT X6.1 (by decide) (by decide) rfl (fun τ7 _ hi7 ht A7 f7 => ⟨fun _ => ?_, fun c => absurd A7.2.2.2 c⟩) (fun f τ7 ht F7 f7 => ⟨fun c => absurd c F7.ne.1, fun _ => hno f k τ7 (by rw [hp2, hk', bd_o, ht, bd_n]) F7 (f6.tr (f7.mono (fun _ _ q => xTm_Rm q)))⟩)
            have X7 := X6.tm A7 f7
            have w24' : gv τ7 11 24 = nI nr := by
              rw [f7.2 11 24 rfl, fq.2 11 24 (by simp), f5.2 11 24 (xCd_no (by omega) (by decide) (by omega) (by omega)), fp.2 11 24 (by simp)]
              exact w24
            rw [w24', nI_1]
            rintro σ6 rfl
            have fz : Fm (fun a j => a == 11 && j == 24) τ7 (pv τ7 11 24 (nI (nr + 1))) := Fm_pv (by simp)
            have same : ∀ a', 58 ≤ a' → a' ≤ 62 → gv (pv τ7 11 24 (nI (nr + 1))) a' nr = gv τ3 a' nr := fun a' h1 h2 => by
              rw [fz.2 a' nr (by simp; omega), f7.2 a' nr (xTm_no (by omega)), fq.2 a' nr (by simp; omega), f5.2 a' nr (xCd_no (by omega) (by omega) (by omega) (by omega)), fp.2 a' nr (by simp; omega)]
            have big : ∀ a' j', 65 ≤ a' → a' ≤ 71 → gv (pv τ7 11 24 (nI (nr + 1))) a' j' = gv τ5 a' j' := fun a' j' h1 h2 => by
              rw [fz.2 a' j' (by simp; omega), f7.2 a' j' (xTm_no (by omega)), fq.2 a' j' (by simp; omega)]
            have v63 : gv (pv τ7 11 24 (nI (nr + 1))) 63 nr = nI NR3 := by
              rw [fz.2 63 nr (by simp), f7.2 63 nr rfl, fq.2 63 nr (by simp), f5.2 63 nr (xCd_no (by omega) (by omega) (by omega) (by omega)), gv_pv, if_pos ⟨rfl, rfl⟩]
            have v64 : gv (pv τ7 11 24 (nI (nr + 1))) 64 nr = nI NR5 := by
              rw [fz.2 64 nr (by simp), f7.2 64 nr rfl, gv_pv, if_pos ⟨rfl, rfl⟩]
            have X8 : CnM σ M CB NB (k + 1) C5 NR5 (pv τ7 11 24 (nI (nr + 1))) := by
              obtain ⟨B1, B2, B3, B4, B5, B6, B7, B8⟩ := X7
              exact ⟨B1.fm fz (fun a j h1 h2 => by simp; omega) (by simp) (by simp), (fz.2 11 12 (by simp)).trans B2, (fz.2 11 38 (by simp)).trans B3, B4, B5, (fz.2 11 32 (by simp)).trans B6, B7, B8⟩
            have L8 : LtM P (k + 1) (pv τ7 11 24 (nI (nr + 1))) w.2 := by
              have q1 : LtM P l (pv τ3 63 nr (nI NR3)) w.2 := L3.fm fp (by simp) (by simp) (Nat.le_refl _)
              have q2 : LtM P l τ5 w.2 := q1.fm f5 (xCd_no (by omega) (by decide) (by omega) (by omega)) (xCd_no (by omega) (by decide) (by omega) (by omega)) (Nat.le_refl _)
              have q3 : LtM P l (pv τ5 64 nr (nI NR5)) w.2 := q2.fm fq (by simp) (by simp) (Nat.le_refl _)
              have q4 : LtM P l τ7 w.2 := q3.fm f7 rfl rfl (Nat.le_refl _)
              exact q4.fm fz (by simp) (by simp) (by omega)
            refine hok (k + 1) ((r.1, r.2.1, r.2.2.1, r.2.2.2.1, r.2.2.2.2.1, r.2.2.2.2.2.1, r.2.2.2.2.2.2.1, ifs), w.2) _ C5 NR5 (by rw [hp2, hk', bd_o, ht, bd_o]) X8 (by omega) (by rw [gv_pv, if_pos ⟨rfl, rfl⟩]) hn30 (by omega) (by omega) ⟨?_, ?_, ?_, ?_, NR3, v63, by rw [v64, hNR5], by show NR3 + ifs.length ≤ NR5; omega, ?_⟩ L8 ((f6.tr (f7.mono (fun _ _ q => xTm_Rm q))).tr (Fm_pv (by simp [xRm])))
            · show gv _ 59 nr = r.2.1
              rw [same 59 (by decide) (by decide), w59, hr1]
            · show gv _ 60 nr = b01 r.1
              rw [same 60 (by decide) (by decide), w60]
            · show gv _ 58 nr = nI r.2.2.1
              rw [same 58 (by decide) (by decide), w58, hr2]
            · obtain ⟨s, q1, q2⟩ := w61
              refine ⟨s, by rw [same 61 (by decide) (by decide)]; exact q1, ?_⟩
              by_cases c : r.1 = true
              · rw [if_pos c] at q2
                show (if r.1 then _ else _)
                rw [if_pos c]
                dsimp only
                refine ⟨by rw [same 62 (by decide) (by decide)]; exact q2.1, by have := q2.2.1; omega, fun j' x hj' => ?_⟩
                have hlt : j' < r.2.2.2.2.2.1.length := by
                  rw [List.getElem?_eq_some_iff] at hj'
                  exact hj'.1
                obtain ⟨z1, z2⟩ := q2.2.2 j' x hj'
                refine ⟨?_, ?_⟩
                · show gv _ 70 (s + j') = eA x
                  rw [big 70 _ (by decide) (by decide), f5.2 70 (s + j') (xCd_no (by omega) (by decide) (by omega) (by omega)), fp.2 70 _ (by simp)]
                  exact z1
                · show gv _ 71 (s + j') = eB x
                  rw [big 71 _ (by decide) (by decide), f5.2 71 (s + j') (xCd_no (by omega) (by decide) (by omega) (by omega)), fp.2 71 _ (by simp)]
                  exact z2
              · rw [if_neg c] at q2
                show (if r.1 then _ else _)
                rw [if_neg c]
                dsimp only
                refine ⟨by rw [same 62 (by decide) (by decide)]; exact q2.1, by have := q2.2.1; omega, ?_⟩
                refine rpR_kp hC5 (fun a' j' ha hj' => ?_) _ s q2.2.2 (fun a' j' h1 h2 h3 h4 => ?_)
                · rw [big a' j' (by omega) (by omega), f5.2 a' j' (xCd_no (by omega) (by omega) (by omega) (by omega)), fp.2 a' _ (by simp; omega)]
                · rw [big a' j' (by omega) (by omega), f5.2 a' j' (xCd_no (by omega) (by omega) (by omega) (by have := q2.2.1; omega)), fp.2 a' _ (by simp; omega)]
            · exact rpR_kp (Nat.le_refl _) (fun a' j' ha hj' => big a' j' (by omega) (by omega)) ifs NR3 s5 (fun a' j' h1 h2 h3 h4 => big a' j' (by omega) (by omega))
          refine isM (k := 21) hT X4.1 (by decide) rfl (fun hk' => ⟨z11, fun _ => ?_⟩) (fun hk' => ⟨fun _ => ?_, fun c => absurd rfl c⟩)
          · have hq : ifP K V l = (tkP K 21 l).bd fun k _ => cdP K V k := by unfold ifP; rw [if_pos hk']
            refine nextM hT X4.1 hk' (by decide) (fun τ5 hi5 ht A5 f5 => ?_) (fun f τ5 ht F5 f5 => conditionF F5 (r259F hn F5 (fun τ6 F6 f6 => hno f l τ6 (by rw [hp2, hq, ht, bd_n, bd_n]) F6 ((f4.tr (f5.mono (fun _ _ q => xTm_Rm q))).tr f6))))
            refine conditionM hT (by omega) (X4.tm A5 f5) (fun k cs τ6 C6 hc X6 hC6 s6 f6 => ?_) (fun g k τ6 hc F6 f6 => r259F hn F6 (fun τ7 F7 f7 => hno g k τ7 (by rw [hp2, hq, ht, bd_o, hc, bd_n]) F7 (((f4.tr (f5.mono (fun _ _ q => xTm_Rm q))).tr (f6.mono (fun _ _ q => xCd_le hNR3 hC3 (xRm_Cd q)))).tr f7)))
            obtain ⟨c1, c2, c3, _⟩ := cd_ok hT.2.2.2.1 hc
            exact ends k cs τ6 C6 _ (by rw [hq, ht, bd_o, hc]) (by omega) X6 rfl hC6 s6 ((f5.mono (fun _ _ q => xTm_Cd q)).tr f6)
          · exact ends l [] _ C3 NR3 (by unfold ifP; rw [if_neg hk']) (Nat.le_refl _) X4 rfl (Nat.le_refl _) trivial Fm.rf
        have go : ∀ o : Bool, (o = true ↔ K j = 22) → (K j ≠ 22 → K j = 20) → ∀ τ2, CnM σ M CB NB j C NR τ2 → gv τ2 59 nr = w.1 → gv τ2 58 nr = nI a → gv τ2 11 24 = nI nr → gv τ2 60 nr = b01 o → LtM P j τ2 w.2 → Fm (xRm nr NR C) τ τ2 → wX12_tellRule_168 Q (nI nr) τ2 := by
          intro o ho hm τ2 X2 u59 u58 u24 u60 L2 f2
          cases o with
          | true =>
            have hk' : K j = 22 := ho.mp rfl
            have hq : tlP K V a fr un w.1 j = (tkP K 22 j).bd fun k _ => (smN K V 10 0 k).bd fun l E => .ok l (true, w.1, a, fr, un, E, [], []) := by unfold tlP; rw [if_pos hk']
            have bad : ∀ (f : Nat) (τ3 : St), tkP K 22 j = .no f j → FlM P f j τ3 → Fm (xRm nr NR C) τ τ3 → vp_in (nI nr) 31 ∧ (((gv τ3 60 (nI nr).toNatClampNeg) = 0 → vp_in (nI nr) 31 ∧ ∀ σ6 : St, σ6 = pv τ3 61 (nI nr).toNatClampNeg (gv τ3 11 32) → wX12_condition σ6 (fun (σ8 : St) => vp_in (nI nr) 31 ∧ ∀ σ10 : St, σ10 = pv σ8 62 (nI nr).toNatClampNeg (gv σ8 11 32) → wX12_tellRule_232 Q (nI nr) σ10)) ∧ (¬ ((gv τ3 60 (nI nr).toNatClampNeg) = 0) → vp_in (nI nr) 31 ∧ ∀ σ12 : St, σ12 = pv τ3 61 (nI nr).toNatClampNeg (gv τ3 11 38) → wX12_expression σ12 (fun (σ14 : St) => vp_in (nI nr) 31 ∧ ∀ σ16 : St, σ16 = pv σ14 62 (nI nr).toNatClampNeg (gv σ14 11 38) → wX12_tellRule_232 Q (nI nr) σ16))) := by
              intro f τ3 ht F3 f3
              rw [cn]
              have fin : ∀ τ4, FlM P f j τ4 → Fm (xRm nr NR C) τ τ4 → Q τ4 := fun τ4 F4 f4 => hno f j τ4 (by rw [hp1, hq, ht, bd_n, bd_n]) F4 f4
              refine ⟨vn, fun _ => ⟨vn, ?_⟩, fun _ => ⟨vn, ?_⟩⟩
              · rintro σ6 rfl
                have F6 : FlM P f j (pv τ3 61 nr (gv τ3 11 32)) := F3.fm (Fm_pv (X := fun a _ => a == 61) rfl) rfl rfl
                refine conditionF F6 ⟨vn, ?_⟩
                rintro σ10 rfl
                exact r232F hn (F6.fm (Fm_pv (X := fun a _ => a == 62) rfl) rfl rfl) (fun τ4 F4 f4 => fin τ4 F4 (f3.tr (((Fm_pv (by simp [xRm])).tr (Fm_pv (by simp [xRm]))).tr f4)))
              · rintro σ12 rfl
                have F6 : FlM P f j (pv τ3 61 nr (gv τ3 11 38)) := F3.fm (Fm_pv (X := fun a _ => a == 61) rfl) rfl rfl
                refine expressionF F6 (fun τ5 f5 F5 => ⟨vn, ?_⟩)
                rintro σ16 rfl
                refine r232F hn (F5.fm (Fm_pv (X := fun a _ => a == 62) rfl) rfl rfl) (fun τ4 F4 f4 => fin τ4 F4 (((f3.tr (Fm_pv (by simp [xRm]))).tr (f5.mono (fun a j q => ?_))).tr ((Fm_pv (by simp [xRm])).tr f4)))
                have := xF_Cd (xRm_Cd q)
                simp only [Bool.or_eq_false_iff, Bool.and_eq_false_iff, beq_eq_false_iff_ne] at this ⊢
                omega
            refine nextM hT X2.1 hk' (by decide) (fun τ3 hi3 ht A3 f3 => ?_) (fun f τ3 ht F3 f3 => bad f τ3 ht F3 (f2.tr (f3.mono (fun _ _ q => xTm_Rm q))))
            rw [cn]
            have t60 : gv τ3 60 nr = 1 := (f3.2 60 nr rfl).trans u60
            refine ⟨vn, fun c => absurd (t60.symm.trans c) z10, fun _ => ⟨vn, ?_⟩⟩
            have X3 := X2.tm A3 f3
            rw [X3.2.2.1]
            rintro σ12 rfl
            have X4 : CnM σ M CB NB (j + 1) C NR (pv τ3 61 nr (nI C)) := CnM_pv X3 (by decide)
            have fp : Fm (fun a j => a == 61 && j == nr) τ3 (pv τ3 61 nr (nI C)) := Fm_pv (by simp)
            have f4 : Fm (xRm nr NR C) τ (pv τ3 61 nr (nI C)) := (f2.tr (f3.mono (fun _ _ q => xTm_Rm q))).tr (Fm_pv (by simp [xRm]))
            obtain ⟨B1, B2, B3, B4, B5, B6, B7, B8⟩ := X4
            refine expressionM (CB := CB) hT (by omega) B1 B2 B3 B4 B5 (fun l E τ5 hs A5 o5 c5 r5 f5 => ⟨vn, ?_⟩) (fun f k τ5 hs F5 f5 => ⟨vn, ?_⟩)
            · rw [c5]
              rintro σ16 rfl
              obtain ⟨m1, m2, m3, _⟩ := sm_ok hT.2.2.2.1 hs
              have fq : Fm (fun a j => a == 62 && j == nr) τ5 (pv τ5 62 nr (nI (C + E.length))) := Fm_pv (by simp)
              have X6 : CnM σ M CB NB l (C + E.length) NR (pv τ5 62 nr (nI (C + E.length))) := CnM_pv ⟨A5, o5, c5, by omega, B5, (f5.2 11 32 rfl).trans B6, by omega, B8⟩ (by decide)
              have keep : ∀ a', 58 ≤ a' → a' ≤ 60 → gv (pv τ5 62 nr (nI (C + E.length))) a' nr = gv τ2 a' nr := fun a' h1 h2 => by
                rw [fq.2 a' nr (by simp; omega), f5.2 a' nr (xEx_no (by omega) (by omega) (by omega)), fp.2 a' nr (by simp; omega), f3.2 a' nr (xTm_no (by omega))]
              refine rest l (true, w.1, a, fr, un, E, [], []) _ (C + E.length) NR (by rw [hq, ht, bd_o, hs, bd_o]) rfl rfl (by omega) X6 (Nat.le_refl _) (by omega) (by rw [keep 59 (by decide) (by decide)]; exact u59) (by rw [keep 58 (by decide) (by decide)]; exact u58) ?_ (by rw [keep 60 (by decide) (by decide)]; exact u60) ⟨C, ?_, ?_⟩ ?_ ((f4.tr (f5.mono (fun _ _ q => xCd_Ex (xRm_Cd q)))).tr (Fm_pv (by simp [xRm])))
              · rw [fq.2 11 24 (by simp), f5.2 11 24 rfl, fp.2 11 24 (by simp), f3.2 11 24 rfl]
                exact u24
              · rw [fq.2 61 nr (by simp), f5.2 61 nr (xEx_no (by omega) (by omega) (by omega)), gv_pv, if_pos ⟨rfl, rfl⟩]
              · show (if true = true then _ else _)
                rw [if_pos rfl]
                exact ⟨by rw [gv_pv, if_pos ⟨rfl, rfl⟩], Nat.le_refl _, rp_fm r5 fq (fun a j ha _ => by simp; omega)⟩
              · have q1 : LtM P j (pv τ3 61 nr (nI C)) w.2 := (L2.fm f3 rfl rfl (Nat.le_refl _)).fm fp (by simp) (by simp) (Nat.le_refl _)
                have q2 : LtM P j τ5 w.2 := q1.fm f5 rfl rfl (Nat.le_refl _)
                exact q2.fm fq (by simp) (by simp) (by omega)
            · rintro σ16 rfl
              exact r232F hn (F5.fm (Fm_pv (X := fun a _ => a == 62) rfl) rfl rfl) (fun τ6 F6 f6 => hno f k τ6 (by rw [hp1, hq, ht, bd_o, hs, bd_n, bd_n]) F6 (((f4.tr (f5.mono (fun _ _ q => xCd_Ex (xRm_Cd q)))).tr (Fm_pv (by simp [xRm]))).tr f6))
          | false =>
            have hk' : ¬ K j = 22 := fun e => by cases ho.mpr e
            have hk2 := hm hk'
            have hq : tlP K V a fr un w.1 j = (tkP K 20 j).bd fun k _ => (cdP K V k).bd fun l cs => .ok l (false, w.1, a, fr, un, [], cs, []) := by unfold tlP; rw [if_neg hk']
            refine nextM hT X2.1 hk2 (by decide) (fun τ3 hi3 ht A3 f3 => ?_) (fun f τ3 ht F3 f3 => ?_)
            · rw [cn]
              have t60 : gv τ3 60 nr = 0 := (f3.2 60 nr rfl).trans u60
              refine ⟨vn, fun _ => ⟨vn, ?_⟩, fun c => absurd t60 c⟩
              have X3 := X2.tm A3 f3
              rw [X3.2.2.2.2.2.1]
              rintro σ12 rfl
              have X4 : CnM σ M CB NB (j + 1) C NR (pv τ3 61 nr (nI NR)) := CnM_pv X3 (by decide)
              have fp : Fm (fun a j => a == 61 && j == nr) τ3 (pv τ3 61 nr (nI NR)) := Fm_pv (by simp)
              have f4 : Fm (xRm nr NR C) τ (pv τ3 61 nr (nI NR)) := (f2.tr (f3.mono (fun _ _ q => xTm_Rm q))).tr (Fm_pv (by simp [xRm]))
              refine conditionM hT (by omega) X4 (fun l cs τ5 C5 hc X5 hC5 s5 f5 => ⟨vn, ?_⟩) (fun g k τ5 hc F5 f5 => ⟨vn, ?_⟩)
              · rw [X5.2.2.2.2.2.1]
                rintro σ16 rfl
                obtain ⟨m1, m2, m3, _⟩ := cd_ok hT.2.2.2.1 hc
                have fq : Fm (fun a j => a == 62 && j == nr) τ5 (pv τ5 62 nr (nI (NR + cs.length))) := Fm_pv (by simp)
                have X6 : CnM σ M CB NB l C5 (NR + cs.length) (pv τ5 62 nr (nI (NR + cs.length))) := CnM_pv X5 (by decide)
                have keep : ∀ a', 58 ≤ a' → a' ≤ 60 → gv (pv τ5 62 nr (nI (NR + cs.length))) a' nr = gv τ2 a' nr := fun a' h1 h2 => by
                  rw [fq.2 a' nr (by simp; omega), f5.2 a' nr (xCd_no (by omega) (by omega) (by omega) (by omega)), fp.2 a' nr (by simp; omega), f3.2 a' nr (xTm_no (by omega))]
                refine rest l (false, w.1, a, fr, un, [], cs, []) _ C5 (NR + cs.length) (by rw [hq, ht, bd_o, hc, bd_o]) rfl rfl (by omega) X6 (by omega) hC5 (by rw [keep 59 (by decide) (by decide)]; exact u59) (by rw [keep 58 (by decide) (by decide)]; exact u58) ?_ (by rw [keep 60 (by decide) (by decide)]; exact u60) ⟨NR, ?_, ?_⟩ ?_ ((f4.tr (f5.mono (fun _ _ q => xRm_Cd q))).tr (Fm_pv (by simp [xRm])))
                · rw [fq.2 11 24 (by simp), f5.2 11 24 (xCd_no (by omega) (by decide) (by omega) (by omega)), fp.2 11 24 (by simp), f3.2 11 24 rfl]
                  exact u24
                · rw [fq.2 61 nr (by simp), f5.2 61 nr (xCd_no (by omega) (by omega) (by omega) (by omega)), gv_pv, if_pos ⟨rfl, rfl⟩]
                · show (if false = true then _ else _)
                  rw [if_neg (by decide)]
                  exact ⟨by rw [gv_pv, if_pos ⟨rfl, rfl⟩], Nat.le_refl _, rpR_kp (Nat.le_refl _) (fun a' j' ha _ => fq.2 a' j' (by simp; omega)) cs NR s5 (fun a' j' h1 h2 _ _ => fq.2 a' j' (by simp; omega))⟩
                · have q1 : LtM P j (pv τ3 61 nr (nI NR)) w.2 := (L2.fm f3 rfl rfl (Nat.le_refl _)).fm fp (by simp) (by simp) (Nat.le_refl _)
                  have q2 : LtM P j τ5 w.2 := q1.fm f5 (xCd_no (by omega) (by decide) (by omega) (by omega)) (xCd_no (by omega) (by decide) (by omega) (by omega)) (Nat.le_refl _)
                  exact q2.fm fq (by simp) (by simp) (by omega)
              · rintro σ16 rfl
                exact r232F hn (F5.fm (Fm_pv (X := fun a _ => a == 62) rfl) rfl rfl) (fun τ6 F6 f6 => hno g k τ6 (by rw [hp1, hq, ht, bd_o, hc, bd_n, bd_n]) F6 (((f4.tr (f5.mono (fun _ _ q => xRm_Cd q))).tr (Fm_pv (by simp [xRm]))).tr f6))
            · rw [cn]
              have fin : ∀ τ4, FlM P f j τ4 → Fm (xRm nr NR C) τ3 τ4 → Q τ4 := fun τ4 F4 f4 => hno f j τ4 (by rw [hp1, hq, ht, bd_n, bd_n]) F4 ((f2.tr (f3.mono (fun _ _ q => xTm_Rm q))).tr f4)
              have t60 : gv τ3 60 nr = 0 := (f3.2 60 nr rfl).trans u60
              refine ⟨vn, fun _ => ⟨vn, ?_⟩, fun c => absurd t60 c⟩
              rintro σ6 rfl
              have F6 : FlM P f j (pv τ3 61 nr (gv τ3 11 32)) := F3.fm (Fm_pv (X := fun a _ => a == 61) rfl) rfl rfl
              refine conditionF F6 ⟨vn, ?_⟩
              rintro σ10 rfl
              exact r232F hn (F6.fm (Fm_pv (X := fun a _ => a == 62) rfl) rfl rfl) (fun τ4 F4 f4 => fin τ4 F4 (((Fm_pv (by simp [xRm])).tr (Fm_pv (by simp [xRm]))).tr f4))
        have pre : ∀ o : Bool, CnM σ M CB NB j C NR (pv τ1 60 nr (b01 o)) ∧ gv (pv τ1 60 nr (b01 o)) 59 nr = w.1 ∧ gv (pv τ1 60 nr (b01 o)) 58 nr = nI a ∧ gv (pv τ1 60 nr (b01 o)) 11 24 = nI nr ∧ gv (pv τ1 60 nr (b01 o)) 60 nr = b01 o ∧ LtM P j (pv τ1 60 nr (b01 o)) w.2 ∧ Fm (xRm nr NR C) τ (pv τ1 60 nr (b01 o)) := fun o =>
          ⟨CnM_pv C1 (by decide), by rw [gv_pv, if_neg (by omega)]; exact v59, by rw [gv_pv, if_neg (by omega)]; exact v58, by rw [gv_pv, if_neg (by omega)]; exact v24, by rw [gv_pv, if_pos ⟨rfl, rfl⟩], L1.fm (Fm_pv (X := fun a _ => a == 60) rfl) rfl rfl (Nat.le_refl _), f1.tr (Fm_pv (by simp [xRm]))⟩
        refine isM (k := 22) hT A1 (by decide) rfl (fun hk' => ⟨vn, ?_⟩) (fun hk' => ⟨vn, ?_⟩)
        · rw [cn]
          rintro σ4 rfl
          have en : vp_nar .boolean 1 = b01 true := rfl
          rw [en]
          obtain ⟨a1, a2, a3, a4, a5, a6, a7⟩ := pre true
          exact isM (k := 22) hT a1.1 (by decide) rfl (fun _ => ⟨z11, fun _ => go true ⟨fun _ => hk', fun _ => rfl⟩ (fun e => absurd hk' e) _ a1 a2 a3 a4 a5 a6 a7⟩) (fun e => absurd hk' e)
        · rw [cn]
          rintro σ4 rfl
          have en : vp_nar .boolean 0 = b01 false := rfl
          rw [en]
          obtain ⟨a1, a2, a3, a4, a5, a6, a7⟩ := pre false
          refine isM (k := 22) hT a1.1 (by decide) rfl (fun e => absurd e hk') (fun _ => ⟨fun _ => isM (k := 20) hT a1.1 (by decide) rfl (fun h20 => ⟨z11, fun _ => go false ⟨fun q => (by cases q), fun e => absurd e hk'⟩ (fun _ => h20) _ a1 a2 a3 a4 a5 a6 a7⟩) (fun h20 => ⟨fun _ => failM (f := 1) hT a1.1 (Or.inl rfl) rfl (fun τ2 f2 _ F2 => r168F hn F2 (fun τ3 F3 f3 => hno 1 j τ3 ?_ F3 ((a7.tr (f2.mono (fun _ _ q => xTm_Rm q))).tr f3))), fun c => absurd rfl c⟩), fun c => absurd rfl c⟩)
          rw [hp1]
          unfold tlP
          rw [if_neg hk']
          unfold tkP
          rw [if_neg h20, bd_n, bd_n]
      refine ⟨fun _ => ?_, fun c => absurd (by rw [A.2.2.2]; decide) c⟩
      rw [eR]
      rintro x2 rfl
      rw [cn]
      have two : ∀ τ1, Fm (fun a j => (a == 58 || a == 59) && j == nr) τ1 (pv (pv τ1 58 nr (nI a)) 59 nr (-1)) ∧ gv (pv (pv τ1 58 nr (nI a)) 59 nr (-1)) 58 nr = nI a ∧ gv (pv (pv τ1 58 nr (nI a)) 59 nr (-1)) 59 nr = -1 ∧ Fm (xRm nr NR C) τ1 (pv (pv τ1 58 nr (nI a)) 59 nr (-1)) := fun τ1 =>
        ⟨(Fm_pv (by simp)).tr (Fm_pv (by simp)), by rw [gv_pv, if_neg (by omega), gv_pv, if_pos ⟨rfl, rfl⟩], by rw [gv_pv, if_pos ⟨rfl, rfl⟩], (Fm_pv (by simp [xRm])).tr (Fm_pv (by simp [xRm]))⟩
      refine isM (k := 24) hT A (by decide) rfl (fun hk' => ?_) (fun hk' => ?_)
      · have hp : whP K V i lt = (tkP K 24 i).bd fun j _ => .ok j (-1, lt) := by unfold whP; rw [if_pos hk']
        refine nextM hT A hk' (by decide) (fun τ1 hi ht A1 f1 => ⟨vn, ?_⟩) (fun f τ1 ht F1 f1 => ⟨vn, ?_⟩)
        · rintro σ8 rfl
          refine ⟨vn, ?_⟩
          rintro σ10 rfl
          obtain ⟨g1, g2, g3, g4⟩ := two τ1
          refine ⟨z11, fun _ => told (i + 1) (-1, lt) _ (by rw [hp, ht, bd_o]) (by omega) (CnM_pv (CnM_pv (h.tm A1 f1) (by decide)) (by decide)) g3 g2 ?_ ?_ ((f1.mono (fun _ _ q => xTm_Rm q)).tr g4)⟩
          · rw [g1.2 11 24 (by simp), f1.2 11 24 rfl]
            exact eR
          · exact (hL.fm f1 rfl rfl (Nat.le_refl _)).fm g1 (by simp) (by simp) (by omega)
        · rintro σ8 rfl
          refine ⟨vn, ?_⟩
          rintro σ10 rfl
          obtain ⟨g1, g2, g3, g4⟩ := two τ1
          exact ⟨z11, fun _ => r133F hn (F1.fm g1 (by simp) (by simp)) (fun τ3 F3 f3 => hno f i τ3 (by rw [hp0, hp, ht, bd_n, bd_n]) F3 (((f1.mono (fun _ _ q => xTm_Rm q)).tr g4).tr f3))⟩
      · have hk23 : K i = 23 := by
          rcases hk with q | q
          · exact q
          · exact absurd q hk'
        have hp : whP K V i lt = (tkP K 23 i).bd fun j _ => (tkP K 2 j).bd fun k _ => .ok k (V j, if V j < 7 then lt else ntP lt 5 j) := by unfold whP; rw [if_neg hk']
        refine nextM hT A hk23 (by decide) (fun τ1 hi ht A1 f1 => ⟨vn, ?_⟩) (fun f τ1 ht F1 f1 => ⟨vn, ?_⟩)
        · rintro σ8 rfl
          refine ⟨vn, ?_⟩
          rintro σ10 rfl
          obtain ⟨g1, g2, g3, g4⟩ := two τ1
          have X1 : CnM σ M CB NB (i + 1) C NR (pv (pv τ1 58 nr (nI a)) 59 nr (-1)) := CnM_pv (CnM_pv (h.tm A1 f1) (by decide)) (by decide)
          have f1r : Fm (xRm nr NR C) τ (pv (pv τ1 58 nr (nI a)) 59 nr (-1)) := (f1.mono (fun _ _ q => xTm_Rm q)).tr g4
          refine ⟨fun _ => ?_, fun c => absurd rfl c⟩
          rw [X1.1.2.1]
          rintro x4 rfl
          refine mustM (k := 2) hT X1.1 (by decide) (by decide) rfl (fun τ2 hk2 hi2 ht2 A2 f2 => ⟨fun _ => ?_, fun c => absurd (by rw [A2.2.2.2]; decide) c⟩) (fun f τ2 ht2 F2 f2 => ⟨fun c => absurd c F2.ne.2, fun _ => hno f (i + 1) τ2 (by rw [hp0, hp, ht, bd_o, ht2, bd_n, bd_n]) F2 (f1r.tr (f2.mono (fun _ _ q => xTm_Rm q)))⟩)
          have hm1 : i + 1 ≤ M := A1.2.2.1
          have e52 : gv τ2 52 (i + 1) = V (i + 1) := (congrFun A2.1.2.2.1 (i + 1)).trans ((hT.2.2.1 (i + 1) hm1).2.2.1 hk2)
          have v603 : vp_in (nI (i + 1)) 603 := vp_in_nI (by omega) (by decide)
          rw [nI_clamp (show i + 1 < 2 ^ 31 by omega), e52]
          refine ⟨v603, vn, ?_⟩
          rintro σ18 rfl
          have X2 : CnM σ M CB NB (i + 1 + 1) C NR (pv τ2 59 nr (V (i + 1))) := CnM_pv (X1.tm A2 f2) (by decide)
          have fq : Fm (fun a j => a == 59 && j == nr) τ2 (pv τ2 59 nr (V (i + 1))) := Fm_pv (by simp)
          rw [show gv (pv τ2 59 nr (V (i + 1))) 52 (i + 1) = V (i + 1) by rw [gv_pv, if_neg (by omega)]; exact e52]
          have w59 : gv (pv τ2 59 nr (V (i + 1))) 59 nr = V (i + 1) := by rw [gv_pv, if_pos ⟨rfl, rfl⟩]
          have w58 : gv (pv τ2 59 nr (V (i + 1))) 58 nr = nI a := by
            rw [fq.2 58 nr (by simp), f2.2 58 nr rfl]
            exact g2
          have w24 : gv (pv τ2 59 nr (V (i + 1))) 11 24 = nI nr := by
            rw [fq.2 11 24 (by simp), f2.2 11 24 rfl, g1.2 11 24 (by simp), f1.2 11 24 rfl]
            exact eR
          have L2 : LtM P i (pv τ2 59 nr (V (i + 1))) lt := (((hL.fm f1 rfl rfl (Nat.le_refl _)).fm g1 (by simp) (by simp) (Nat.le_refl _)).fm f2 rfl rfl (Nat.le_refl _)).fm fq (by simp) (by simp) (Nat.le_refl _)
          have f2r : Fm (xRm nr NR C) τ (pv τ2 59 nr (V (i + 1))) := (f1r.tr (f2.mono (fun _ _ q => xTm_Rm q))).tr (Fm_pv (by simp [xRm]))
          have hw : whP K V i lt = .ok (i + 1 + 1) (V (i + 1), if V (i + 1) < 7 then lt else ntP lt 5 (i + 1)) := by rw [hp, ht, bd_o, ht2, bd_o]
          obtain ⟨v, hv, ev⟩ := hT.2.2.2.1.2 (i + 1) hk2
          refine ⟨v603, fun c6 => ?_, fun c6 => ?_⟩
          · have c7 : V (i + 1) < 7 := by
              rw [ev] at c6 ⊢
              exact (nI_ltI (b := 7) (by omega) (by decide)).mpr (by have := (nI_leI (b := 6) (by omega) (by decide)).mp c6; omega)
            rw [if_pos c7] at hw
            exact told _ _ _ hw (by omega) X2 w59 w58 w24 (L2.fm (X := fun _ _ => false) Fm.rf rfl rfl (by omega)) f2r
          · have c7 : ¬ V (i + 1) < 7 := by
              rw [ev] at c6 ⊢
              exact nI_nlt (b := 7) (by
                have : ¬ v ≤ 6 := fun q => c6 ((nI_leI (b := 6) (by omega) (by decide)).mpr q)
                omega) (by omega)
            rw [if_neg c7] at hw
            refine wrongM (k := 5) hT X2.1.1 X2.1.2.2.2 hm1 (by decide) (by decide) (by omega) L2 (fun τ3 f3 L3 => ?_)
            have n11 : ∀ j, j ≠ 15 → j ≠ 16 → xWr 11 j = false := fun j h1 h2 => by simp [xWr, h1, h2]
            have n12 : ∀ a j, a ≠ 11 → xWr a j = false := fun a j h1 => by simp [xWr, h1]
            have X3 : CnM σ M CB NB (i + 1 + 1) C NR τ3 := by
              obtain ⟨B1, B2, B3, B4, B5, B6, B7, B8⟩ := X2
              exact ⟨B1.fm f3 (fun a j h1 h2 => n12 a j (by omega)) (n11 11 (by decide) (by decide)) (n11 13 (by decide) (by decide)), (f3.2 11 12 rfl).trans B2, (f3.2 11 38 rfl).trans B3, B4, B5, (f3.2 11 32 rfl).trans B6, B7, B8⟩
            exact told _ _ τ3 hw (by omega) X3 ((f3.2 59 nr rfl).trans w59) ((f3.2 58 nr rfl).trans w58) ((f3.2 11 24 rfl).trans w24) L3 (f2r.tr (f3.mono (fun _ _ q => xWr_Rm q)))
        · rintro σ8 rfl
          refine ⟨vn, ?_⟩
          rintro σ10 rfl
          obtain ⟨g1, g2, g3, g4⟩ := two τ1
          have F2 := F1.fm g1 (by simp) (by simp)
          refine ⟨fun _ => ?_, fun c => absurd rfl c⟩
          rintro x4 rfl
          exact mustF F2 ⟨fun c => absurd c F2.ne.2, fun _ => hno f i _ (by rw [hp0, hp, ht, bd_n, bd_n]) F2 ((f1.mono (fun _ _ q => xTm_Rm q)).tr g4)⟩
  refine isM (k := 23) hT A (by decide) rfl (fun _ => ⟨z11, fun _ => r40⟩) (fun h23 => ⟨fun _ => isM (k := 24) hT A (by decide) rfl (fun _ => ⟨z11, fun _ => r40⟩) (fun h24 => ?_), fun c => absurd rfl c⟩)
  rcases hk with q | q
  · exact absurd q h23
  · exact absurd q h24
end RQ
