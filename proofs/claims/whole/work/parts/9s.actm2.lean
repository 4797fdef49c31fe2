/-! read: the reference's headings, and a whole text. -/
section AS
variable {σ : St} {K P : Nat → Nat} {V : Nat → Int32} {NM : Nat → List Nat} {M CB NB : Nat} {Q : St → Prop}
theorem a23F {f k : Nat} {τ : St} (F : FlM P f k τ) (hQ : Q τ) : wX12_tellAct_23 Q τ := by
  refine mustF F ?_
  rintro x1 rfl
  refine mustF F (mustF F ?_)
  rintro x2 rfl
  exact mustF F ⟨fun c => absurd c F.ne.2, fun _ => hQ⟩
theorem CnM.wr {i C NR : Nat} {τ τ' : St} (h : CnM σ M CB NB i C NR τ) (f : Fm xWr τ τ') : CnM σ M CB NB i C NR τ' := by
  have n12 : ∀ a j, a ≠ 11 → xWr a j = false := fun a j h1 => by simp [xWr, h1]
  obtain ⟨B1, B2, B3, B4, B5, B6, B7, B8⟩ := h
  exact ⟨B1.fm f (fun a j h1 h2 => n12 a j (by omega)) rfl rfl, (f.2 11 12 rfl).trans B2, (f.2 11 38 rfl).trans B3, B4, B5, (f.2 11 32 rfl).trans B6, B7, B8⟩
/-- behind a heading's days: its sign, the rules, the end -/
theorem a207 {i0 m nr C NR A : Nat} {τ0 τ : St} {lt : Lt} {ac : List Nat × Int32 × Int32} (hT : TkM σ K P V NM M) (hm1 : 1 ≤ m) (h : CnM σ M CB NB m C NR τ) (hA : A < 10) (eA : gv τ 11 19 = nI A) (hn : nr ≤ 30) (eR : gv τ 11 24 = nI nr) (X : AcMt A ac τ) (hL : LtM P m τ lt) (f0 : Fy A nr NR C τ0 τ)
    (hok : ∀ l rs lt' τ' C' NR', ((tkP K 4 m).bd fun j _ => (rsP K V A ac.2.1 ac.2.2 31 nr j lt).bd fun k x => (tkP K 19 k).bd fun l _ => .ok l x) = .ok l (rs, lt') → CnM σ M CB NB l C' NR' τ' → m < l → gv τ' 11 19 = nI (A + 1) → gv τ' 11 24 = nI (nr + rs.length) → nr + rs.length ≤ 30 → NR ≤ NR' → C ≤ C' → AcMt A ac τ' → (∀ q r, rs[q]? = some r → RuMt NR' C' (nr + q) r τ') → LtM P l τ' lt' → Fy A nr NR C τ0 τ' → Q τ')
    (hno : ∀ g k τ', ((tkP K 4 m).bd fun j _ => (rsP K V A ac.2.1 ac.2.2 31 nr j lt).bd fun k x => (tkP K 19 k).bd fun l _ => (.ok l x : Rs (List Ru × Lt))) = .no g k → FlM P g k τ' → Fy A nr NR C τ0 τ' → Q τ') : wX12_tellAct_207 Q (nI A) τ := by
  refine mustM (k := 4) hT h.1 (by decide) (by decide) rfl (fun τ1 _ hi ht A1 f1 => ⟨fun _ => ?_, fun c => absurd (by rw [A1.2.2.2]; decide) c⟩) (fun g τ1 ht F1 f1 => ⟨fun c => absurd c F1.ne.2, fun _ => hno g m τ1 (by rw [ht, bd_n]) F1 (f0.tr (Fy.tm f1) (Nat.le_refl _) (Nat.le_refl _) (Nat.le_refl _) (Nat.le_refl _))⟩)
  rw [show gv τ1 11 19 = nI A from (f1.2 11 19 rfl).trans eA, nI_1]
  rintro σ4 rfl
  have fp : Fm (fun a j => a == 11 && j == 19) τ1 (pv τ1 11 19 (nI (A + 1))) := Fm_pv rfl
  have C4 : CnM σ M CB NB (m + 1) C NR (pv τ1 11 19 (nI (A + 1))) := by
    obtain ⟨B1, B2, B3, B4, B5, B6, B7, B8⟩ := h.tm A1 f1
    exact ⟨B1.fm fp (fun a j h1 h2 => by simp; omega) rfl rfl, (fp.2 11 12 rfl).trans B2, (fp.2 11 38 rfl).trans B3, B4, B5, (fp.2 11 32 rfl).trans B6, B7, B8⟩
  have fy1 : Fy A nr NR C τ0 (pv τ1 11 19 (nI (A + 1))) := by
    refine (f0.tr (Fy.tm f1) (Nat.le_refl _) (Nat.le_refl _) (Nat.le_refl _) (Nat.le_refl _)).tr (A' := A) (R' := nr) (NR' := NR) (C' := C) ⟨fun a j q => fp.2 a j ?_, fun a j _ => congrFun fp.gw j, fp.gn⟩ (Nat.le_refl _) (Nat.le_refl _) (Nat.le_refl _) (Nat.le_refl _)
    unfold xTy at q
    simp only [Bool.or_eq_false_iff] at q
    exact q.2
  have X4 : AcMt A ac (pv τ1 11 19 (nI (A + 1))) := ⟨X.1, (congrFun fp.gw A).trans ((congrFun f1.gw A).trans X.2.1), (fp.2 56 A rfl).trans ((f1.2 56 A rfl).trans X.2.2.1), (fp.2 57 A rfl).trans ((f1.2 57 A rfl).trans X.2.2.2)⟩
  refine ⟨33, rulesM (fr := ac.2.1) (un := ac.2.2) hT 31 nr (m + 1) C NR lt _ (by omega) (by omega) C4 hn ((fp.2 11 24 rfl).trans ((f1.2 11 24 rfl).trans eR)) ((hL.fm f1 rfl rfl (Nat.le_refl _)).fm fp rfl rfl (by omega)) (fun l rs lt' τ2 C2 NR2 hs X2 hl e2 hn2 hN2 hC2 R2 L2 f2 => ?_) (fun g k τ2 hs F2 f2 => hno g k τ2 (by rw [ht, bd_o]; exact hs) F2 (fy1.tr (Fy.of f2) (Nat.le_refl _) (Nat.le_refl _) (Nat.le_refl _) (Nat.le_refl _)))⟩
  refine hok l rs lt' τ2 C2 NR2 (by rw [ht, bd_o]; exact hs) X2 (by omega) ?_ e2 hn2 hN2 hC2 ⟨X4.1, (congrFun f2.gw A).trans X4.2.1, (f2.2 56 A (xRm_no (by decide) (by decide) (by omega) (by omega) (by omega))).trans X4.2.2.1, (f2.2 57 A (xRm_no (by decide) (by decide) (by omega) (by omega) (by omega))).trans X4.2.2.2⟩ R2 L2 (fy1.tr (Fy.of f2) (Nat.le_refl _) (Nat.le_refl _) (Nat.le_refl _) (Nat.le_refl _))
  rw [f2.2 11 19 (by unfold xRm; rw [xCd_no (by omega) (by decide) (by omega) (by omega)]; rfl), gv_pv, if_pos ⟨rfl, rfl⟩]
theorem bd_as {α β γ : Type} {x : Rs α} {f : Nat → α → Rs β} {g : Nat → β → Rs γ} : (x.bd f).bd g = x.bd (fun i a => (f i a).bd g) := by
  rcases x with ⟨p, q⟩ | ⟨p, q⟩ <;> rfl
theorem actM {i nr C NR : Nat} {nms : List (List Nat)} {lt : Lt} {τ : St} (hT : TkM σ K P V NM M) (h : CnM σ M CB NB i C NR τ) (hA : nms.length ≤ 10) (hN : NmM nms τ) (eA : gv τ 11 19 = nI nms.length) (hn : nr ≤ 30) (eR : gv τ 11 24 = nI nr) (hL : LtM P i τ lt) (hk : K i = 16)
    (hok : ∀ l ac rs lt' τ' C' NR', acP K V NM nms nr i lt = .ok l (ac, rs, lt') → nms.length < 10 → CnM σ M CB NB l C' NR' τ' → i < l → gv τ' 11 19 = nI (nms.length + 1) → gv τ' 11 24 = nI (nr + rs.length) → nr + rs.length ≤ 30 → NR ≤ NR' → C ≤ C' → AcMt nms.length ac τ' → (∀ q r, rs[q]? = some r → RuMt NR' C' (nr + q) r τ') → LtM P l τ' lt' → Fy nms.length nr NR C τ τ' → Q τ')
    (hno : ∀ g k τ', acP K V NM nms nr i lt = .no g k → FlM P g k τ' → Fy nms.length nr NR C τ τ' → Q τ') : wX12_tellAct τ Q := by
  have h6 := hT.1
  have A0 := h.1
  have tr : ∀ {τ1 τ2 τ3 : St}, Fy nms.length nr NR C τ1 τ2 → Fy nms.length nr NR C τ2 τ3 → Fy nms.length nr NR C τ1 τ3 := fun f g => f.tr g (Nat.le_refl _) (Nat.le_refl _) (Nat.le_refl _) (Nat.le_refl _)
  refine isM (k := 16) hT A0 (by decide) rfl (fun _ => ⟨z11, fun _ => ?_⟩) (fun e => absurd hk e)
  rw [eA]
  refine ⟨fun c => ?_, fun c => ?_⟩
  · have e10 : nms.length = 10 := (nI_eq (b := 10) (by omega) (by decide)).mp c
    exact failM (f := 2) hT A0 (Or.inr rfl) rfl (fun τ1 f1 _ F1 => a23F F1 (hno 2 i τ1 (by unfold acP hdP; rw [if_pos (by omega), bd_n]) F1 (Fy.tm f1)))
  · have hA1 : nms.length < 10 := by
      have : nms.length ≠ 10 := fun e => c (by rw [e]; rfl)
      omega
    have vA : vp_in (nI nms.length) 11 := vp_in_nI (by omega) (by decide)
    have cA : (nI nms.length).toNatClampNeg = nms.length := nI_clamp (by omega)
    have hp : hdP K V NM nms i lt = (tkP K 16 i).bd fun j _ => (tkP K 3 j).bd fun k _ => (tkP K 17 k).bd fun l _ => fuP K V (NM j) l (if NM j ∈ nms then ntP lt 3 j else lt) := by
      unfold hdP
      rw [if_neg (by omega)]
    refine mustM (k := 16) hT A0 (by decide) (by decide) rfl (fun τ1 _ hi1 ht1 A1 f1 => ?_) (fun g τ1 ht1 F1 f1 => ?_)
    rotate_left
    · rintro x1 rfl
      refine mustF F1 (mustF F1 ?_)
      rintro x2 rfl
      exact mustF F1 ⟨fun c => absurd c F1.ne.2, fun _ => hno g i τ1 (by unfold acP; rw [hp, ht1, bd_n, bd_n]) F1 (Fy.tm f1)⟩
    rw [A1.2.1]
    rintro x1 rfl
    refine mustM (k := 3) hT A1 (by decide) (by decide) rfl (fun τ2 hk2 hi2 ht2 A2 f2 => ?_) (fun g τ2 ht2 F2 f2 => ?_)
    rotate_left
    · refine mustF F2 ?_
      rintro x2 rfl
      exact mustF F2 ⟨fun c => absurd c F2.ne.2, fun _ => hno g (i + 1) τ2 (by unfold acP; rw [hp, ht1, bd_o, ht2, bd_n, bd_n]) F2 (tr (Fy.tm f1) (Fy.tm f2))⟩
    refine mustM (k := 17) hT A2 (by decide) (by decide) rfl (fun τ3 _ hi3 ht3 A3 f3 => ?_) (fun g τ3 ht3 F3 f3 => ?_)
    rotate_left
    · rintro x2 rfl
      exact mustF F3 ⟨fun c => absurd c F3.ne.2, fun _ => hno g (i + 1 + 1) τ3 (by unfold acP; rw [hp, ht1, bd_o, ht2, bd_o, ht3, bd_n, bd_n]) F3 (tr (tr (Fy.tm f1) (Fy.tm f2)) (Fy.tm f3))⟩
    rw [A3.2.1]
    rintro x2 rfl
    have hp3 : hdP K V NM nms i lt = fuP K V (NM (i + 1)) (i + 1 + 1 + 1) (if NM (i + 1) ∈ nms then ntP lt 3 (i + 1) else lt) := by rw [hp, ht1, bd_o, ht2, bd_o, ht3, bd_o]
    refine mustM (k := 2) hT A3 (by decide) (by decide) rfl (fun τ4 hk4 hi4 ht4 A4 f4 => ⟨fun _ => ?_, fun c => absurd (by rw [A4.2.2.2]; decide) c⟩) (fun g τ4 ht4 F4 f4 => ⟨fun c => absurd c F4.ne.2, fun _ => hno g (i + 1 + 1 + 1) τ4 (by unfold acP; rw [hp3]; unfold fuP; rw [ht4, bd_n, bd_n]) F4 (tr (tr (tr (Fy.tm f1) (Fy.tm f2)) (Fy.tm f3)) (Fy.tm f4))⟩)
    have fA : Fy nms.length nr NR C τ τ4 := tr (tr (tr (Fy.tm f1) (Fy.tm f2)) (Fy.tm f3)) (Fy.tm f4)
    have C4 := (((h.tm A1 f1).tm A2 f2).tm A3 f3).tm A4 f4
    have e19 : ∀ τ5, Fm xWr τ4 τ5 → gv τ5 11 19 = nI nms.length := fun τ5 f5 => by
      rw [f5.2 11 19 rfl, f4.2 11 19 rfl, f3.2 11 19 rfl, f2.2 11 19 rfl, f1.2 11 19 rfl]
      exact eA
    have e24 : gv τ4 11 24 = nI nr := by
      rw [f4.2 11 24 rfl, f3.2 11 24 rfl, f2.2 11 24 rfl, f1.2 11 24 rfl]
      exact eR
    have N4 : NmM nms τ4 := fun a l hl => ⟨(hN a l hl).1, by rw [f4.gw, f3.gw, f2.gw, f1.gw]; exact (hN a l hl).2⟩
    have L4 : LtM P i τ4 lt := (((hL.fm f1 rfl rfl (Nat.le_refl _)).fm f2 rfl rfl (Nat.le_refl _)).fm f3 rfl rfl (Nat.le_refl _)).fm f4 rfl rfl (Nat.le_refl _)
    have hm1 : i + 1 ≤ M := A1.2.2.1
    have hm3 : i + 1 + 1 + 1 ≤ M := A3.2.2.1
    have okn := hT.2.2.2.2.1 (i + 1) hk2
    have v1 : vp_in (nI (i + 1)) 603 := vp_in_nI (by omega) (by decide)
    have v3 : vp_in (nI (i + 1 + 1 + 1)) 603 := vp_in_nI (by omega) (by decide)
    have c1 : (nI (i + 1)).toNatClampNeg = i + 1 := nI_clamp (by omega)
    have c3 : (nI (i + 1 + 1 + 1)).toNatClampNeg = i + 1 + 1 + 1 := nI_clamp (by omega)
    rw [e19 τ4 Fm.rf]
    rintro x3 rfl
    have ltb : ∀ x, lt = some x → x.2 < i + 1 := fun x hx => by
      rw [hx] at L4
      have := L4.2.2.2.2
      omega
    have rest : ∀ (τ5 : St) (lx : Lt), lx = (if NM (i + 1) ∈ nms then ntP lt 3 (i + 1) else lt) → Fm xWr τ4 τ5 → LtM P (i + 1 + 1) τ5 lx → vp_in (nI (i + 1)) 603 ∧ vp_in (nI nms.length) 11 ∧ ∀ σ4 : St, σ4 = pw τ5 55 (nI nms.length).toNatClampNeg (gw τ5 53 (nI (i + 1)).toNatClampNeg) → vp_in (nI (i + 1 + 1 + 1)) 603 ∧ vp_in (nI nms.length) 11 ∧ ∀ σ7 : St, σ7 = pv σ4 56 (nI nms.length).toNatClampNeg (gv σ4 52 (nI (i + 1 + 1 + 1)).toNatClampNeg) → vp_in (nI nms.length) 11 ∧ ∀ σ9 : St, σ9 = pv σ7 57 (nI nms.length).toNatClampNeg (-1 : Int32) → wX12_is (22 : Int32) σ9 (fun (r10 : Int32) (σ11 : St) => ((r10 = 0 → wX12_tellAct_207 Q (nI nms.length) σ11) ∧ (¬ (r10 = 0) → wX12_next σ11 (fun (σ14 : St) => ∀ x4_15 : Int32, x4_15 = gv σ14 11 11 → wX12_must (2 : Int32) σ14 (fun (σ17 : St) => (((gv σ17 11 13) ≤ 0 → vp_in x4_15 603 ∧ vp_in (nI nms.length) 11 ∧ ∀ σ21 : St, σ21 = pv σ17 57 (nI nms.length).toNatClampNeg (gv σ17 52 x4_15.toNatClampNeg) → vp_in (nI nms.length) 11 ∧ vp_in (nI nms.length) 11 ∧ (((gv σ21 56 (nI nms.length).toNatClampNeg) < (gv σ21 57 (nI nms.length).toNatClampNeg) → wX12_tellAct_207 Q (nI nms.length) σ21) ∧ (¬ ((gv σ21 56 (nI nms.length).toNatClampNeg) < (gv σ21 57 (nI nms.length).toNatClampNeg)) → wX12_wrong (5 : Int32) x4_15 σ21 (fun (σ26 : St) => wX12_tellAct_207 Q (nI nms.length) σ26)))) ∧ (¬ ((gv σ17 11 13) ≤ 0) → Q σ17))))))) := by
      intro τ5 lx hlx f5 L5
      rw [← hlx] at hp3
      have C5 := C4.wr f5
      rw [cA, c1, c3]
      refine ⟨v1, vA, ?_⟩
      rintro σ4 rfl
      refine ⟨v3, vA, ?_⟩
      rintro σ7 rfl
      refine ⟨vA, ?_⟩
      intro σ9 e9
      have w53 : gw τ5 53 (i + 1) = pkN 27 (NM (i + 1)) := by
        rw [C5.1.1.2.2.2]
        exact (hT.2.2.1 (i + 1) hm1).2.2.2 hk2
      have w52 : gv (pw τ5 55 nms.length (gw τ5 53 (i + 1))) 52 (i + 1 + 1 + 1) = V (i + 1 + 1 + 1) := (congrFun C5.1.1.2.2.1 _).trans ((hT.2.2.1 _ hm3).2.2.1 hk4)
      rw [w52, w53] at e9
      have hg : ∀ a j, (a = 56 ∨ a = 57 → j ≠ nms.length) → gv σ9 a j = gv τ5 a j := fun a j h1 => by
        rw [e9, gv_pv, if_neg (by omega), gv_pv, if_neg (by omega), gv_pw]
      have hgw : ∀ a j, (a = 55 → j ≠ nms.length) → gw σ9 a j = gw τ5 a j := fun a j h1 => by
        rw [e9]
        show gw (pw τ5 55 nms.length (pkN 27 (NM (i + 1)))) a j = gw τ5 a j
        rw [gw_pw]
        by_cases z : a = 55
        · rw [if_pos z, z]
          show (if j = nms.length then pkN 27 (NM (i + 1)) else gw τ5 55 j) = gw τ5 55 j
          rw [if_neg (h1 z)]
        · rw [if_neg z]
      have g55 : gw σ9 55 nms.length = pkN 27 (NM (i + 1)) := by
        rw [e9]
        show gw (pw τ5 55 nms.length (pkN 27 (NM (i + 1)))) 55 nms.length = _
        rw [gw_pw, if_pos rfl]
        exact if_pos rfl
      have g56 : gv σ9 56 nms.length = V (i + 1 + 1 + 1) := by rw [e9, gv_pv, if_neg (by omega), gv_pv, if_pos ⟨rfl, rfl⟩]
      have g57 : gv σ9 57 nms.length = -1 := by rw [e9, gv_pv, if_pos ⟨rfl, rfl⟩]
      have fy9 : Fy nms.length nr NR C τ σ9 := by
        refine tr fA (tr (Fy.wr f5) ⟨fun a j q => hg a j (fun z => ?_), fun a j q => hgw a j (fun z => by have := q z; omega), by rw [e9]; rfl⟩)
        unfold xTy at q
        simp only [Bool.or_eq_false_iff, Bool.and_eq_false_iff, decide_eq_false_iff_not, beq_eq_false_iff_ne] at q
        omega
      have C9 : CnM σ M CB NB (i + 1 + 1 + 1 + 1) C NR σ9 := by
        obtain ⟨⟨T, B1, B1b, B1c⟩, B2, B3, B4, B5, B6, B7, B8⟩ := C5
        refine ⟨⟨⟨funext (fun j => ?_), funext (fun j => ?_), funext (fun j => ?_), funext (fun j => ?_)⟩, (hg 11 11 (by omega)).trans B1, B1b, (hg 11 13 (by omega)).trans B1c⟩, (hg 11 12 (by omega)).trans B2, (hg 11 38 (by omega)).trans B3, B4, B5, (hg 11 32 (by omega)).trans B6, B7, B8⟩
        · exact (hg 50 j (by omega)).trans (congrFun T.1 j)
        · exact (hg 51 j (by omega)).trans (congrFun T.2.1 j)
        · exact (hg 52 j (by omega)).trans (congrFun T.2.2.1 j)
        · exact (hgw 53 j (by omega)).trans (congrFun T.2.2.2 j)
      have L9 : LtM P (i + 1 + 1) σ9 lx := by
        have q15 := hg 11 15 (by omega)
        have q16 := hg 11 16 (by omega)
        rcases lx with _ | x
        · exact q15.trans L5
        · exact ⟨q15.trans L5.1, L5.2.1, L5.2.2.1, q16.trans L5.2.2.2.1, L5.2.2.2.2⟩
      have e19' : gv σ9 11 19 = nI nms.length := (hg 11 19 (by omega)).trans (e19 τ5 f5)
      have e24' : gv σ9 11 24 = nI nr := (hg 11 24 (by omega)).trans ((f5.2 11 24 rfl).trans e24)
      have lm : ∀ {b b' : Nat} {τ' : St} {l : Lt}, LtM P b τ' l → b ≤ b' → LtM P b' τ' l := fun hh hb => hh.fm (X := fun _ _ => false) Fm.rf rfl rfl hb
      refine isM (k := 18) hT C9.1 (by decide) rfl (fun hk5 => ⟨z11, fun _ => ?_⟩) (fun hk5 => ⟨fun _ => ?_, fun c => absurd rfl c⟩)
      · have hp5 : hdP K V NM nms i lt = (tkP K 18 (i + 1 + 1 + 1 + 1)).bd fun p _ => (tkP K 2 p).bd fun q _ => (tkP K 4 q).bd fun z _ => .ok z ((NM (i + 1), V (i + 1 + 1 + 1), V p), if V (i + 1 + 1 + 1) < V p then lx else ntP lx 5 p) := by
          rw [hp3]
          unfold fuP
          rw [ht4, bd_o, if_pos hk5]
        refine nextM hT C9.1 hk5 (by decide) (fun τ6 hi6 ht6 A6 f6 => ?_) (fun g τ6 ht6 F6 f6 => ?_)
        rotate_left
        · rintro x4 rfl
          exact mustF F6 ⟨fun c => absurd c F6.ne.2, fun _ => hno g _ τ6 (by unfold acP; rw [hp5, ht6, bd_n, bd_n]) F6 (tr fy9 (Fy.tm f6))⟩
        rw [A6.2.1]
        rintro x4 rfl
        refine mustM (k := 2) hT A6 (by decide) (by decide) rfl (fun τ7 hk7 hi7 ht7 A7 f7 => ⟨fun _ => ?_, fun c => absurd (by rw [A7.2.2.2]; decide) c⟩) (fun g τ7 ht7 F7 f7 => ⟨fun c => absurd c F7.ne.2, fun _ => hno g _ τ7 (by unfold acP; rw [hp5, ht6, bd_o, ht7, bd_n, bd_n]) F7 (tr fy9 (tr (Fy.tm f6) (Fy.tm f7)))⟩)
        have hm5 : i + 1 + 1 + 1 + 1 + 1 ≤ M := A6.2.2.1
        have v5 : vp_in (nI (i + 1 + 1 + 1 + 1 + 1)) 603 := vp_in_nI (by omega) (by decide)
        have w57 : gv τ7 52 (i + 1 + 1 + 1 + 1 + 1) = V (i + 1 + 1 + 1 + 1 + 1) := (congrFun A7.1.2.2.1 _).trans ((hT.2.2.1 _ hm5).2.2.1 hk7)
        rw [nI_clamp (show i + 1 + 1 + 1 + 1 + 1 < 2 ^ 31 by omega), w57]
        refine ⟨v5, vA, ?_⟩
        rintro σ21 rfl
        have fz : Fm (fun a j => a == 57 && j == nms.length) τ7 (pv τ7 57 nms.length (V (i + 1 + 1 + 1 + 1 + 1))) := Fm_pv (by simp)
        have C7 : CnM σ M CB NB (i + 1 + 1 + 1 + 1 + 1 + 1) C NR (pv τ7 57 nms.length (V (i + 1 + 1 + 1 + 1 + 1))) := by
          obtain ⟨B1, B2, B3, B4, B5, B6, B7, B8⟩ := (C9.tm A6 f6).tm A7 f7
          exact ⟨B1.fm fz (fun a j h1 h2 => by simp; omega) (by simp) (by simp), (fz.2 11 12 (by simp)).trans B2, (fz.2 11 38 (by simp)).trans B3, B4, B5, (fz.2 11 32 (by simp)).trans B6, B7, B8⟩
        have X7 : AcMt nms.length (NM (i + 1), V (i + 1 + 1 + 1), V (i + 1 + 1 + 1 + 1 + 1)) (pv τ7 57 nms.length (V (i + 1 + 1 + 1 + 1 + 1))) := ⟨okn, (congrFun fz.gw _).trans ((congrFun f7.gw _).trans ((congrFun f6.gw _).trans g55)), (fz.2 56 _ (by simp)).trans ((f7.2 56 _ rfl).trans ((f6.2 56 _ rfl).trans g56)), by rw [gv_pv, if_pos ⟨rfl, rfl⟩]⟩
        have fy7 : Fy nms.length nr NR C τ (pv τ7 57 nms.length (V (i + 1 + 1 + 1 + 1 + 1))) := by
          refine tr fy9 (tr (tr (Fy.tm f6) (Fy.tm f7)) ⟨fun a j q => fz.2 a j ?_, fun a j _ => congrFun fz.gw j, fz.gn⟩)
          unfold xTy at q
          simp only [Bool.or_eq_false_iff, Bool.and_eq_false_iff, decide_eq_false_iff_not, beq_eq_false_iff_ne] at q ⊢
          omega
        have L7 : LtM P (i + 1 + 1) (pv τ7 57 nms.length (V (i + 1 + 1 + 1 + 1 + 1))) lx := ((L9.fm f6 rfl rfl (Nat.le_refl _)).fm f7 rfl rfl (Nat.le_refl _)).fm fz (by simp) (by simp) (Nat.le_refl _)
        have e197 : gv (pv τ7 57 nms.length (V (i + 1 + 1 + 1 + 1 + 1))) 11 19 = nI nms.length := (fz.2 11 19 (by simp)).trans ((f7.2 11 19 rfl).trans ((f6.2 11 19 rfl).trans e19'))
        have e247 : gv (pv τ7 57 nms.length (V (i + 1 + 1 + 1 + 1 + 1))) 11 24 = nI nr := (fz.2 11 24 (by simp)).trans ((f7.2 11 24 rfl).trans ((f6.2 11 24 rfl).trans e24'))
        rw [show gv (pv τ7 57 nms.length (V (i + 1 + 1 + 1 + 1 + 1))) 56 nms.length = V (i + 1 + 1 + 1) from X7.2.2.1, show gv (pv τ7 57 nms.length (V (i + 1 + 1 + 1 + 1 + 1))) 57 nms.length = V (i + 1 + 1 + 1 + 1 + 1) from X7.2.2.2]
        have fin : ∀ (τ8 : St) (lz : Lt), lz = (if V (i + 1 + 1 + 1) < V (i + 1 + 1 + 1 + 1 + 1) then lx else ntP lx 5 (i + 1 + 1 + 1 + 1 + 1)) → Fm xWr (pv τ7 57 nms.length (V (i + 1 + 1 + 1 + 1 + 1))) τ8 → LtM P (i + 1 + 1 + 1 + 1 + 1 + 1) τ8 lz → wX12_tellAct_207 Q (nI nms.length) τ8 := by
          intro τ8 lz hlz f8 L8
          have sp : ∀ y : Rs (List Ru × Lt), ((tkP K 4 (i + 1 + 1 + 1 + 1 + 1 + 1)).bd fun j _ => (rsP K V nms.length (V (i + 1 + 1 + 1)) (V (i + 1 + 1 + 1 + 1 + 1)) 31 nr j lz).bd fun k x => (tkP K 19 k).bd fun l _ => .ok l x) = y → acP K V NM nms nr i lt = y.bd (fun l x => .ok l ((NM (i + 1), V (i + 1 + 1 + 1), V (i + 1 + 1 + 1 + 1 + 1)), x.1, x.2)) := by
            intro y hy
            unfold acP
            rw [hp5, ht6, bd_o, ht7, bd_o, ← hy, ← hlz]
            simp only [bd_as]
            rfl
          refine a207 (i0 := i) (τ0 := τ) (ac := (NM (i + 1), V (i + 1 + 1 + 1), V (i + 1 + 1 + 1 + 1 + 1))) (lt := lz) hT (by omega) (C7.wr f8) hA1 ((f8.2 11 19 rfl).trans e197) hn ((f8.2 11 24 rfl).trans e247) ⟨okn, (congrFun f8.gw _).trans X7.2.1, (f8.2 56 _ rfl).trans X7.2.2.1, (f8.2 57 _ rfl).trans X7.2.2.2⟩ L8 (tr fy7 (Fy.wr f8)) (fun l rs lt' τ' C' NR' hs X' hl z1 z2 z3 z4 z5 z6 z7 z8 z9 => hok l (NM (i + 1), V (i + 1 + 1 + 1), V (i + 1 + 1 + 1 + 1 + 1)) rs lt' τ' C' NR' (by rw [sp _ hs, bd_o]) hA1 X' (by omega) z1 z2 z3 z4 z5 z6 z7 z8 z9) (fun g k τ' hs F' f' => hno g k τ' (by rw [sp _ hs, bd_n]) F' f')
        exact ⟨vA, vA, fun c8 => fin _ lx (by rw [if_pos c8]) Fm.rf (lm L7 (by omega)), fun c8 => wrongM (k := 5) hT C7.1.1 C7.1.2.2.2 hm5 (by decide) (by decide) (by omega) L7 (fun τ8 f8 L8 => fin τ8 _ (by rw [if_neg c8]) f8 L8)⟩
      · have sp : ∀ y : Rs (List Ru × Lt), ((tkP K 4 (i + 1 + 1 + 1 + 1)).bd fun j _ => (rsP K V nms.length (V (i + 1 + 1 + 1)) (-1) 31 nr j lx).bd fun k x => (tkP K 19 k).bd fun l _ => .ok l x) = y → acP K V NM nms nr i lt = y.bd (fun l x => .ok l ((NM (i + 1), V (i + 1 + 1 + 1), -1), x.1, x.2)) := by
          intro y hy
          unfold acP
          rw [hp3]
          unfold fuP
          rw [ht4, bd_o, if_neg hk5, ← hy]
          simp only [bd_as]
          rfl
        exact a207 (i0 := i) (τ0 := τ) (ac := (NM (i + 1), V (i + 1 + 1 + 1), -1)) (lt := lx) hT (by omega) C9 hA1 e19' hn e24' ⟨okn, g55, g56, g57⟩ (lm L9 (by omega)) fy9 (fun l rs lt' τ' C' NR' hs X' hl z1 z2 z3 z4 z5 z6 z7 z8 z9 => hok l (NM (i + 1), V (i + 1 + 1 + 1), -1) rs lt' τ' C' NR' (by rw [sp _ hs, bd_o]) hA1 X' (by omega) z1 z2 z3 z4 z5 z6 z7 z8 z9) (fun g k τ' hs F' f' => hno g k τ' (by rw [sp _ hs, bd_n]) F' f')
    have cmp : ∀ (d x : Nat) (τ5 : St) (lx : Lt), x + d = nms.length → Fm xWr τ4 τ5 → LtM P (i + 1 + 1) τ5 lx → ((∀ a, a < x → nms[a]? ≠ some (NM (i + 1))) ∧ lx = lt ∨ (∃ a, a < x ∧ nms[a]? = some (NM (i + 1))) ∧ lx = ntP lt 3 (i + 1)) → wX12_tellAct_71 Q (d + 1) (nI (i + 1)) (nI (i + 1 + 1 + 1)) (nI nms.length) (nI x) τ5 := by
      intro d
      induction d with
      | zero =>
        intro x τ5 lx hx f5 L5 hl
        rw [wX12_tellAct_71, e19 τ5 f5]
        refine ⟨fun _ => rest τ5 lx ?_ f5 L5, fun c => absurd (nI_le (by omega) (by omega)) c⟩
        rcases hl with ⟨q1, q2⟩ | ⟨⟨a, q1, q2⟩, q3⟩
        · rw [if_neg (fun hm => ?_), q2]
          obtain ⟨a, ha⟩ := List.getElem?_of_mem hm
          have : a < nms.length := by
            rw [List.getElem?_eq_some_iff] at ha
            exact ha.1
          exact q1 a (by omega) ha
        · rw [if_pos (List.mem_of_getElem? q2), q3]
      | succ d ih =>
        intro x τ5 lx hx f5 L5 hl
        obtain ⟨l, hl'⟩ : ∃ l, nms[x]? = some l := ⟨_, List.getElem?_eq_getElem (show x < nms.length by omega)⟩
        have C5 := C4.wr f5
        have w53 : gw τ5 53 (i + 1) = pkN 27 (NM (i + 1)) := by
          rw [C5.1.1.2.2.2]
          exact (hT.2.2.1 (i + 1) hm1).2.2.2 hk2
        have w55 : gw τ5 55 x = pkN 27 l := (congrFun f5.gw x).trans (N4 x l hl').2
        rw [wX12_tellAct_71, e19 τ5 f5, nI_clamp (show x < 2 ^ 31 by omega), c1, w53, w55, lg_cmp_eq]
        refine ⟨fun c => absurd c (nI_ge (by omega) (by omega)), fun _ => ⟨vp_in_nI (by omega) (by decide), v1, fun c => ?_, fun c => ?_⟩⟩
        · have en : l = NM (i + 1) := pkN_inj (b := 27) (by decide) (by decide) (N4 x l hl').1 okn c
          rw [en] at hl'
          rcases hl with ⟨q1, q2⟩ | ⟨q1, q2⟩
          · rw [q2] at L5
            have L5' : LtM P (i + 1) τ5 lt := by
              rcases lt with _ | y
              · exact L5
              · exact ⟨L5.1, L5.2.1, L5.2.2.1, L5.2.2.2.1, ltb y rfl⟩
            refine wrongM (k := 3) hT C5.1.1 C5.1.2.2.2 hm1 (by decide) (by decide) (Nat.le_refl _) L5' (fun τ6 f6 L6 => ?_)
            rintro x4 rfl
            rw [nI_1]
            exact ih (x + 1) τ6 _ (by omega) (f5.tr f6) L6 (Or.inr ⟨⟨x, by omega, hl'⟩, rfl⟩)
          · rw [q2] at L5
            refine wrongA (k := 3) hT C5.1.1 C5.1.2.2.2 hm1 (by decide) ltb L5 ?_
            rintro x4 rfl
            rw [nI_1]
            exact ih (x + 1) τ5 _ (by omega) f5 L5 (Or.inr ⟨⟨x, by omega, hl'⟩, rfl⟩)
        · rintro x4 rfl
          rw [nI_1]
          refine ih (x + 1) τ5 lx (by omega) f5 L5 ?_
          rcases hl with ⟨q1, q2⟩ | ⟨⟨a, q1, q2⟩, q3⟩
          · refine Or.inl ⟨fun a ha => ?_, q2⟩
            by_cases z : a = x
            · rw [z, hl']
              intro e
              cases e
              exact c rfl
            · exact q1 a (by omega)
          · exact Or.inr ⟨⟨a, by omega, q2⟩, q3⟩
    exact ⟨nms.length + 1, cmp nms.length 0 τ4 lt (by omega) Fm.rf (L4.fm (X := fun _ _ => false) Fm.rf rfl rfl (by omega)) (Or.inl ⟨fun a ha => absurd ha (by omega), rfl⟩)⟩
end AS
