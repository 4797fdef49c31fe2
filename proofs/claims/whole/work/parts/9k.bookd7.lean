/-! read: the class's headings, and a whole text. -/
/-- frames of a heading -/
def Hx (A : Nat) (σ τ : St) : Prop := (∀ a j, (a = 5 → j ≠ 2 ∧ j ≠ 4 ∧ j ≠ 5 ∧ j ≠ 6 ∧ j ≠ 7) → (a = 34 ∨ a = 35 → j < A) → (a = 8 → j ≠ 2) → gv τ a j = gv σ a j) ∧ (∀ a j, (a = 33 → j < A) → gw τ a j = gw σ a j) ∧ gn τ = gn σ
theorem Hx.tr {A : Nat} {σ τ υ : St} (h : Hx A σ τ) (g : Hx A τ υ) : Hx A σ υ := ⟨fun a j h1 h2 h3 => (g.1 a j h1 h2 h3).trans (h.1 a j h1 h2 h3), fun a j q => (g.2.1 a j q).trans (h.2.1 a j q), g.2.2.trans h.2.2⟩
theorem Hx.tk {A : Nat} {σ τ : St} (f : Fm xTk σ τ) : Hx A σ τ := ⟨fun a j h1 _ _ => f.2 a j (by simp [xTk]; omega), fun a j _ => congrFun f.gw j, f.gn⟩
theorem Hx.nt {A : Nat} {σ τ : St} (f : Fm xNt σ τ) : Hx A σ τ := ⟨fun a j h1 _ _ => f.2 a j (by simp [xNt]; omega), fun a j _ => congrFun f.gw j, f.gn⟩
section BK
variable {σ : St} {K P : Nat → Nat} {V : Nat → Int32} {NM : Nat → List Nat} {M : Nat}
theorem AtD.nt {i : Nat} {τ τ' : St} (h : AtD σ M i τ) (f : Fm xNt τ τ') : AtD σ M i τ' := ⟨h.1.fm f (fun a j h1 h2 => by simp [xNt]; omega) (by simp [xNt]), (f.2 5 4 rfl).trans h.2.1, h.2.2⟩
/-- the end of a heading -/
theorem headD_end {i A : Nat} {τ : St} {nm : List Nat} {fr un : Int32} {Q : Int32 → St → Prop} (hT : TkD σ K P V NM M) (A0 : AtD σ M i τ) (hA : A < 10) (eA : gv τ 8 2 = nI A)
    (hok : ∀ τ', tkP K 4 i = .ok (i + 1) () → AtD σ M (i + 1) τ' → gv τ' 8 2 = nI (A + 1) → gw τ' 33 A = pkN 32 nm → gv τ' 34 A = fr → gv τ' 35 A = un → Hx A τ τ' → (∀ lt, LtD P τ lt → LtD P τ' lt) → Q 1 τ') (hno : ∀ g τ', tkP K 4 i = .no g i → FlD P g i τ' → Hx A τ τ' → Q 0 τ') : wX0_heading_179 Q (pkN 32 nm) fr un τ := by
  have va : vp_in (nI A) 10 := vp_in_nI hA (by decide)
  have ca : (nI A).toNatClampNeg = A := nI_clamp (by omega)
  unfold wX0_heading_179 wX2_draftAct
  rw [eA, ca]
  refine ⟨fun c => absurd c (nI_ge (b := 10) hA (by decide)), fun _ => ⟨va, ?_⟩⟩
  rintro σ3 rfl
  rw [show gv (pw τ 33 A (pkN 32 nm)) 8 2 = nI A from eA, ca]
  refine ⟨va, ?_⟩
  rintro σ5 rfl
  rw [show gv (pv (pw τ 33 A (pkN 32 nm)) 34 A fr) 8 2 = nI A by rw [gv_pv, if_neg (by omega)]; exact eA, ca]
  refine ⟨va, ?_⟩
  rintro σ7 rfl
  rw [show gv (pv (pv (pw τ 33 A (pkN 32 nm)) 34 A fr) 35 A un) 8 2 = nI A by rw [gv_pv, if_neg (by omega), gv_pv, if_neg (by omega)]; exact eA, nI_1]
  rintro σ8 rfl
  have hg : ∀ a j, a ≠ 34 → a ≠ 35 → (a = 8 → j ≠ 2) → gv (pv (pv (pv (pw τ 33 A (pkN 32 nm)) 34 A fr) 35 A un) 8 2 (nI (A + 1))) a j = gv τ a j := fun a j h1 h2 h3 => by
    rw [gv_pv, if_neg (by omega), gv_pv, if_neg (by omega), gv_pv, if_neg (by omega), gv_pw]
  have fx : Hx A τ (pv (pv (pv (pw τ 33 A (pkN 32 nm)) 34 A fr) 35 A un) 8 2 (nI (A + 1))) := by
    refine ⟨fun a j h1 h2 h3 => ?_, fun a j q => ?_, rfl⟩
    · rw [gv_pv, if_neg (by omega), gv_pv, if_neg (by omega), gv_pv, if_neg (by omega), gv_pw]
    · show gw (pw τ 33 A (pkN 32 nm)) a j = gw τ a j
      rw [gw_pw]
      by_cases z : a = 33
      · rw [if_pos z, z]
        show (if j = A then pkN 32 nm else gw τ 33 j) = gw τ 33 j
        rw [if_neg (by have := q z; omega)]
      · rw [if_neg z]
  have A8 : AtD σ M i (pv (pv (pv (pw τ 33 A (pkN 32 nm)) 34 A fr) 35 A un) 8 2 (nI (A + 1))) := by
    refine ⟨⟨funext (fun j => ?_), funext (fun j => ?_), funext (fun j => ?_), ?_, funext (fun j => ?_), ?_⟩, ?_, A0.2.2⟩
    · exact (hg 24 j (by decide) (by decide) (by omega)).trans (congrFun A0.1.1 j)
    · exact (hg 25 j (by decide) (by decide) (by omega)).trans (congrFun A0.1.2.1 j)
    · exact (hg 26 j (by decide) (by decide) (by omega)).trans (congrFun A0.1.2.2.1 j)
    · exact (hg 6 0 (by decide) (by decide) (by omega)).trans A0.1.2.2.2.1
    · exact (hg 204 j (by decide) (by decide) (by omega)).trans (congrFun A0.1.2.2.2.2.1 j)
    · exact (hg 5 5 (by decide) (by decide) (by omega)).trans A0.1.2.2.2.2.2
    · exact (hg 5 4 (by decide) (by decide) (by omega)).trans A0.2.1
  have lt8 : ∀ lt, LtD P τ lt → LtD P (pv (pv (pv (pw τ 33 A (pkN 32 nm)) 34 A fr) 35 A un) 8 2 (nI (A + 1))) lt := by
    intro lt h
    have e6 := hg 5 6 (by decide) (by decide) (by omega)
    have e7 := hg 5 7 (by decide) (by decide) (by omega)
    rcases lt with _ | x
    · exact ⟨e6.trans h.1, e7.trans h.2⟩
    · exact ⟨e6.trans h.1, h.2.1, h.2.2.1, e7.trans h.2.2.2⟩
  have w8 : gw (pv (pv (pv (pw τ 33 A (pkN 32 nm)) 34 A fr) 35 A un) 8 2 (nI (A + 1))) 33 A = pkN 32 nm := by
    show gw (pw τ 33 A (pkN 32 nm)) 33 A = pkN 32 nm
    rw [gw_pw, if_pos rfl]
    exact if_pos rfl
  have v34 : gv (pv (pv (pv (pw τ 33 A (pkN 32 nm)) 34 A fr) 35 A un) 8 2 (nI (A + 1))) 34 A = fr := by rw [gv_pv, if_neg (by omega), gv_pv, if_neg (by omega), gv_pv, if_pos ⟨rfl, rfl⟩]
  have v35 : gv (pv (pv (pv (pw τ 33 A (pkN 32 nm)) 34 A fr) 35 A un) 8 2 (nI (A + 1))) 35 A = un := by rw [gv_pv, if_neg (by omega), gv_pv, if_pos ⟨rfl, rfl⟩]
  have v82 : gv (pv (pv (pv (pw τ 33 A (pkN 32 nm)) 34 A fr) 35 A un) 8 2 (nI (A + 1))) 8 2 = nI (A + 1) := by rw [gv_pv, if_pos ⟨rfl, rfl⟩]
  refine takeD (k := 4) hT A8 (by decide) (by decide) (fun τ1 _ _ ht A1 f1 => ⟨rfl, hok τ1 ht A1 ((f1.2 8 2 rfl).trans v82) ((congrFun f1.gw A).trans w8) ((f1.2 34 A rfl).trans v34) ((f1.2 35 A rfl).trans v35) (fx.tr (Hx.tk f1)) (fun lt h => (lt8 lt h).fm f1 rfl rfl)⟩) (fun g τ1 ht F1 f1 => ⟨nr0, hno g τ1 ht F1 (fx.tr (Hx.tk f1))⟩)
theorem headingD {i : Nat} {nms : List (List Nat)} {τ : St} {lt : Lt} {Q : Int32 → St → Prop} (hT : TkD σ K P V NM M) (A0 : AtD σ M i τ) (hA : nms.length ≤ 10) (eA : gv τ 8 2 = nI nms.length) (hN : NmD nms τ) (hL : LtD P τ lt)
    (hok : ∀ k x lt' τ', hdP K V NM nms i lt = .ok k (x, lt') → nms.length < 10 → AtD σ M k τ' → gv τ' 8 2 = nI (nms.length + 1) → AcAt nms.length x τ' → LtD P τ' lt' → Hx nms.length τ τ' → Q 1 τ') (hno : ∀ g k τ', hdP K V NM nms i lt = .no g k → FlD P g k τ' → Hx nms.length τ τ' → Q 0 τ') : wX0_heading τ Q := by
  have h6 := hT.1
  rw [wX0_heading, eA]
  refine ⟨fun c => ?_, fun c => ?_⟩
  · have hA : nms.length < 10 := (nI_ltI (b := 10) (by omega) (by decide)).mp c
    have hp : hdP K V NM nms i lt = (tkP K 16 i).bd fun j _ => (tkP K 3 j).bd fun k _ => (tkP K 17 k).bd fun l _ => fuP K V (NM j) l (if NM j ∈ nms then ntP lt 3 j else lt) := by
      unfold hdP
      rw [if_neg (by omega)]
    have fT : ∀ {τ1 τ2 : St}, Fm xTk τ1 τ2 → Hx nms.length τ1 τ2 := fun f => Hx.tk f
    have tr : ∀ {τ1 τ2 τ3 : St}, Hx nms.length τ1 τ2 → Hx nms.length τ2 τ3 → Hx nms.length τ1 τ3 := fun f g => f.tr g
    intro x1 e1
    rw [A0.2.1, nI_1] at e1
    rw [e1]
    refine takeD (k := 16) hT A0 (by decide) (by decide) (fun τ1 _ hi ht A1 f1 => ⟨z11, fun _ => ?_⟩) (fun g τ1 ht F1 f1 => ⟨fun _ => hno g i τ1 (by rw [hp, ht, bd_n]) F1 (fT f1), fun c => absurd rfl c⟩)
    refine takeD (k := 3) hT A1 (by decide) (by decide) (fun τ2 hk2 hi2 ht2 A2 f2 => ⟨z11, fun _ => ?_⟩) (fun g τ2 ht2 F2 f2 => ⟨fun _ => hno g (i + 1) τ2 (by rw [hp, ht, bd_o, ht2, bd_n]) F2 (tr (fT f1) (fT f2)), fun c => absurd rfl c⟩)
    have hp2 : hdP K V NM nms i lt = (tkP K 17 (i + 1 + 1)).bd fun l _ => fuP K V (NM (i + 1)) l (if NM (i + 1) ∈ nms then ntP lt 3 (i + 1) else lt) := by rw [hp, ht, bd_o, ht2, bd_o]
    refine hT.2.2.2.2.2.1 (i + 1) τ2 _ A1.2.2 hk2 A2.1 ?_
    have e82 : gv τ2 8 2 = nI nms.length := (f2.2 8 2 rfl).trans ((f1.2 8 2 rfl).trans eA)
    have N2 : NmD nms τ2 := hN.gw (fun a _ => (congrFun f2.gw a).trans (congrFun f1.gw a))
    have L2 : LtD P τ2 lt := (hL.fm f1 rfl rfl).fm f2 rfl rfl
    have fA : Hx nms.length τ τ2 := tr (fT f1) (fT f2)
    have rest : ∀ (τ3 : St) (lt3 : Lt), lt3 = (if NM (i + 1) ∈ nms then ntP lt 3 (i + 1) else lt) → AtD σ M (i + 1 + 1) τ3 → gv τ3 8 2 = nI nms.length → LtD P τ3 lt3 → (Hx nms.length τ τ3) → wX0_heading_75 Q (pkN 32 (NM (i + 1))) τ3 := by
      intro τ3 lt3 hlt A3 e3 L3 fB
      rw [← hlt] at hp2
      intro x4 e4
      rw [A3.2.1, nI_1] at e4
      rw [e4]
      refine takeD (k := 17) hT A3 (by decide) (by decide) (fun τ4 _ hi4 ht4 A4 f4 => ⟨z11, fun _ => ?_⟩) (fun g τ4 ht4 F4 f4 => ⟨fun _ => hno g _ τ4 (by rw [hp2, ht4, bd_n]) F4 (tr fB (fT f4)), fun c => absurd rfl c⟩)
      refine takeD (k := 2) hT A4 (by decide) (by decide) (fun τ5 hk5 hi5 ht5 A5 f5 => ⟨z11, fun _ => ?_⟩) (fun g τ5 ht5 F5 f5 => ⟨fun _ => hno g _ τ5 (by rw [hp2, ht4, bd_o]; unfold fuP; rw [ht5, bd_n]) F5 (tr fB (tr (fT f4) (fT f5))), fun c => absurd rfl c⟩)
      have fC : Hx nms.length τ τ5 := tr fB (tr (fT f4) (fT f5))
      have L5 : LtD P τ5 lt3 := (L3.fm f4 rfl rfl).fm f5 rfl rfl
      have e5 : gv τ5 8 2 = nI nms.length := (f5.2 8 2 rfl).trans ((f4.2 8 2 rfl).trans e3)
      have hm : i + 1 + 1 + 1 ≤ M := A4.2.2
      have hp5 : hdP K V NM nms i lt = (if K (i + 1 + 1 + 1 + 1) = 18 then (tkP K 18 (i + 1 + 1 + 1 + 1)).bd fun p _ => (tkP K 2 p).bd fun q _ => (tkP K 4 q).bd fun z _ => .ok z ((NM (i + 1), V (i + 1 + 1 + 1), V p), if V (i + 1 + 1 + 1) < V p then lt3 else ntP lt3 5 p) else (tkP K 4 (i + 1 + 1 + 1 + 1)).bd fun z _ => .ok z ((NM (i + 1), V (i + 1 + 1 + 1), -1), lt3)) := by
        rw [hp2, ht4, bd_o]
        unfold fuP
        rw [ht5, bd_o]
      rw [nI_clamp (by omega), tokV hT A5.1 hm hk5]
      refine ⟨vp_in_nI (by omega) (by decide), ?_⟩
      rintro x5 rfl
      have hKm := hT.2.2.2.1.1 (i + 1 + 1 + 1 + 1)
      have okn := hT.2.2.2.2.2.2 (i + 1) hk2
      refine kindD hT A5 ⟨fun c6 => ?_, fun c6 => ?_⟩
      · have hk6 : K (i + 1 + 1 + 1 + 1) = 18 := (nI_eq (b := 18) (by omega) (by decide)).mp c6
        rw [if_pos hk6] at hp5
        intro x7 e7
        rw [A5.2.1, nI_1] at e7
        rw [e7]
        refine takeD (k := 18) hT A5 (by decide) (by decide) (fun τ6 _ hi6 ht6 A6 f6 => ⟨z11, fun _ => ?_⟩) (fun g τ6 ht6 F6 f6 => ⟨fun _ => hno g _ τ6 (by rw [hp5, ht6, bd_n]) F6 (tr fC (fT f6)), fun c => absurd rfl c⟩)
        refine takeD (k := 2) hT A6 (by decide) (by decide) (fun τ7 hk7 hi7 ht7 A7 f7 => ⟨z11, fun _ => ?_⟩) (fun g τ7 ht7 F7 f7 => ⟨fun _ => hno g _ τ7 (by rw [hp5, ht6, bd_o, ht7, bd_n]) F7 (tr fC (tr (fT f6) (fT f7))), fun c => absurd rfl c⟩)
        have fD : Hx nms.length τ τ7 := tr fC (tr (fT f6) (fT f7))
        have L7 : LtD P τ7 lt3 := (L5.fm f6 rfl rfl).fm f7 rfl rfl
        have e72 : gv τ7 8 2 = nI nms.length := (f7.2 8 2 rfl).trans ((f6.2 8 2 rfl).trans e5)
        have hm6 := A6.2.2
        rw [nI_clamp (by omega), tokV hT A7.1 A6.2.2 hk7]
        refine ⟨vp_in_nI (by omega) (by decide), ?_⟩
        rintro x6 rfl
        have fin : ∀ (τ8 : St) (lt8 : Lt), lt8 = (if V (i + 1 + 1 + 1) < V (i + 1 + 1 + 1 + 1 + 1) then lt3 else ntP lt3 5 (i + 1 + 1 + 1 + 1 + 1)) → AtD σ M (i + 1 + 1 + 1 + 1 + 1 + 1) τ8 → gv τ8 8 2 = nI nms.length → LtD P τ8 lt8 → (Hx nms.length τ τ8) → wX0_heading_179 Q (pkN 32 (NM (i + 1))) (V (i + 1 + 1 + 1)) (V (i + 1 + 1 + 1 + 1 + 1)) τ8 := by
          intro τ8 lt8 hl8 A8 e8 L8 fE
          refine headD_end hT A8 hA e8 (fun τ9 ht9 A9 v82 w33 v34 v35 f9 l9 => ?_) (fun g τ9 ht9 F9 f9 => hno g _ τ9 (by rw [hp5, ht6, bd_o, ht7, bd_o, ht9, bd_n]) F9 (tr fE f9))
          exact hok _ (NM (i + 1), V (i + 1 + 1 + 1), V (i + 1 + 1 + 1 + 1 + 1)) lt8 τ9 (by rw [hp5, ht6, bd_o, ht7, bd_o, ht9, bd_o, hl8]) hA A9 v82 ⟨okn, w33, v34, v35⟩ (l9 _ L8) (tr fE f9)
        refine ⟨fun c8 => fin τ7 lt3 (by rw [if_pos c8]) A7 e72 L7 fD, fun c8 => noteD (k := 5) hT A7.1 A6.2.2 (by decide) (by decide) L7 (fun τ8 f8 L8 => fin τ8 _ (by rw [if_neg c8]) (A7.nt f8) ((f8.2 8 2 rfl).trans e72) L8 (tr fD (Hx.nt f8)))⟩
      · have hk6 : ¬ K (i + 1 + 1 + 1 + 1) = 18 := fun e => c6 (by rw [e]; rfl)
        rw [if_neg hk6] at hp5
        refine headD_end hT A5 hA e5 (fun τ9 ht9 A9 v82 w33 v34 v35 f9 l9 => ?_) (fun g τ9 ht9 F9 f9 => hno g _ τ9 (by rw [hp5, ht9, bd_n]) F9 (tr fC f9))
        exact hok _ (NM (i + 1), V (i + 1 + 1 + 1), -1) lt3 τ9 (by rw [hp5, ht9, bd_o]) hA A9 v82 ⟨okn, w33, v34, v35⟩ (l9 _ L5) (tr fC f9)
    refine hasActD (by omega) e82 N2 (hT.2.2.2.2.2.2 (i + 1) hk2) (fun hm => ⟨z11, fun _ => noteD (k := 3) hT A2.1 A1.2.2 (by decide) (by decide) L2 (fun τ3 f3 L3 => ?_)⟩) (fun hm => ⟨fun _ => rest τ2 lt (by rw [if_neg hm]) A2 e82 L2 fA, fun c => absurd rfl c⟩)
    exact rest τ3 _ (by rw [if_pos hm]) (A2.nt f3) ((f3.2 8 2 rfl).trans e82) L3 (tr fA (Hx.nt f3))
  · have hA : ¬ nms.length < 10 := fun q => c ((nI_ltI (b := 10) (by omega) (by decide)).mpr q)
    rintro σ16 rfl
    exact hno 2 i _ (by unfold hdP; rw [if_pos (by omega)]) (A0.full hT).1 (Hx.tk (A0.full hT).2)
end BK
