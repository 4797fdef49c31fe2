/-! read: the class's rules, and all of an act's. -/
section BI
variable {σ : St} {K P : Nat → Nat} {V : Nat → Int32} {NM : Nat → List Nat} {M : Nat}
def x1C (a0 a _j : Nat) : Bool := a == a0
/-- a rule's end: its 'if', and the sign behind it -/
theorem rulD_end {nr C i : Nat} {τ0 τ : St} {Q : Int32 → St → Prop} (hT : TkD σ K P V NM M) (hn : nr < 30) (A : AtD σ M i τ) (f : Fm (xRu nr C) τ0 τ) {D : Nat} (e8 : gv τ 8 4 = nI D) (hC : C ≤ D) (hok : ∀ τ', tkP K 4 i = .ok (i + 1) () → AtD σ M (i + 1) τ' → gv τ' 30 nr = nI D → Fm (xRu nr C) τ0 τ' → Fm (fun a j => xTk a j || (a == 30 && j == nr)) τ τ' → Q 1 τ') (hno : ∀ g τ', tkP K 4 i = .no g i → FlD P g i τ' → Fm (xRu nr C) τ0 τ' → Q 0 τ') : wX0_rule_169 Q (nI nr) τ := by
  refine ⟨vp_in_nI hn (by decide), ?_⟩
  rw [nI_clamp (by omega), e8]
  rintro σ2 rfl
  have fp : Fm (fun a _ => a == 30) τ (pv τ 30 nr (nI D)) := Fm_pv rfl
  have fq : Fm (xRu nr C) τ0 (pv τ 30 nr (nI D)) := f.tr (Fm_pv (by simp [xRu]))
  have A2 : AtD σ M i (pv τ 30 nr (nI D)) := ⟨A.1.fm fp (fun a j h1 h2 => by simp; omega) rfl, by rw [gv_pv, if_neg (by omega)]; exact A.2.1, A.2.2⟩
  refine takeD (k := 4) hT A2 (by decide) (by decide) (fun τ1 _ _ ht A1 f1 => ⟨rfl, hok τ1 ht A1 ?_ (fq.tr (f1.mono (fun _ _ q => xTk_Em (xRu_Em q)))) ?_⟩) (fun g τ1 ht F1 f1 => ⟨nr0, hno g τ1 ht F1 (fq.tr (f1.mono (fun _ _ q => xTk_Em (xRu_Em q))))⟩)
  · rw [f1.2 30 nr rfl, gv_pv, if_pos ⟨rfl, rfl⟩]
  · exact (Fm_pv (by simp)).tr (f1.mono (fun a j q => by simp only [Bool.or_eq_false_iff] at q; exact q.1))
theorem ruleD {i nr a C : Nat} {τ : St} {lt : Lt} {fr un : Int32} (hT : TkD σ K P V NM M) (h : PrD σ M i C τ) (hn : nr ≤ 30) (eA : gv τ 8 2 = nI (a + 1)) (eR : gv τ 8 3 = nI nr) (hL : LtD P τ lt) {Q : Int32 → St → Prop}
    (hok : ∀ k x τ' C', ruP K V a fr un nr i lt = .ok k x → AtD σ M k τ' → gv τ' 8 3 = nI (nr + 1) → nr < 30 → gv τ' 8 4 = nI C' → C ≤ C' → C' + i ≤ C + k → RuAt C' nr x.1 τ' → LtD P τ' x.2 → Fm (xRu nr C) τ τ' → Q 1 τ') (hno : ∀ f k τ', ruP K V a fr un nr i lt = .no f k → FlD P f k τ' → Fm (xRu nr C) τ τ' → Q 0 τ') : wX0_rule τ Q := by
  have h6 := hT.1
  have tR : ∀ {a j : Nat}, xRu nr C a j = false → xTk a j = false := fun q => xTk_Em (xRu_Em q)
  intro x1 e1
  rw [eR] at e1
  rw [e1]
  refine ⟨fun c => ?_, fun c => ?_⟩
  · have hn : nr < 30 := (nI_ltI (b := 30) (by omega) (by decide)).mp c
    have vn : vp_in (nI nr) 30 := vp_in_nI hn (by decide)
    have cn : (nI nr).toNatClampNeg = nr := nI_clamp (by omega)
    have hp0 : ruP K V a fr un nr i lt = (whP K V i lt).bd fun j w => (tlP K V a fr un w.1 j).bd fun l r => (ifP K V l).bd fun k ifs => (tkP K 4 k).bd fun z _ => .ok z ((r.1, r.2.1, r.2.2.1, r.2.2.2.1, r.2.2.2.2.1, r.2.2.2.2.2.1, r.2.2.2.2.2.2.1, ifs), w.2) := by
      unfold ruP
      rw [if_neg (by omega)]
    rw [wX2_draftRule, eR, cn, eA, nI_pred]
    refine ⟨fun c => absurd c (nI_ge (b := 30) hn (by decide)), fun _ => ⟨vn, ?_⟩⟩
    rintro σ3 rfl
    rw [show gv (pv τ 32 nr (nI a)) 8 3 = nI nr by rw [gv_pv, if_neg (by omega)]; exact eR, cn, show gv (pv τ 32 nr (nI a)) 8 4 = nI C by rw [gv_pv, if_neg (by omega)]; exact h.2.1]
    refine ⟨vn, ?_⟩
    rintro σ5 rfl
    rw [show gv (pv (pv τ 32 nr (nI a)) 31 nr (nI C)) 8 3 = nI nr by rw [gv_pv, if_neg (by omega), gv_pv, if_neg (by omega)]; exact eR, nI_1]
    intro σ6 e6
    have fx : Fm (fun a j => (a == 31 && j == nr) || (a == 32 && j == nr) || (a == 8 && j == 3)) τ σ6 := by
      rw [e6]
      exact ((Fm_pv (by simp)).tr (Fm_pv (by simp))).tr (Fm_pv (by simp))
    have f6 : Fm (xRu nr C) τ σ6 := by
      rw [e6]
      exact ((Fm_pv (by simp [xRu])).tr (Fm_pv (by simp [xRu]))).tr (Fm_pv (by simp [xRu]))
    have A6 : AtD σ M i σ6 := ⟨h.1.1.fm fx (fun a j h1 h2 => by simp; omega) (by simp), (fx.2 5 4 (by simp)).trans h.1.2.1, h.1.2.2⟩
    have L6 : LtD P σ6 lt := hL.fm fx (by simp) (by simp)
    have v31 : gv σ6 31 nr = nI C := by rw [e6, gv_pv, if_neg (by omega), gv_pv, if_pos ⟨rfl, rfl⟩]
    have v32 : gv σ6 32 nr = nI a := by rw [e6, gv_pv, if_neg (by omega), gv_pv, if_neg (by omega), gv_pv, if_pos ⟨rfl, rfl⟩]
    have v83 : gv σ6 8 3 = nI (nr + 1) := by rw [e6, gv_pv, if_pos ⟨rfl, rfl⟩]
    have v84 : gv σ6 8 4 = nI C := (fx.2 8 4 (by simp)).trans h.2.1
    refine whoD (C := C) hT hn A6 L6 (fun j w τ1 hw A1 w1 L1 f1 p1 o1 p3 => ⟨z11, fun _ => ?_⟩) (fun g k τ1 hw F1 f1 => ⟨fun _ => hno g k τ1 (by rw [hp0, hw, bd_n]) F1 (f6.tr f1), fun c => absurd rfl c⟩)
    have hij : i < j := by
      unfold whP at hw
      by_cases q : K i = 24
      · rw [if_pos q] at hw
        obtain ⟨_, _, h1, h2⟩ := bd_ok hw
        cases h2
        have := tk_ok h1
        omega
      · rw [if_neg q] at hw
        obtain ⟨_, _, h1, h2⟩ := bd_ok hw
        obtain ⟨_, _, h3, h4⟩ := bd_ok h2
        cases h4
        have := tk_ok h1
        have := tk_ok h3
        omega
    have hp1 : ruP K V a fr un nr i lt = (tlP K V a fr un w.1 j).bd fun l r => (ifP K V l).bd fun k ifs => (tkP K 4 k).bd fun z _ => .ok z ((r.1, r.2.1, r.2.2.1, r.2.2.2.1, r.2.2.2.2.1, r.2.2.2.2.2.1, r.2.2.2.2.2.2.1, ifs), w.2) := by rw [hp0, hw, bd_o]
    have f61 := f6.tr f1
    have e8 : gv τ1 8 4 = nI C := p1.trans v84
    have mid : ∀ (l : Nat) (r : Ru) (τ3 : St) (C3 : Nat), tlP K V a fr un w.1 j = .ok l r → r.2.1 = w.1 → r.2.2.1 = a → (∀ ifs, bodyX (r.1, r.2.1, r.2.2.1, r.2.2.2.1, r.2.2.2.2.1, r.2.2.2.2.2.1, r.2.2.2.2.2.2.1, ifs) = bodyX r) → C3 = C + (bodyX r).length → C3 + j ≤ C + l → l ≤ 600 → AtD σ M l τ3 → gv τ3 8 4 = nI C3 → seg (gr τ3 36) C (bodyX r) → gv τ3 28 nr = b01 r.1 → Fm (xRu nr C) τ τ3 → (∀ a, a = 27 ∨ a = 31 ∨ a = 32 → gv τ3 a nr = gv τ1 a nr) → gv τ3 8 3 = gv τ1 8 3 → LtD P τ3 w.2 → wX0_rule_119 Q (nI nr) (1 : Int32) τ3 := by
      intro l r τ3 C3 hl hr1 hr2 hr3 hC3 hlen hl6 A3 e3 s3 v28 f3 o3 p83 L3
      have hp2 : ruP K V a fr un nr i lt = (ifP K V l).bd fun k ifs => (tkP K 4 k).bd fun z _ => .ok z ((r.1, r.2.1, r.2.2.1, r.2.2.2.1, r.2.2.2.2.1, r.2.2.2.2.2.1, r.2.2.2.2.2.2.1, ifs), w.2) := by rw [hp1, hl, bd_o]
      refine ⟨vn, ?_⟩
      rw [cn, e3]
      rintro σ2 rfl
      have fp : Fm (fun a j => a == 29 && j == nr) τ3 (pv τ3 29 nr (nI C3)) := Fm_pv (by simp)
      have f4 : Fm (xRu nr C) τ (pv τ3 29 nr (nI C3)) := f3.tr (Fm_pv (by simp [xRu]))
      have A4 : AtD σ M l (pv τ3 29 nr (nI C3)) := ⟨A3.1.fm fp (fun a j h1 h2 => by simp; omega) (by simp), (fp.2 5 4 (by simp)).trans A3.2.1, A3.2.2⟩
      have L4 : LtD P (pv τ3 29 nr (nI C3)) w.2 := L3.fm fp (by simp) (by simp)
      have v29 : gv (pv τ3 29 nr (nI C3)) 29 nr = nI C3 := by rw [gv_pv, if_pos ⟨rfl, rfl⟩]
      have hsl := h.2.2.1
      have P4 : PrD σ M l C3 (pv τ3 29 nr (nI C3)) := ⟨A4, (fp.2 8 4 (by simp)).trans e3, by rw [f4.gn]; omega, by rw [f4.gn]; exact h.2.2.2⟩
      have ends : ∀ (k : Nat) (ifs : List Rl) (τ5 : St), ifP K V l = .ok k ifs → AtD σ M k τ5 → gv τ5 8 4 = nI (C3 + (cdX ifs).length) → seg (gr τ5 36) C3 (cdX ifs) → (cdX ifs).length + l ≤ k → Fm (xEm C3) (pv τ3 29 nr (nI C3)) τ5 → wX0_rule_169 Q (nI nr) τ5 := by
        intro k ifs τ5 hk A5 e5 s5 hkl f5
        have f05 : Fm (xRu nr C) τ τ5 := f4.tr (f5.mono (fun _ _ q => xEm_le (by omega) (xRu_Em q)))
        refine rulD_end (C := C) hT hn A5 f05 e5 (by omega) (fun τ6 ht A7 v30 f6 f7 => ?_) (fun g τ6 ht F6 f6 => hno g k τ6 (by rw [hp2, hk, bd_o, ht, bd_n]) F6 f6)
        have same : ∀ a', a' ≠ 5 → a' ≠ 30 → a' ≠ 36 → a' ≠ 8 → gv τ6 a' nr = gv (pv τ3 29 nr (nI C3)) a' nr := fun a' h1 h2 h3 h4 => by
          rw [f7.2 a' nr (by simp [xTk, h1, h2]), f5.2 a' nr (xEm_no h1 (by omega) (by omega))]
        have same36 : ∀ j', gv τ6 36 j' = gv τ5 36 j' := fun j' => f7.2 36 j' (by simp [xTk])
        have bd := hr3 ifs
        refine hok (k + 1) ((r.1, r.2.1, r.2.2.1, r.2.2.2.1, r.2.2.2.2.1, r.2.2.2.2.2.1, r.2.2.2.2.2.2.1, ifs), w.2) τ6 (C3 + (cdX ifs).length) (by rw [hp2, hk, bd_o, ht, bd_o]) A7 ?_ hn ?_ (by omega) (by omega) ⟨?_, ?_, ?_, C, ?_, ?_, ?_, ?_, ?_, ?_⟩ ?_ f6
        · rw [f7.2 8 3 (by simp [xTk]), f5.2 8 3 (xEm_no (by decide) (by decide) (by omega)), fp.2 8 3 (by simp), p83, p3]
          exact v83
        · rw [f7.2 8 4 (by simp [xTk])]
          exact e5
        · show gv τ6 27 nr = r.2.1
          rw [same 27 (by decide) (by decide) (by decide) (by decide), fp.2 27 nr (by simp), o3 27 (by omega), w1, hr1]
        · show gv τ6 28 nr = b01 r.1
          rw [same 28 (by decide) (by decide) (by decide) (by decide), fp.2 28 nr (by simp), v28]
        · show gv τ6 32 nr = nI r.2.2.1
          rw [same 32 (by decide) (by decide) (by decide) (by decide), fp.2 32 nr (by simp), o3 32 (by omega), o1 32 nr (by decide), v32, hr2]
        · rw [same 31 (by decide) (by decide) (by decide) (by decide), fp.2 31 nr (by simp), o3 31 (by omega), o1 31 nr (by decide), v31]
        · rw [bd, same 29 (by decide) (by decide) (by decide) (by decide), v29, hC3]
        · rw [bd, v30, hC3]
        · rw [bd, ← hC3]
          exact Nat.le_refl _
        · rw [bd]
          intro j' c' hj'
          have hlt : j' < (bodyX r).length := by
            rw [List.getElem?_eq_some_iff] at hj'
            exact hj'.1
          show gv τ6 36 (C + j') = c'
          rw [same36, f5.2 36 (C + j') (xEm_no (by decide) (by omega) (by omega)), fp.2 36 _ (by simp)]
          exact s3 j' c' hj'
        · rw [bd, ← hC3]
          intro j' c' hj'
          show gv τ6 36 (C3 + j') = c'
          rw [same36]
          exact s5 j' c' hj'
        · have := L4.fm f5 (by simp [xEm, xTk]) (by simp [xEm, xTk])
          exact this.fm f7 (by simp [xTk]) (by simp [xTk])
      have hK := hT.2.2.2.1.1 l
      refine ⟨z11, fun _ => kindD hT A4 ⟨fun c3 => ?_, fun c3 => ?_⟩⟩
      · have hk : K l = 21 := (nI_eq (b := 21) (by omega) (by decide)).mp c3
        have hq : ifP K V l = (tkP K 21 l).bd fun k _ => cdP K V k := by unfold ifP; rw [if_pos hk]
        refine takeD (k := 21) hT A4 (by decide) (by decide) (fun τ5 _ _ ht A5 f5 => ⟨z11, fun _ => ?_⟩) (fun g τ5 ht F5 f5 => ⟨fun _ => hno g l τ5 (by rw [hp2, hq, ht, bd_n, bd_n]) F5 (f4.tr (f5.mono (fun _ _ q => tR q))), fun c => absurd rfl c⟩)
        refine conditionD hT (P4.tk f5 A5) _ (fun k ifs τ7 hc A7 e7 s7 f7 => ⟨z11, fun _ => ?_⟩) (fun g k τ7 hc F7 f7 => ⟨fun _ => hno g k τ7 (by rw [hp2, hq, ht, bd_o, hc, bd_n]) F7 ((f4.tr (f5.mono (fun _ _ q => tR q))).tr (f7.mono (fun _ _ q => xEm_le (by omega) (xRu_Em q)))), fun c => absurd rfl c⟩)
        obtain ⟨_, _, _, _, _, hcl⟩ := cd_ok hT.2.2.2.1 hc
        exact ends k ifs τ7 (by rw [hq, ht, bd_o, hc]) A7 e7 s7 (by omega) ((f5.mono (fun _ _ q => xTk_Em q)).tr f7)
      · have hk : ¬ K l = 21 := fun e => c3 (by rw [e]; rfl)
        exact ends l [] _ (by unfold ifP; rw [if_neg hk]) A4 P4.2.1 sg_nil (by show (0 : Nat) + l ≤ l; omega) Fm.rf
    have bad : ∀ (g k : Nat) (τ3 : St), tlP K V a fr un w.1 j = .no g k → FlD P g k τ3 → Fm (xRu nr C) τ τ3 → wX0_rule_119 Q (nI nr) (0 : Int32) τ3 := by
      intro g k τ3 hl F3 f3
      refine ⟨vn, ?_⟩
      rw [cn]
      rintro σ2 rfl
      refine ⟨fun _ => hno g k _ (by rw [hp1, hl, bd_n]) (F3.fm (Fm_pv (X := fun a _ => a == 29) rfl) rfl rfl) (f3.tr (Fm_pv (by simp [xRu]))), fun c => absurd rfl c⟩
    have hK := hT.2.2.2.1.1 j
    have P1 : PrD σ M j C τ1 := ⟨A1, e8, by rw [f61.gn]; have := h.2.2.1; omega, by rw [f61.gn]; exact h.2.2.2⟩
    have told : ∀ o : Bool, (o = true ↔ K j = 22) → wX0_rule_60 Q (nI nr) (nI nr) (b01 o) τ1 := by
      intro o ho
      refine ⟨vn, ?_⟩
      rw [cn]
      have en : vp_nar .boolean (b01 o) = b01 o := by cases o <;> rfl
      rw [en]
      rintro σ2 rfl
      have fp : Fm (fun a j => a == 28 && j == nr) τ1 (pv τ1 28 nr (b01 o)) := Fm_pv (by simp)
      have f4 : Fm (xRu nr C) τ (pv τ1 28 nr (b01 o)) := f61.tr (Fm_pv (by simp [xRu]))
      have A4 : AtD σ M j (pv τ1 28 nr (b01 o)) := ⟨A1.1.fm fp (fun a j h1 h2 => by simp; omega) (by simp), (fp.2 5 4 (by simp)).trans A1.2.1, A1.2.2⟩
      have P4 : PrD σ M j C (pv τ1 28 nr (b01 o)) := ⟨A4, (fp.2 8 4 (by simp)).trans e8, by rw [f4.gn]; have := h.2.2.1; omega, by rw [f4.gn]; exact h.2.2.2⟩
      have v28 : gv (pv τ1 28 nr (b01 o)) 28 nr = b01 o := by rw [gv_pv, if_pos ⟨rfl, rfl⟩]
      have L4 : LtD P (pv τ1 28 nr (b01 o)) w.2 := L1.fm fp (by simp) (by simp)
      rw [v28]
      have keep : ∀ τ5, Fm (xEm C) (pv τ1 28 nr (b01 o)) τ5 → gv τ5 28 nr = b01 o ∧ Fm (xRu nr C) τ τ5 ∧ (∀ a, a = 27 ∨ a = 31 ∨ a = 32 → gv τ5 a nr = gv τ1 a nr) ∧ gv τ5 8 3 = gv τ1 8 3 ∧ LtD P τ5 w.2 := by
        intro τ5 f5
        refine ⟨(f5.2 28 nr (xEm_no (by decide) (by omega) (by omega))).trans v28, f4.tr (f5.mono (fun _ _ q => xRu_Em q)), fun a' ha' => ?_, ?_, L4.fm f5 (by simp [xEm, xTk]) (by simp [xEm, xTk])⟩
        · rw [f5.2 a' nr (xEm_no (by omega) (by omega) (by omega)), fp.2 a' nr (by simp; omega)]
        · rw [f5.2 8 3 (xEm_no (by decide) (by decide) (by omega)), fp.2 8 3 (by simp)]
      cases o with
      | false =>
        have hk : ¬ K j = 22 := fun e => by cases ho.mpr e
        have hq : tlP K V a fr un w.1 j = (tkP K 20 j).bd fun k _ => (cdP K V k).bd fun l cs => .ok l (false, w.1, a, fr, un, [], cs, []) := by unfold tlP; rw [if_neg hk]
        refine ⟨vn, fun _ => ?_, fun c => absurd rfl c⟩
        refine takeD (k := 20) hT A4 (by decide) (by decide) (fun τ5 _ _ ht A5 f5 => ⟨z11, fun _ => ?_⟩) (fun g τ5 ht F5 f5 => ⟨fun _ => bad g j τ5 (by rw [hq, ht, bd_n]) F5 (f4.tr (f5.mono (fun _ _ q => tR q))), fun c => absurd rfl c⟩)
        have f5e : Fm (xEm C) (pv τ1 28 nr (b01 false)) τ5 := f5.mono (fun _ _ q => xTk_Em q)
        refine conditionD hT (P4.tk f5 A5) _ (fun k cs τ7 hc A7 e7 s7 f7 => ⟨z11, fun _ => ?_⟩) (fun g k τ7 hc F7 f7 => ⟨fun _ => bad g k τ7 (by rw [hq, ht, bd_o, hc, bd_n]) F7 (f4.tr ((f5e.tr f7).mono (fun _ _ q => xRu_Em q))), fun c => absurd rfl c⟩)
        obtain ⟨_, c6, _, _, _, hcl⟩ := cd_ok hT.2.2.2.1 hc
        obtain ⟨k1, k2, k3, k4, k5⟩ := keep τ7 (f5e.tr f7)
        exact mid k (false, w.1, a, fr, un, [], cs, []) τ7 (C + (cdX cs).length) (by rw [hq, ht, bd_o, hc, bd_o]) rfl rfl (fun _ => rfl) rfl (by omega) c6 A7 e7 s7 k1 k2 k3 k4 k5
      | true =>
        have hk : K j = 22 := ho.mp rfl
        have hq : tlP K V a fr un w.1 j = (tkP K 22 j).bd fun k _ => (smN K V 10 0 k).bd fun l E => .ok l (true, w.1, a, fr, un, E, [], []) := by unfold tlP; rw [if_pos hk]
        refine ⟨vn, fun c => absurd c z10, fun _ => ?_⟩
        refine takeD (k := 22) hT A4 (by decide) (by decide) (fun τ5 _ _ ht A5 f5 => ⟨z11, fun _ => ?_⟩) (fun g τ5 ht F5 f5 => ⟨fun _ => bad g j τ5 (by rw [hq, ht, bd_n]) F5 (f4.tr (f5.mono (fun _ _ q => tR q))), fun c => absurd rfl c⟩)
        have f5e : Fm (xEm C) (pv τ1 28 nr (b01 true)) τ5 := f5.mono (fun _ _ q => xTk_Em q)
        refine sumD hT 10 0 (by omega) (by omega) (j + 1) C τ5 (P4.tk f5 A5) _ (fun k E τ7 hc A7 e7 s7 f7 => ⟨z11, fun _ => ?_⟩) (fun g k τ7 hc F7 f7 => ⟨fun _ => bad g k τ7 (by rw [hq, ht, bd_o, hc, bd_n]) F7 (f4.tr ((f5e.tr f7).mono (fun _ _ q => xRu_Em q))), fun c => absurd rfl c⟩)
        obtain ⟨_, c6, hcl, _⟩ := sm_ok hT.2.2.2.1 hc
        obtain ⟨k1, k2, k3, k4, k5⟩ := keep τ7 (f5e.tr f7)
        exact mid k (true, w.1, a, fr, un, E, [], []) τ7 (C + E.length) (by rw [hq, ht, bd_o, hc, bd_o]) rfl rfl (fun _ => rfl) rfl (by omega) c6 A7 e7 s7 k1 k2 k3 k4 k5
    refine kindD hT A1 ⟨fun c3 => told true ⟨fun _ => (nI_eq (b := 22) (by omega) (by decide)).mp c3, fun _ => rfl⟩, fun c3 => told false ⟨fun q => (by cases q), fun e => absurd (by rw [e]; rfl) c3⟩⟩
  · have hn : ¬ nr < 30 := fun q => c ((nI_ltI (b := 30) (by omega) (by decide)).mpr q)
    rintro σ11 rfl
    exact hno 2 i _ (by unfold ruP; rw [if_pos (by omega)]) (h.1.full hT).1 ((h.1.full hT).2.mono (fun _ _ q => tR q))
end BI
