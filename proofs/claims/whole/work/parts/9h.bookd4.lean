/-! read: the class's rules. -/
def xRu (nr C a j : Nat) : Bool := xEm C a j || (decide (27 ≤ a) && decide (a ≤ 32) && decide (nr ≤ j)) || (a == 8 && j == 3) || (a == 5 && (j == 6 || j == 7))
theorem xRu_Em {nr C a j : Nat} (h : xRu nr C a j = false) : xEm C a j = false := by
  unfold xRu at h
  simp only [Bool.or_eq_false_iff] at h
  exact h.1.1.1
theorem xRu_le {nr nr' C C' a j : Nat} (h1 : nr ≤ nr') (h2 : C ≤ C') (h : xRu nr C a j = false) : xRu nr' C' a j = false := by
  unfold xRu at h ⊢
  simp only [Bool.or_eq_false_iff] at h ⊢
  refine ⟨⟨⟨xEm_le h2 h.1.1.1, ?_⟩, h.1.2⟩, h.2⟩
  have := h.1.1.2
  simp only [Bool.and_eq_false_iff, decide_eq_false_iff_not] at this ⊢
  omega
theorem xRu_no {nr C a j : Nat} (h : a ≠ 5) (h2 : a = 8 → j ≠ 4 ∧ j ≠ 3) (h3 : a = 36 → j < C) (h4 : 27 ≤ a → a ≤ 32 → j < nr) : xRu nr C a j = false := by
  unfold xRu
  rw [xEm_no h (fun q => (h2 q).1) h3]
  simp only [Bool.or_eq_false_iff, Bool.and_eq_false_iff, decide_eq_false_iff_not, beq_eq_false_iff_ne]
  exact ⟨⟨⟨trivial, by omega⟩, by omega⟩, Or.inl h⟩
/-- what is noted of late faults -/
def LtD (P : Nat → Nat) (τ : St) : Lt → Prop
  | none => gv τ 5 6 = 0 ∧ gv τ 5 7 = -1
  | some x => gv τ 5 6 = nI x.1 ∧ x.1 ≠ 0 ∧ x.1 < 10 ∧ gv τ 5 7 = nI (P x.2)
theorem LtD.fm {X : Nat → Nat → Bool} {P : Nat → Nat} {τ τ' : St} {lt : Lt} (h : LtD P τ lt) (f : Fm X τ τ') (h1 : X 5 6 = false) (h2 : X 5 7 = false) : LtD P τ' lt := by
  rcases lt with _ | x
  · exact ⟨(f.2 5 6 h1).trans h.1, (f.2 5 7 h2).trans h.2⟩
  · exact ⟨(f.2 5 6 h1).trans h.1, h.2.1, h.2.2.1, (f.2 5 7 h2).trans h.2.2.2⟩
theorem FlD.fm {X : Nat → Nat → Bool} {P : Nat → Nat} {τ τ' : St} {f i : Nat} (h : FlD P f i τ) (g : Fm X τ τ') (h1 : X 5 5 = false) (h2 : X 5 4 = false) (h3 : ∀ j, X 26 j = false := by intro j; first | rfl | simp) : FlD P f i τ' := ⟨(g.2 5 5 h1).trans h.1, ⟨(g.2 5 4 h2).trans h.2.1.1, h.2.1.2.1, (g.2 26 i (h3 i)).trans h.2.1.2.2⟩, h.2.2⟩
def xNt (a j : Nat) : Bool := a == 5 && (j == 6 || j == 7)
theorem xNt_Ru {nr C a j : Nat} (h : xRu nr C a j = false) : xNt a j = false := by
  unfold xRu at h
  simp only [Bool.or_eq_false_iff] at h
  exact h.2
/-- a rule of the draft -/
def RuAt (C i : Nat) (r : Ru) (τ : St) : Prop := gv τ 27 i = r.2.1 ∧ gv τ 28 i = b01 r.1 ∧ gv τ 32 i = nI r.2.2.1 ∧ ∃ s, gv τ 31 i = nI s ∧ gv τ 29 i = nI (s + (bodyX r).length) ∧ gv τ 30 i = nI (s + (bodyX r).length + (cdX r.2.2.2.2.2.2.2).length) ∧ s + (bodyX r).length + (cdX r.2.2.2.2.2.2.2).length ≤ C ∧ seg (gr τ 36) s (bodyX r) ∧ seg (gr τ 36) (s + (bodyX r).length) (cdX r.2.2.2.2.2.2.2)
theorem RuAt.kp {C C' i : Nat} {r : Ru} {τ τ' : St} (h : RuAt C i r τ) (hC : C ≤ C') (h1 : ∀ a, 27 ≤ a → a ≤ 32 → gv τ' a i = gv τ a i) (h2 : ∀ j, j < C → gv τ' 36 j = gv τ 36 j) : RuAt C' i r τ' := by
  obtain ⟨q1, q2, q3, s, q4, q5, q6, q7, q8, q9⟩ := h
  have sg : ∀ (E : Ex) (s : Nat), s + E.length ≤ C → seg (gr τ 36) s E → seg (gr τ' 36) s E := fun E s hs h j c hj => by
    have hl : j < E.length := by
      rw [List.getElem?_eq_some_iff] at hj
      exact hj.1
    exact (h2 (s + j) (by omega)).trans (h j c hj)
  refine ⟨(h1 27 (by decide) (by decide)).trans q1, (h1 28 (by decide) (by decide)).trans q2, (h1 32 (by decide) (by decide)).trans q3, s, (h1 31 (by decide) (by decide)).trans q4, (h1 29 (by decide) (by decide)).trans q5, (h1 30 (by decide) (by decide)).trans q6, by omega, sg _ _ (by omega) q8, sg _ _ (by omega) q9⟩
section BH
variable {σ : St} {K P : Nat → Nat} {V : Nat → Int32} {NM : Nat → List Nat} {M : Nat}
theorem noteD {k j : Nat} {τ : St} {lt : Lt} {Q : St → Prop} (hT : TkD σ K P V NM M) (hTp : TpD σ τ) (hj : j ≤ M) (hk : k ≠ 0) (hk2 : k < 10) (h : LtD P τ lt) (hQ : ∀ τ', Fm xNt τ τ' → LtD P τ' (ntP lt k j) → Q τ') : wX0_note (nI k) (nI j) τ Q := by
  have h6 := hT.1
  rcases lt with _ | x
  · refine ⟨fun _ => ⟨fun c => absurd c (nI_nlt (a := 600) (by omega) (by decide)), fun _ => ?_⟩, fun c => absurd h.1 c⟩
    rintro σ3 rfl
    refine ⟨vp_in_nI (by omega) (by decide), ?_⟩
    rw [nI_clamp (by omega)]
    rintro σ5 rfl
    refine hQ _ ((Fm_pv rfl).tr (Fm_pv rfl)) ⟨?_, hk, hk2, ?_⟩
    · rw [gv_pv, if_neg (by decide), gv_pv, if_pos ⟨rfl, rfl⟩]
    · rw [gv_pv, if_pos ⟨rfl, rfl⟩, gv_pv, if_neg (by omega)]
      exact (congrFun hTp.2.2.1 j).trans (hT.2.2.1 j hj).2
  · refine ⟨fun c => ?_, fun _ => hQ τ Fm.rf h⟩
    rw [h.1] at c
    exact absurd ((nI_eq (b := 0) (by have := h.2.2.1; omega) (by decide)).mp c) h.2.1
theorem whoD {i nr C : Nat} {τ : St} {lt : Lt} (hT : TkD σ K P V NM M) (hn : nr < 30) (h : AtD σ M i τ) (hL : LtD P τ lt) {Q : Int32 → St → Prop}
    (hok : ∀ k x τ', whP K V i lt = .ok k x → AtD σ M k τ' → gv τ' 27 nr = x.1 → LtD P τ' x.2 → Fm (xRu nr C) τ τ' → gv τ' 8 4 = gv τ 8 4 → (∀ a j, 28 ≤ a → gv τ' a j = gv τ a j) → gv τ' 8 3 = gv τ 8 3 → Q 1 τ') (hno : ∀ f k τ', whP K V i lt = .no f k → FlD P f k τ' → Fm (xRu nr C) τ τ' → Q 0 τ') : wX0_who (nI nr) τ Q := by
  have h6 := hT.1
  have hK := hT.2.2.2.1.1 i
  have vn : vp_in (nI nr) 30 := vp_in_nI hn (by decide)
  have x27 : xRu nr C 27 nr = true := by simp [xRu]
  have tR : ∀ {a j : Nat}, xRu nr C a j = false → xTk a j = false := fun q => xTk_Em (xRu_Em q)
  refine ⟨vn, ?_⟩
  rw [nI_clamp (by omega)]
  rintro σ2 rfl
  have f2 : Fm (xRu nr C) τ (pv τ 27 nr (-1)) := Fm_pv x27
  have A2 : AtD σ M i (pv τ 27 nr (-1)) := ⟨h.1.fm (Fm_pv (X := fun a _ => a == 27) rfl) (fun a j h1 h2 => by simp; omega) rfl, by rw [gv_pv, if_neg (by omega)]; exact h.2.1, h.2.2⟩
  have L2 : LtD P (pv τ 27 nr (-1)) lt := hL.fm (Fm_pv (X := fun a _ => a == 27) rfl) rfl rfl
  have o2 : ∀ a j, 28 ≤ a → gv (pv τ 27 nr (-1)) a j = gv τ a j := fun a j ha => by rw [gv_pv, if_neg (by omega)]
  have p2 : ∀ j, gv (pv τ 27 nr (-1)) 8 j = gv τ 8 j := fun j => by rw [gv_pv, if_neg (by omega)]
  refine kindD hT A2 ⟨fun c => ?_, fun c => ?_⟩
  · have hk : K i = 24 := (nI_eq (b := 24) (by omega) (by decide)).mp c
    have hp : whP K V i lt = (tkP K 24 i).bd fun j _ => .ok j (-1, lt) := by unfold whP; rw [if_pos hk]
    refine takeD (k := 24) hT A2 (by decide) (by decide) (fun τ1 _ hi ht A1 f1 => ⟨rfl, hok (i + 1) (-1, lt) τ1 (by rw [hp, ht, bd_o]) A1 ?_ (L2.fm f1 rfl rfl) (f2.tr (f1.mono (fun _ _ q => tR q))) ((f1.2 8 4 rfl).trans (p2 4)) (fun a j ha => (f1.2 a j (xTk_no (by omega))).trans (o2 a j ha)) ((f1.2 8 3 rfl).trans (p2 3))⟩) (fun g τ1 ht F1 f1 => ⟨nr0, hno g i τ1 (by rw [hp, ht, bd_n]) F1 (f2.tr (f1.mono (fun _ _ q => tR q)))⟩)
    rw [f1.2 27 nr rfl, gv_pv, if_pos ⟨rfl, rfl⟩]
  · have hk : ¬ K i = 24 := fun e => c (by rw [e]; rfl)
    have hp : whP K V i lt = (tkP K 23 i).bd fun j _ => (tkP K 2 j).bd fun k _ => .ok k (V j, if V j < 7 then lt else ntP lt 5 j) := by unfold whP; rw [if_neg hk]
    intro x2 e2
    rw [A2.2.1, nI_1] at e2
    rw [e2]
    refine takeD (k := 23) hT A2 (by decide) (by decide) (fun τ1 _ hi ht A1 f1 => ⟨z11, fun _ => ?_⟩) (fun g τ1 ht F1 f1 => ⟨fun _ => hno g i τ1 (by rw [hp, ht, bd_n]) F1 (f2.tr (f1.mono (fun _ _ q => tR q))), fun c => absurd rfl c⟩)
    refine takeD (k := 2) hT A1 (by decide) (by decide) (fun τ2 hk2 hi2 ht2 A3 f3 => ⟨z11, fun _ => ?_⟩) (fun g τ2 ht2 F2 f3 => ⟨fun _ => hno g (i + 1) τ2 (by rw [hp, ht, bd_o, ht2, bd_n]) F2 ((f2.tr (f1.mono (fun _ _ q => tR q))).tr (f3.mono (fun _ _ q => tR q))), fun c => absurd rfl c⟩)
    have hi1 := A1.2.2
    rw [nI_clamp (by omega), tokV hT A3.1 A1.2.2 hk2]
    refine ⟨vp_in_nI (by omega) (by decide), vn, ?_⟩
    rintro σ16 rfl
    refine ⟨vn, ?_⟩
    rw [show gv (pv τ2 27 nr (V (i + 1))) 27 nr = V (i + 1) by rw [gv_pv, if_pos ⟨rfl, rfl⟩]]
    have f13 : Fm (xRu nr C) τ τ2 := (f2.tr (f1.mono (fun _ _ q => tR q))).tr (f3.mono (fun _ _ q => tR q))
    have f14 : Fm (xRu nr C) τ (pv τ2 27 nr (V (i + 1))) := f13.tr (Fm_pv x27)
    have fp : Fm (fun a _ => a == 27) τ2 (pv τ2 27 nr (V (i + 1))) := Fm_pv rfl
    have A4 : AtD σ M (i + 1 + 1) (pv τ2 27 nr (V (i + 1))) := ⟨A3.1.fm fp (fun a j h1 h2 => by simp; omega) rfl, by rw [gv_pv, if_neg (by omega)]; exact A3.2.1, A3.2.2⟩
    have L4 : LtD P (pv τ2 27 nr (V (i + 1))) lt := ((L2.fm f1 rfl rfl).fm f3 rfl rfl).fm fp rfl rfl
    have hp2 : whP K V i lt = .ok (i + 1 + 1) (V (i + 1), if V (i + 1) < 7 then lt else ntP lt 5 (i + 1)) := by rw [hp, ht, bd_o, ht2, bd_o]
    have o4 : ∀ a j, 28 ≤ a → gv (pv τ2 27 nr (V (i + 1))) a j = gv τ a j := fun a j ha => by rw [gv_pv, if_neg (by omega), f3.2 a j (xTk_no (by omega)), f1.2 a j (xTk_no (by omega)), o2 a j ha]
    have p4 : ∀ j, gv (pv τ2 27 nr (V (i + 1))) 8 j = gv τ 8 j := fun j => by rw [gv_pv, if_neg (by omega), f3.2 8 j rfl, f1.2 8 j rfl, p2]
    refine ⟨fun c3 => ?_, fun c3 => ?_⟩
    · rw [if_pos c3] at hp2
      exact hok _ _ _ hp2 A4 (by rw [gv_pv, if_pos ⟨rfl, rfl⟩]) L4 f14 (p4 4) o4 (p4 3)
    · rw [if_neg c3] at hp2
      refine noteD (k := 5) hT A4.1 A1.2.2 (by decide) (by decide) L4 (fun τ5 f5 L5 => ?_)
      have n5 : ∀ a j, a ≠ 5 → xNt a j = false := fun a j ha => by simp [xNt, ha]
      refine hok _ _ τ5 hp2 ⟨A4.1.fm f5 (fun a j h1 h2 => n5 a j (by omega)) (n5 6 0 (by decide)), (f5.2 5 4 rfl).trans A4.2.1, A4.2.2⟩ ?_ L5 (f14.tr (f5.mono (fun _ _ q => xNt_Ru q))) ((f5.2 8 4 rfl).trans (p4 4)) (fun a j ha => (f5.2 a j (n5 a j (by omega))).trans (o4 a j ha)) ((f5.2 8 3 rfl).trans (p4 3))
      rw [f5.2 27 nr rfl, gv_pv, if_pos ⟨rfl, rfl⟩]
end BH
