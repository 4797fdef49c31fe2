/-! read: the reference's acts, and a whole text. -/
def xTy (A R NR C a j : Nat) : Bool := xRm R NR C a j || ((a == 56 || a == 57) && decide (A ≤ j)) || (a == 11 && j == 19)
def Fy (A R NR C : Nat) (σ τ : St) : Prop := (∀ a j, xTy A R NR C a j = false → gv τ a j = gv σ a j) ∧ (∀ a j, (a = 55 → j < A) → gw τ a j = gw σ a j) ∧ gn τ = gn σ
theorem xTy_Rm {A R NR C a j : Nat} (h : xTy A R NR C a j = false) : xRm R NR C a j = false := by
  unfold xTy at h
  simp only [Bool.or_eq_false_iff] at h
  exact h.1.1
theorem xTy_no {A R NR C a j : Nat} (h1 : a ≠ 11) (h2 : a ≠ 72) (h3 : a = 70 ∨ a = 71 → j < C) (h4 : 65 ≤ a → a ≤ 69 → j < NR) (h5 : 58 ≤ a → a ≤ 64 → j < R) (h6 : a = 56 ∨ a = 57 → j < A) : xTy A R NR C a j = false := by
  unfold xTy
  rw [xRm_no h1 h2 h3 h4 h5]
  simp only [Bool.or_eq_false_iff, Bool.and_eq_false_iff, decide_eq_false_iff_not, beq_eq_false_iff_ne]
  exact ⟨⟨trivial, by omega⟩, Or.inl h1⟩
theorem Fy.rf {A R NR C : Nat} {σ : St} : Fy A R NR C σ σ := ⟨fun _ _ _ => rfl, fun _ _ _ => rfl, rfl⟩
theorem Fy.tr {A R NR C A' R' NR' C' : Nat} {σ τ υ : St} (h : Fy A R NR C σ τ) (g : Fy A' R' NR' C' τ υ) (h1 : A ≤ A') (h2 : R ≤ R') (h3 : NR ≤ NR') (h4 : C ≤ C') : Fy A R NR C σ υ := by
  refine ⟨fun a j q => (g.1 a j ?_).trans (h.1 a j q), fun a j q => (g.2.1 a j (fun z => by have := q z; omega)).trans (h.2.1 a j q), g.2.2.trans h.2.2⟩
  unfold xTy at q ⊢
  simp only [Bool.or_eq_false_iff] at q ⊢
  refine ⟨⟨xRm_le h2 h3 h4 q.1.1, ?_⟩, q.2⟩
  have := q.1.2
  simp only [Bool.and_eq_false_iff, decide_eq_false_iff_not] at this ⊢
  rcases this with z | z
  · exact Or.inl z
  · exact Or.inr (by omega)
theorem Fy.of {A R NR C : Nat} {σ τ : St} (f : Fm (xRm R NR C) σ τ) : Fy A R NR C σ τ := ⟨fun a j q => f.2 a j (xTy_Rm q), fun a j _ => congrFun f.gw j, f.gn⟩
theorem Fy.tm {A R NR C : Nat} {σ τ : St} (f : Fm xTm σ τ) : Fy A R NR C σ τ := Fy.of (f.mono (fun _ _ q => xTm_Rm q))
theorem Fy.wr {A R NR C : Nat} {σ τ : St} (f : Fm xWr σ τ) : Fy A R NR C σ τ := Fy.of (f.mono (fun _ _ q => xWr_Rm q))
def NmM (nms : List (List Nat)) (τ : St) : Prop := ∀ a l, nms[a]? = some l → okN l ∧ gw τ 55 a = pkN 27 l
def AcMt (a : Nat) (x : List Nat × Int32 × Int32) (τ : St) : Prop := okN x.1 ∧ gw τ 55 a = pkN 27 x.1 ∧ gv τ 56 a = x.2.1 ∧ gv τ 57 a = x.2.2
theorem AcMt.kp {A R NR C a : Nat} {x : List Nat × Int32 × Int32} {τ τ' : St} (h : AcMt a x τ) (f : Fy A R NR C τ τ') (ha : a < A) : AcMt a x τ' :=
  ⟨h.1, (f.2.1 55 a (fun _ => ha)).trans h.2.1, (f.1 56 a (xTy_no (by decide) (by decide) (by omega) (by omega) (by omega) (by omega))).trans h.2.2.1, (f.1 57 a (xTy_no (by decide) (by decide) (by omega) (by omega) (by omega) (by omega))).trans h.2.2.2⟩
theorem RuMt.fy {A R NR NR' C C' i : Nat} {r : Ru} {τ τ' : St} (h : RuMt NR C i r τ) (f : Fy A R NR C τ τ') (hi : i < R) (hN : NR ≤ NR') (hC : C ≤ C') : RuMt NR' C' i r τ' :=
  h.kp hN hC (fun a h1 h2 => f.1 a i (xTy_no (by omega) (by omega) (by omega) (by omega) (by omega) (by omega))) (fun a j h1 h2 hj => f.1 a j (xTy_no (by omega) (by omega) (by omega) (by omega) (by omega) (by omega))) (fun a j h1 hj => f.1 a j (xTy_no (by omega) (by omega) (by omega) (by omega) (by omega) (by omega)))
/-- the same late fault at the same token, once more -/
theorem wrongA {σ : St} {K P : Nat → Nat} {V : Nat → Int32} {NM : Nat → List Nat} {M k j b : Nat} {τ : St} {lt : Lt} {R : St → Prop} (hT : TkM σ K P V NM M) (hTp : TpM σ τ) (h13 : gv τ 11 13 = 0) (hj : j ≤ M) (hk2 : k < 10) (hb : ∀ x, lt = some x → x.2 < j) (h : LtM P b τ (ntP lt k j)) (hQ : R τ) : wX12_wrong (nI k) (nI j) τ R := by
  have h6 := hT.1
  refine ⟨vp_in_nI (by omega) (by decide), ?_⟩
  rw [nI_clamp (by omega), show gv τ 51 j = nI (P j) from (congrFun hTp.2.1 j).trans (hT.2.2.1 j hj).2.1, h13]
  rintro x3 rfl
  refine ⟨fun c => absurd c (by decide), fun _ => ?_⟩
  rcases lt with _ | x
  · obtain ⟨q1, q2, q3, q4, q5⟩ := h
    have q1 : gv τ 11 15 = nI k := q1
    have q4 : gv τ 11 16 = nI (P j) := q4
    rw [q1, q4]
    exact ⟨fun c => absurd ((nI_eq (b := 0) (by omega) (by decide)).mp c) q2, fun _ => ⟨fun _ => hQ, fun _ => ⟨fun _ => ⟨fun c => absurd c (nI_nlt (Nat.le_refl _) (by omega)), fun _ => hQ⟩, fun c => absurd rfl c⟩⟩⟩
  · obtain ⟨q1, q2, q3, q4, q5⟩ := h
    have lt := hT.2.2.2.2.2.1 x.2 j (hb x rfl) hj
    rw [q1, q4]
    exact ⟨fun c => absurd ((nI_eq (b := 0) (by omega) (by decide)).mp c) q2, fun _ => ⟨fun _ => hQ, fun c => absurd (nI_lt lt.1 (by omega)) c⟩⟩
/-- an act: heading, rules, end -/
def acP (K : Nat → Nat) (V : Nat → Int32) (NM : Nat → List Nat) (nms : List (List Nat)) (nr i : Nat) (lt : Lt) : Rs ((List Nat × Int32 × Int32) × List Ru × Lt) := (hdP K V NM nms i lt).bd fun j h => (rsP K V nms.length h.1.2.1 h.1.2.2 31 nr j h.2).bd fun k x => (tkP K 19 k).bd fun l _ => .ok l (h.1, x.1, x.2)
section AM
variable {σ : St} {K P : Nat → Nat} {V : Nat → Int32} {NM : Nat → List Nat} {M CB NB : Nat} {Q : St → Prop}
theorem r254F {f k : Nat} {τ : St} (F : FlM P f k τ) (hQ : Q τ) : wX12_tellAct_254 Q τ := mustF F hQ
theorem rulesM {a : Nat} {fr un : Int32} (hT : TkM σ K P V NM M) : ∀ (f nr i C NR : Nat) (lt : Lt) (τ : St), 31 ≤ nr + f → 1 ≤ i → CnM σ M CB NB i C NR τ → nr ≤ 30 → gv τ 11 24 = nI nr → LtM P i τ lt →
    (∀ l rs lt' τ' C' NR', (rsP K V a fr un f nr i lt).bd (fun k x => (tkP K 19 k).bd fun l _ => .ok l x) = .ok l (rs, lt') → CnM σ M CB NB l C' NR' τ' → i < l → gv τ' 11 24 = nI (nr + rs.length) → nr + rs.length ≤ 30 → NR ≤ NR' → C ≤ C' → (∀ q r, rs[q]? = some r → RuMt NR' C' (nr + q) r τ') → LtM P l τ' lt' → Fm (xRm nr NR C) τ τ' → Q τ') →
    (∀ g k τ', (rsP K V a fr un f nr i lt).bd (fun k x => (tkP K 19 k).bd fun l _ => .ok l x) = (.no g k : Rs (List Ru × Lt)) → FlM P g k τ' → Fm (xRm nr NR C) τ τ' → Q τ') → wX12_tellAct_230 Q (f + 2) (nI a) τ := by
  intro f
  induction f with
  | zero => intro nr i C NR lt τ hf _ _ hn; exact absurd hf (by omega)
  | succ f ih =>
    intro nr i C NR lt τ hf hi1 h hn eR hL hok hno
    have A := h.1
    rw [wX12_tellAct_230]
    refine ⟨fun _ => isM (k := 19) hT A (by decide) rfl (fun hk => ⟨z11, fun _ => ?_⟩) (fun hk => ⟨fun _ => ?_, fun c => absurd rfl c⟩), fun c => absurd A.2.2.2 c⟩
    · have hp : rsP K V a fr un (f + 1) nr i lt = .ok i ([], lt) := by rw [rsP, if_neg (by omega)]
      refine mustM (k := 19) hT A (by decide) (by decide) rfl (fun τ1 _ hi ht A1 f1 => ?_) (fun g τ1 ht F1 f1 => hno g i τ1 (by rw [hp, bd_o, ht, bd_n]) F1 (f1.mono (fun _ _ q => xTm_Rm q)))
      exact hok (i + 1) [] lt τ1 C NR (by rw [hp, bd_o, ht, bd_o]) (h.tm A1 f1) (by omega) ((f1.2 11 24 rfl).trans eR) hn (Nat.le_refl _) (Nat.le_refl _) (fun q r hq => by cases hq) (hL.fm f1 rfl rfl (by omega)) (f1.mono (fun _ _ q => xTm_Rm q))
    · by_cases hk2 : K i = 23 ∨ K i = 24
      · have hp : rsP K V a fr un (f + 1) nr i lt = (ruP K V a fr un nr i lt).bd fun j x => (rsP K V a fr un f (nr + 1) j x.2).bd fun k y => .ok k (x.1 :: y.1, y.2) := by rw [rsP, if_pos hk2]
        refine ruleM (fr := fr) (un := un) hT hi1 h hk2 hn eR hL (fun j x τ1 C1 NR1 hr X1 hij e24 hn1 hN1 hC1 R1 L1 f1 => ?_) (fun g k τ1 hr F1 f1 => ⟨fun c => absurd c F1.ne.1, fun _ => r254F F1 (hno g k τ1 (by rw [hp, hr, bd_n, bd_n]) F1 f1)⟩)
        have bb : ∀ y : Rs (List Ru × Lt), rsP K V a fr un f (nr + 1) j x.2 = y → (rsP K V a fr un (f + 1) nr i lt).bd (fun k x => (tkP K 19 k).bd fun l _ => .ok l x) = y.bd (fun k z => (tkP K 19 k).bd fun l _ => (.ok l (x.1 :: z.1, z.2) : Rs (List Ru × Lt))) := by
          intro y hy
          rw [hp, hr, bd_o, hy]
          rcases y with ⟨p, q⟩ | ⟨p, q⟩ <;> rfl
        refine ih (nr + 1) j C1 NR1 x.2 τ1 (by omega) (by omega) X1 (by omega) e24 L1 (fun l rs lt' τ2 C2 NR2 hs X2 hl e2 hn2 hN2 hC2 R2 L2 f2 => ?_) (fun g k τ2 hs F2 f2 => ?_)
        · rcases hy : rsP K V a fr un f (nr + 1) j x.2 with ⟨p, q⟩ | ⟨p, q⟩
          · rw [hy] at hs
            cases hs
          · rw [hy] at hs
            obtain ⟨l', u, ht, h3⟩ := bd_ok (show (tkP K 19 p).bd (fun l _ => .ok l q) = .ok l (rs, lt') from hs)
            cases h3
            refine hok l (x.1 :: rs) lt' τ2 C2 NR2 ?_ X2 (by omega) (by rw [List.length_cons, show nr + (rs.length + 1) = nr + 1 + rs.length by omega]; exact e2) (by rw [List.length_cons]; omega) (by omega) (by omega) (fun q r hq => ?_) L2 (f1.tr (f2.mono (fun _ _ q => xRm_le (by omega) hN1 hC1 q)))
            · rw [bb _ hy, bd_o, ht, bd_o]
            · cases q with
              | zero =>
                have : x.1 = r := by simpa using hq
                rw [← this]
                exact R1.kp hN2 hC2 (fun a' h1 h2 => f2.2 a' nr (xRm_no (by omega) (by omega) (by omega) (by omega) (by omega))) (fun a' j' h1 h2 hj' => f2.2 a' j' (xRm_no (by omega) (by omega) (by omega) (by omega) (by omega))) (fun a' j' h1 hj' => f2.2 a' j' (xRm_no (by omega) (by omega) (by omega) (by omega) (by omega)))
              | succ q =>
                have := R2 q r (by simpa using hq)
                rwa [show nr + 1 + q = nr + (q + 1) by omega] at this
        · refine hno g k τ2 ?_ F2 (f1.tr (f2.mono (fun _ _ q => xRm_le (by omega) hN1 hC1 q)))
          rcases hy : rsP K V a fr un f (nr + 1) j x.2 with ⟨p, q⟩ | ⟨p, q⟩
          · rw [bb _ hy]
            rw [hy] at hs
            exact hs
          · rw [bb _ hy, bd_o]
            rw [hy] at hs
            have hs : (tkP K 19 p).bd (fun l _ => (.ok l q : Rs (List Ru × Lt))) = .no g k := hs
            rcases ht : tkP K 19 p with ⟨p', q'⟩ | ⟨p', q'⟩
            · rw [ht] at hs
              exact hs
            · rw [ht] at hs
              cases hs
      · have hp : rsP K V a fr un (f + 1) nr i lt = .ok i ([], lt) := by rw [rsP, if_neg hk2]
        have l40 : wX12_fail (1 : Int32) τ (fun σ8 => wX12_tellRule_40 (fun σ6 => wX12_tellAct_230 Q (f + 2) (nI a) σ6) (nI a) σ8) := failM (f := 1) hT A (Or.inl rfl) rfl (fun τ1 f1 _ F1 => ⟨fun c => absurd c F1.ne.2, fun _ => ⟨fun c => absurd c F1.ne.1, fun _ => r254F F1 (hno 1 i τ1 (by rw [hp, bd_o]; unfold tkP; rw [if_neg hk, bd_n]) F1 (f1.mono (fun _ _ q => xTm_Rm q)))⟩⟩)
        exact isM (k := 23) hT A (by decide) rfl (fun e => absurd (Or.inl e) hk2) (fun _ => ⟨fun _ => isM (k := 24) hT A (by decide) rfl (fun e => absurd (Or.inr e) hk2) (fun _ => ⟨fun _ => l40, fun c => absurd rfl c⟩), fun c => absurd rfl c⟩)
end AM
