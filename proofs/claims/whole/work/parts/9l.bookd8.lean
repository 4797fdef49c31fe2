/-! read: the class's whole text. -/
theorem Hx.fx {A R C : Nat} {σ τ : St} (h : Hx A σ τ) : Fx A R C σ τ := by
  refine ⟨fun a j q => ?_, h.2.1, h.2.2⟩
  unfold xTx xRu xEm xTk at q
  simp only [Bool.or_eq_false_iff, Bool.and_eq_false_iff, decide_eq_false_iff_not, beq_eq_false_iff_ne] at q
  exact h.1 a j (by omega) (by omega) (by omega)
section BL
variable {σ : St} {K P : Nat → Nat} {V : Nat → Int32} {NM : Nat → List Nat} {M : Nat}
theorem xTx_no {A R C a j : Nat} (h : a ≠ 5) (h2 : a = 8 → j ≠ 4 ∧ j ≠ 3 ∧ j ≠ 2) (h3 : a = 36 → j < C) (h4 : 27 ≤ a → a ≤ 32 → j < R) (h5 : a = 34 ∨ a = 35 → j < A) : xTx A R C a j = false := by
  unfold xTx
  rw [xRu_no h (fun q => ⟨(h2 q).1, (h2 q).2.1⟩) h3 h4]
  simp only [Bool.or_eq_false_iff, Bool.and_eq_false_iff, decide_eq_false_iff_not, beq_eq_false_iff_ne]
  exact ⟨⟨trivial, by omega⟩, by omega⟩
theorem AcAt.kp {A R C a : Nat} {x : List Nat × Int32 × Int32} {τ τ' : St} (h : AcAt a x τ) (f : Fx A R C τ τ') (ha : a < A) : AcAt a x τ' :=
  ⟨h.1, (f.2.1 33 a (fun _ => ha)).trans h.2.1, (f.1 34 a (xTx_no (by decide) (by omega) (by omega) (by omega) (by omega))).trans h.2.2.1, (f.1 35 a (xTx_no (by decide) (by omega) (by omega) (by omega) (by omega))).trans h.2.2.2⟩
theorem RuAt.fx {A R C C' i : Nat} {r : Ru} {τ τ' : St} (h : RuAt C i r τ) (f : Fx A R C τ τ') (hi : i < R) (hC : C ≤ C') : RuAt C' i r τ' :=
  h.kp hC (fun a h1 h2 => f.1 a i (xTx_no (by omega) (by omega) (by omega) (by omega) (by omega))) (fun j hj => f.1 36 j (xTx_no (by decide) (by omega) (by omega) (by omega) (by omega)))
theorem text84D {i : Nat} {τ : St} {Q : Int32 → St → Prop} (hT : TkD σ K P V NM M) (A0 : AtD σ M i τ) (h1 : K i = 0 → Q 1 τ) (h0 : ∀ τ', K i ≠ 0 → FlD P 1 i τ' → Fm xTk τ τ' → Q 0 τ') : wX0_text_84 Q τ := by
  have hK := hT.2.2.2.1.1 i
  exact kindD hT A0 ⟨fun c => h1 ((nI_eq (b := 0) (by omega) (by decide)).mp c), fun c => h0 τ (fun e => c (by rw [e]; rfl)) (A0.no hT) Fm.rf⟩
theorem textD {Q : Int32 → St → Prop} (hT : TkD σ K P V NM M) : ∀ (f b : Nat) (nms : List (List Nat)) (nr i C : Nat) (lt : Lt) (τ : St), b + f = 11 → PrD σ M i C τ → nms.length ≤ 10 → NmD nms τ → gv τ 8 2 = nI nms.length → gv τ 8 3 = nI nr → nr ≤ 30 → LtD P τ lt →
    (∀ z acts rules lt' τ' C', txP K V NM f nms nr i lt = .ok z (acts, rules, lt') → AtD σ M z τ' → gv τ' 8 2 = nI (nms.length + acts.length) → gv τ' 8 3 = nI (nr + rules.length) → gv τ' 8 4 = nI C' → C ≤ C' → C' + i ≤ C + z → (∀ q x, acts[q]? = some x → AcAt (nms.length + q) x τ') → (∀ q r, rules[q]? = some r → RuAt C' (nr + q) r τ') → LtD P τ' lt' → Fx nms.length nr C τ τ' → Q 1 τ') →
    (∀ g k τ', txP K V NM f nms nr i lt = .no g k → FlD P g k τ' → Fx nms.length nr C τ τ' → Q 0 τ') → wX0_text_2 Q (f + 1) (nI b) τ := by
  intro f
  induction f with
  | zero =>
    intro b nms nr i C lt τ hb h hA hN eA eR hn hL hok hno
    refine ⟨fun _ => text84D hT h.1 (fun k0 => ?_) (fun τ1 k0 F1 f1 => hno 1 i τ1 (by rw [txP, if_neg k0]) F1 (Fx.tk f1)), fun c => absurd (nI_lt (a := 10) (by omega) (by omega)) c⟩
    exact hok i [] [] lt τ C (by rw [txP, if_pos k0]) h.1 eA eR h.2.1 (Nat.le_refl _) (by omega) (fun q x hq => by cases hq) (fun q r hq => by cases hq) hL Fx.rf
  | succ f ih =>
    intro b nms nr i C lt τ hb h hA hN eA eR hn hL hok hno
    have hK := hT.2.2.2.1.1 i
    rw [wX0_text_2]
    refine ⟨fun c => absurd c (nI_nlt (a := 10) (by omega) (by decide)), fun _ => kindD hT h.1 ⟨fun c => ?_, fun c => ?_⟩⟩
    · have hk : K i = 16 := (nI_eq (b := 16) (by omega) (by decide)).mp c
      have hp : txP K V NM (f + 1) nms nr i lt = (hdP K V NM nms i lt).bd fun j h => (rsP K V nms.length h.1.2.1 h.1.2.2 31 nr j h.2).bd fun k x => (tkP K 19 k).bd fun l _ => (txP K V NM f (nms ++ [h.1.1]) (nr + x.1.length) l x.2).bd fun z y => .ok z (h.1 :: y.1, x.1 ++ y.2.1, y.2.2) := by rw [txP, if_pos hk]
      refine headingD hT h.1 hA eA hN hL (fun j x lt1 τ1 hh hA1 A1 e1 X1 L1 f1 => ⟨z11, fun _ => ⟨32, ?_⟩⟩) (fun g k τ1 hh F1 f1 => ⟨fun _ => hno g k τ1 (by rw [hp, hh, bd_n]) F1 f1.fx, fun c => absurd rfl c⟩)
      have hij : i < j := by
        unfold hdP at hh
        rw [if_neg (by omega)] at hh
        obtain ⟨_, _, h1, h2⟩ := bd_ok hh
        obtain ⟨_, _, h3, h4⟩ := bd_ok h2
        obtain ⟨_, _, h5, h6⟩ := bd_ok h4
        unfold fuP at h6
        obtain ⟨m, _, h7, h8⟩ := bd_ok h6
        have t1 := tk_ok h1
        have t2 := tk_ok h3
        have t3 := tk_ok h5
        have t4 := tk_ok h7
        by_cases z : K m = 18
        · rw [if_pos z] at h8
          obtain ⟨_, _, h9, h10⟩ := bd_ok h8
          obtain ⟨_, _, h11, h12⟩ := bd_ok h10
          obtain ⟨_, _, h13, h14⟩ := bd_ok h12
          cases h14
          have t5 := tk_ok h9
          have t6 := tk_ok h11
          have t7 := tk_ok h13
          omega
        · rw [if_neg z] at h8
          obtain ⟨_, _, h13, h14⟩ := bd_ok h8
          cases h14
          have t7 := tk_ok h13
          omega
      have hsl := h.2.2.1
      have fx1 : Fx nms.length nr C τ τ1 := f1.fx
      have e84' : gv τ1 8 4 = nI C := (f1.1 8 4 (by omega) (by omega) (by omega)).trans h.2.1
      have e83' : gv τ1 8 3 = nI nr := (f1.1 8 3 (by omega) (by omega) (by omega)).trans eR
      have P1 : PrD σ M j C τ1 := ⟨A1, e84', by rw [f1.2.2]; omega, by rw [f1.2.2]; exact h.2.2.2⟩
      refine rulesD (fr := x.2.1) (un := x.2.2) hT 31 0 nr j C lt1 τ1 (by omega) P1 e1 e83' hn L1 (fun k rs lt2 τ2 C2 hs A2 e5 hn2 e6 hC3 hC4 R2 L2 f2 => ?_) (fun g k τ2 hs F2 f2 => hno g k τ2 (by rw [hp, hh, bd_o, hs, bd_n]) F2 (fx1.tr (Fx.of f2) (Nat.le_refl _) (Nat.le_refl _) (Nat.le_refl _)))
      have fx2 : Fx nms.length nr C τ τ2 := fx1.tr (Fx.of f2) (Nat.le_refl _) (Nat.le_refl _) (Nat.le_refl _)
      have hp2 : txP K V NM (f + 1) nms nr i lt = (tkP K 19 k).bd fun l _ => (txP K V NM f (nms ++ [x.1]) (nr + rs.length) l lt2).bd fun z y => .ok z (x :: y.1, rs ++ y.2.1, y.2.2) := by rw [hp, hh, bd_o, hs, bd_o]
      refine takeD (k := 19) hT A2 (by decide) (by decide) (fun τ3 _ hi ht A3 f3 => ⟨z11, fun _ => ?_⟩) (fun g τ3 ht F3 f3 => ⟨fun _ => hno g k τ3 (by rw [hp2, ht, bd_n]) F3 (fx2.tr (Fx.tk f3) (Nat.le_refl _) (Nat.le_refl _) (Nat.le_refl _)), fun c => absurd rfl c⟩)
      have fx3 : Fx nms.length nr C τ τ3 := fx2.tr (Fx.tk f3) (Nat.le_refl _) (Nat.le_refl _) (Nat.le_refl _)
      rintro x1 rfl
      rw [nI_1]
      have ln : (nms ++ [x.1]).length = nms.length + 1 := by rw [List.length_append, List.length_singleton]
      have X3 : AcAt nms.length x τ3 := by
        have q2 : AcAt nms.length x τ2 := X1.kp (A := nms.length + 1) (R := nr) (C := C) (Fx.of f2) (by omega)
        exact q2.kp (A := nms.length + 1) (R := nr) (C := C) (Fx.tk f3) (by omega)
      have N3 : NmD (nms ++ [x.1]) τ3 := by
        intro a l hl
        by_cases q : a < nms.length
        · rw [List.getElem?_append_left q] at hl
          exact ⟨(hN a l hl).1, (fx3.2.1 33 a (fun _ => q)).trans (hN a l hl).2⟩
        · rw [List.getElem?_append_right (by omega)] at hl
          have ha : a - nms.length = 0 := by
            by_cases z : a - nms.length = 0
            · exact z
            · obtain ⟨y, hy⟩ : ∃ y, a - nms.length = y + 1 := ⟨a - nms.length - 1, by omega⟩
              rw [hy] at hl
              cases hl
          rw [ha] at hl
          cases hl
          rw [show a = nms.length by omega]
          exact ⟨X3.1, X3.2.1⟩
      have P3 : PrD σ M (k + 1) C2 τ3 := ⟨A3, (f3.2 8 4 rfl).trans e6, by rw [fx3.2.2]; omega, by rw [fx3.2.2]; exact h.2.2.2⟩
      have e82' : gv τ3 8 2 = nI (nms ++ [x.1]).length := by
        rw [ln, f3.2 8 2 rfl, f2.2 8 2 (xRu_no (by decide) (by decide) (by omega) (by omega))]
        exact e1
      refine ih (b + 1) (nms ++ [x.1]) (nr + rs.length) (k + 1) C2 lt2 τ3 (by omega) P3 (by rw [ln]; omega) N3 e82' ((f3.2 8 3 rfl).trans e5) hn2 (L2.fm f3 rfl rfl) (fun z acts rules lt3 τ4 C4 hz A4 m1 m2 m3 m4 m5 m6 m7 L4 f4 => ?_) (fun g q τ4 hz F4 f4 => hno g q τ4 (by rw [hp2, ht, bd_o, hz, bd_n]) F4 (fx3.tr f4 (by rw [ln]; omega) (by omega) hC3))
      refine hok z (x :: acts) (rs ++ rules) lt3 τ4 C4 (by rw [hp2, ht, bd_o, hz, bd_o]) A4 (by rw [m1, ln, List.length_cons]; congr 1; omega) (by rw [m2, List.length_append]; congr 1; omega) m3 (by omega) (by omega) (fun q y hq => ?_) (fun q y hq => ?_) L4 (fx3.tr f4 (by rw [ln]; omega) (by omega) hC3)
      · cases q with
        | zero =>
          have : x = y := by simpa using hq
          rw [← this]
          exact X3.kp f4 (by rw [ln]; omega)
        | succ q =>
          have := m6 q y (by simpa using hq)
          rwa [ln, show nms.length + 1 + q = nms.length + (q + 1) by omega] at this
      · by_cases c3 : q < rs.length
        · rw [List.getElem?_append_left c3] at hq
          have r3 : RuAt C2 (nr + q) y τ3 := (R2 q y hq).kp (Nat.le_refl _) (fun a h1 h2 => f3.2 a _ (xTk_no (by omega))) (fun j' _ => f3.2 36 j' rfl)
          exact r3.fx f4 (by omega) m4
        · rw [List.getElem?_append_right (by omega)] at hq
          have := m7 (q - rs.length) y hq
          rwa [show nr + rs.length + (q - rs.length) = nr + q by omega] at this
    · have hk : ¬ K i = 16 := fun e => c (by rw [e]; rfl)
      refine text84D hT h.1 (fun k0 => ?_) (fun τ1 k0 F1 f1 => hno 1 i τ1 (by rw [txP, if_neg hk, if_neg k0]) F1 (Fx.tk f1))
      exact hok i [] [] lt τ C (by rw [txP, if_neg hk, if_pos k0]) h.1 eA eR h.2.1 (Nat.le_refl _) (by omega) (fun q x hq => by cases hq) (fun q r hq => by cases hq) hL Fx.rf
end BL
