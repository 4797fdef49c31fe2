/-! read: the reference. -/
theorem bits255 : ∀ i, i < 32 → (255#32).getLsbD i = decide (i < 8) := by decide
theorem nar255 (x : Int32) : vp_nar .byte x &&& 255 = x &&& 255 := by
  rw [vp_nar_byte]
  apply Int32.toBitVec_inj.mp
  rw [Int32.toBitVec_and, Int32.toBitVec_and]
  apply BitVec.eq_of_getLsbD_eq
  intro i hi
  rw [BitVec.getLsbD_and, BitVec.getLsbD_and, show (255 : Int32).toBitVec = 255#32 from rfl, bits255 i hi]
  by_cases h : i < 8
  · rw [decide_eq_true h, Bool.and_true, Bool.and_true]
    rw [Int8.toBitVec_toInt32, Int32.toBitVec_toInt8]
    rw [BitVec.getLsbD_signExtend, if_pos h, BitVec.getLsbD_signExtend, if_pos hi]
    simp [h, hi]
  · rw [decide_eq_false h, Bool.and_false, Bool.and_false]
def xRf (A R NR C a j : Nat) : Bool := a == 49 || a == 50 || a == 51 || a == 52 || a == 72 || ((a == 56 || a == 57) && decide (A ≤ j)) || (decide (58 ≤ a) && decide (a ≤ 64) && decide (R ≤ j)) || (decide (65 ≤ a) && decide (a ≤ 69) && decide (NR ≤ j)) || ((a == 70 || a == 71) && decide (C ≤ j)) || (a == 11 && (j == 2 || j == 4 || j == 10 || j == 11 || j == 12 || j == 13 || j == 14 || j == 15 || j == 16 || j == 17 || j == 18 || j == 19 || j == 23 || j == 24 || j == 32 || j == 38 || j == 42 || j == 66))
def RfF (A R NR C : Nat) (σ τ : St) : Prop := (∀ a j, xRf A R NR C a j = false → gv τ a j = gv σ a j) ∧ (∀ a j, a ≠ 53 → (a = 55 → j < A) → gw τ a j = gw σ a j) ∧ gn τ = gn σ
theorem readM {υ : St} {ch : Nat → Int32} {L A R NR C : Nat} {nms : List (List Nat)} {Q : Int32 → St → Prop} (hch : ∀ q, ch q ≠ -1) (eL : gv υ 11 2 = nI L) (hL : L ≤ 2000) (hc : ∀ q, q < L → gv υ 48 q &&& 255 = ch q) (h54 : gw υ 54 = s0k) (eA : gv υ 11 18 = nI A) (eR : gv υ 11 23 = nI R) (eN : gv υ 11 32 = nI NR) (eC : gv υ 11 38 = nI C) (hA : A ≤ 10) (hR : R ≤ 30) (hN6 : NR ≤ 6000) (hC6 : C ≤ 6000) (hnl : nms.length = A) (hN : NmM nms υ)
    (hno : ∀ g k ω, txP (tkK ch L) (tkV ch L) (tkN ch L) 11 nms R 0 none = .no g k → RfF A R NR C υ ω → gv ω 11 2 = 0 → gv ω 11 17 = nI (tkp ch L k) → gv ω 11 18 = nI A → gv ω 11 23 = nI R → gv ω 11 32 = nI NR → gv ω 11 38 = nI C → gv ω 11 66 = gv υ 11 66 → Q (nI g) ω)
    (hlt : ∀ z acts rules k j ω, txP (tkK ch L) (tkV ch L) (tkN ch L) 11 nms R 0 none = .ok z (acts, rules, some (k, j)) → RfF A R NR C υ ω → gv ω 11 2 = 0 → gv ω 11 17 = nI (tkp ch L j) → gv ω 11 18 = nI A → gv ω 11 23 = nI R → gv ω 11 32 = nI NR → gv ω 11 38 = nI C → gv ω 11 66 = gv υ 11 66 → Q (nI k) ω)
    (hok : ∀ z acts rules ω C' NR', txP (tkK ch L) (tkV ch L) (tkN ch L) 11 nms R 0 none = .ok z (acts, rules, none) → RfF A R NR C υ ω → gv ω 11 2 = 0 → gv ω 11 17 = -1 → gv ω 11 18 = nI (A + acts.length) → gv ω 11 23 = nI (R + rules.length) → gv ω 11 32 = nI NR' → gv ω 11 38 = nI C' → gv ω 11 66 = -1 → NR ≤ NR' → NR' ≤ NR + z → C ≤ C' → C' ≤ C + z → z ≤ 600 → (∀ q x, acts[q]? = some x → AcMt (A + q) x ω) → (∀ q r, rules[q]? = some r → RuMt NR' C' (R + q) r ω) → Q 0 ω) : wX12_read υ Q := by
  obtain ⟨_, hM6, hMe, hMl⟩ := mx_sp (ch := ch) (L := L) 600 0
  have hpl : ∀ i, i ≤ mxF ch L 600 0 → tkp ch L i ≤ L := fun i hi => tkp_le hch i (fun k hk => hMl k (by omega) (by omega))
  rw [wX12_read, eL]
  rintro s1 rfl
  have f1 : Fm (fun a j => a == 49 || (a == 11 && j == 4)) υ (pv υ 11 4 (nI L)) := Fm_pv (by simp)
  have rest : ∀ s2 : St, Fm (fun a j => a == 49 || (a == 11 && j == 4)) υ s2 → gv s2 11 4 = nI L → (∀ q, q < L → gv s2 49 q &&& 255 = ch q) → ∀ σ2 : St, σ2 = pv s2 11 2 (0 : Int32) → wX12_cut σ2 (fun (σ4 : St) => ∀ σ5 : St, σ5 = pv σ4 11 11 (0 : Int32) → ∀ σ6 : St, σ6 = pv σ5 11 12 (0 : Int32) → ∀ σ7 : St, σ7 = pv σ6 11 13 (0 : Int32) → ∀ σ8 : St, σ8 = pv σ7 11 15 (0 : Int32) → ∀ σ9 : St, σ9 = pv σ8 11 19 (gv σ8 11 18) → ∀ σ10 : St, σ10 = pv σ9 11 24 (gv σ9 11 23) → ∀ x1_11 : Int32, x1_11 = gv σ10 11 32 → ∀ x2_12 : Int32, x2_12 = gv σ10 11 38 → ∃ j : Nat, wX12_read_91 Q j x1_11 x2_12 σ10) := by
    intro s2 f2 e4 h49
    rintro σ2 rfl
    have e4' : gv (pv s2 11 2 0) 11 4 = nI L := by rw [gv_pv, if_neg (by decide)]; exact e4
    refine cutM (ch := ch) hch e4' hL (fun q hq => by rw [gv_pv, if_neg (by omega)]; exact h49 q hq) (show gw s2 54 = s0k from f2.gw.trans h54) (fun s4 T fc tk hTM => ?_)
    have v4 : ∀ a j, a ≠ 49 → a ≠ 50 → a ≠ 51 → a ≠ 52 → (a = 11 → j ≠ 2 ∧ j ≠ 4 ∧ j ≠ 10) → gv s4 a j = gv υ a j := fun a j h1 h2 h3 h4 h5 => by
      rw [fc.1 a j h2 h3 h4 (by omega), gv_pv, if_neg (by omega)]
      exact f2.2 a j (by simp; omega)
    have w4 : ∀ a j, a ≠ 53 → gw s4 a j = gw υ a j := fun a j h => by
      rw [fc.2.1 a j h]
      exact congrFun f2.gw j
    have g4 : gn s4 = gn υ := fc.2.2.trans f2.gn
    have z2 : gv s4 11 2 = 0 := by
      rw [fc.1 11 2 (by decide) (by decide) (by decide) (by decide), gv_pv, if_pos ⟨rfl, rfl⟩]
    rintro σ5 rfl σ6 rfl σ7 rfl σ8 rfl
    have a18 : gv (pv (pv (pv (pv s4 11 11 0) 11 12 0) 11 13 0) 11 15 0) 11 18 = nI A := by
      rw [gv_pv, if_neg (by decide), gv_pv, if_neg (by decide), gv_pv, if_neg (by decide), gv_pv, if_neg (by decide), v4 11 18 (by decide) (by decide) (by decide) (by decide) (by decide)]
      exact eA
    rw [a18]
    rintro σ9 rfl
    have a23 : gv (pv (pv (pv (pv (pv s4 11 11 0) 11 12 0) 11 13 0) 11 15 0) 11 19 (nI A)) 11 23 = nI R := by
      rw [gv_pv, if_neg (by decide), gv_pv, if_neg (by decide), gv_pv, if_neg (by decide), gv_pv, if_neg (by decide), gv_pv, if_neg (by decide), v4 11 23 (by decide) (by decide) (by decide) (by decide) (by decide)]
      exact eR
    rw [a23]
    intro s10 e10
    have v10 : ∀ a j, (a = 11 → j ≠ 11 ∧ j ≠ 12 ∧ j ≠ 13 ∧ j ≠ 15 ∧ j ≠ 19 ∧ j ≠ 24) → gv s10 a j = gv s4 a j := fun a j h => by
      rw [e10, gv_pv, if_neg (by omega), gv_pv, if_neg (by omega), gv_pv, if_neg (by omega), gv_pv, if_neg (by omega), gv_pv, if_neg (by omega), gv_pv, if_neg (by omega)]
    have w10 : ∀ a j, gw s10 a j = gw s4 a j := fun a j => by rw [e10]; rfl
    have g10 : gn s10 = gn υ := by rw [e10]; exact g4
    have b11 : gv s10 11 11 = 0 := by rw [e10, gv_pv, if_neg (by decide), gv_pv, if_neg (by decide), gv_pv, if_neg (by decide), gv_pv, if_neg (by decide), gv_pv, if_neg (by decide), gv_pv, if_pos ⟨rfl, rfl⟩]
    have b12 : gv s10 11 12 = 0 := by rw [e10, gv_pv, if_neg (by decide), gv_pv, if_neg (by decide), gv_pv, if_neg (by decide), gv_pv, if_neg (by decide), gv_pv, if_pos ⟨rfl, rfl⟩]
    have b13 : gv s10 11 13 = 0 := by rw [e10, gv_pv, if_neg (by decide), gv_pv, if_neg (by decide), gv_pv, if_neg (by decide), gv_pv, if_pos ⟨rfl, rfl⟩]
    have b15 : gv s10 11 15 = 0 := by rw [e10, gv_pv, if_neg (by decide), gv_pv, if_neg (by decide), gv_pv, if_pos ⟨rfl, rfl⟩]
    have b19 : gv s10 11 19 = nI A := by rw [e10, gv_pv, if_neg (by decide), gv_pv, if_pos ⟨rfl, rfl⟩]
    have b24 : gv s10 11 24 = nI R := by rw [e10, gv_pv, if_pos ⟨rfl, rfl⟩]
    have b32 : gv s10 11 32 = nI NR := by
      rw [v10 11 32 (by omega), v4 11 32 (by decide) (by decide) (by decide) (by decide) (by omega)]
      exact eN
    have b38 : gv s10 11 38 = nI C := by
      rw [v10 11 38 (by omega), v4 11 38 (by decide) (by decide) (by decide) (by decide) (by omega)]
      exact eC
    rw [b32, b38]
    rintro x1 rfl x2 rfl
    have hT : TkM s10 (tkK ch L) (tkp ch L) (tkV ch L) (tkN ch L) (mxF ch L 600 0) := by
      refine ⟨by omega, ?_, fun i hi => ?_, OkT_lx, fun i hk => okN_lx hk, fun i j h1 h2 => ⟨tkp_mono h1, by have := hpl j h2; omega⟩, fun j h2 => by have := hpl j h2; omega⟩
      · rcases hMe with q | q
        · exact Or.inl (by omega)
        · exact Or.inr q
      · obtain ⟨t1, t2, t3, t4⟩ := tk i (by omega)
        exact ⟨(v10 50 i (by omega)).trans t1, (v10 51 i (by omega)).trans t2, fun q => (v10 52 i (by omega)).trans (t3 q), fun q => (w10 53 i).trans (t4 q)⟩
    have C0 : CnM s10 (mxF ch L 600 0) (C + 600) (NR + 600) 0 C NR s10 := ⟨⟨⟨rfl, rfl, rfl, rfl⟩, b11, by omega, b13⟩, b12, b38, by omega, by omega, b32, by omega, by omega⟩
    have N0 : NmM nms s10 := fun a l hl => ⟨(hN a l hl).1, by rw [w10, w4 55 a (by decide)]; exact (hN a l hl).2⟩
    have fr : ∀ τ, Fy nms.length R NR C s10 τ → ∀ ω, (∀ a j, (a = 11 → j ≠ 17 ∧ j ≠ 18 ∧ j ≠ 23 ∧ j ≠ 32 ∧ j ≠ 38 ∧ j ≠ 66) → gv ω a j = gv τ a j) → (∀ a j, gw ω a j = gw τ a j) → gn ω = gn τ → RfF A R NR C υ ω ∧ gv ω 11 2 = 0 := by
      intro τ f ω u1 u2 u3
      have yx : ∀ a j, (a = 11 → j = 2 ∨ j = 66 ∨ j = 18 ∨ j = 23) → a ≠ 72 → (a = 70 ∨ a = 71 → j < C) → (65 ≤ a → a ≤ 69 → j < NR) → (58 ≤ a → a ≤ 64 → j < R) → (a = 56 ∨ a = 57 → j < nms.length) → xTy nms.length R NR C a j = false := fun a j q1 q2 q3 q4 q5 q6 => by
        unfold xTy xRm xCd xEx
        simp only [Bool.or_eq_false_iff, Bool.and_eq_false_iff, decide_eq_false_iff_not, beq_eq_false_iff_ne]
        omega
      refine ⟨⟨fun a j q => ?_, fun a j q1 q2 => ?_, by rw [u3, f.2.2, g10]⟩, ?_⟩
      · unfold xRf at q
        simp only [Bool.or_eq_false_iff, Bool.and_eq_false_iff, decide_eq_false_iff_not, beq_eq_false_iff_ne] at q
        have hy : xTy nms.length R NR C a j = false := by
          rw [hnl]
          unfold xTy xRm xCd xEx
          simp only [Bool.or_eq_false_iff, Bool.and_eq_false_iff, decide_eq_false_iff_not, beq_eq_false_iff_ne]
          omega
        rw [u1 a j (by omega), f.1 a j hy, v10 a j (by omega), v4 a j (by omega) (by omega) (by omega) (by omega) (by omega)]
      · rw [u2, f.2.1 a j (by rw [hnl]; exact q2), w10, w4 a j q1]
      · rw [u1 11 2 (by omega), f.1 11 2 (yx 11 2 (by omega) (by omega) (by omega) (by omega) (by omega) (by omega)), v10 11 2 (by omega)]
        exact z2
    have tcell : ∀ τ, Fy nms.length R NR C s10 τ → gv τ 11 18 = nI A ∧ gv τ 11 23 = nI R ∧ gv τ 11 66 = gv υ 11 66 := by
      intro τ f
      have hy : ∀ j, (j = 18 ∨ j = 23 ∨ j = 66) → xTy nms.length R NR C 11 j = false := fun j hj => by
        rcases hj with rfl | rfl | rfl <;> rfl
      refine ⟨?_, ?_, ?_⟩
      · rw [f.1 11 18 (hy 18 (by omega)), v10 11 18 (by omega), v4 11 18 (by decide) (by decide) (by decide) (by decide) (by omega)]
        exact eA
      · rw [f.1 11 23 (hy 23 (by omega)), v10 11 23 (by omega), v4 11 23 (by decide) (by decide) (by decide) (by decide) (by omega)]
        exact eR
      · rw [f.1 11 66 (hy 66 (by omega)), v10 11 66 (by omega), v4 11 66 (by decide) (by decide) (by decide) (by decide) (by omega)]
    have bad : ∀ (τ : St) (x : Int32) (P0 : Nat), Fy nms.length R NR C s10 τ → P0 < 2 ^ 30 → x = nI P0 → (∀ ω, RfF A R NR C υ ω → gv ω 11 2 = 0 → gv ω 11 17 = nI P0 → gv ω 11 18 = nI A → gv ω 11 23 = nI R → gv ω 11 32 = nI NR → gv ω 11 38 = nI C → gv ω 11 66 = gv υ 11 66 → gv ω 11 13 = gv τ 11 13 → gv ω 11 15 = gv τ 11 15 → (((gv ω 11 13) ≤ 0 → Q (gv ω 11 15) ω) ∧ (¬ ((gv ω 11 13) ≤ 0) → Q (gv ω 11 13) ω))) → wX12_read_143 Q (nI NR) (nI C) x τ := by
      intro τ x P0 f hP hx hfin
      rw [hx]
      rintro σ1 rfl
      have e17 : gv (pv τ 11 17 (nI P0)) 11 17 = nI P0 := by rw [gv_pv, if_pos ⟨rfl, rfl⟩]
      rw [e17]
      refine ⟨fun c => absurd c (nI_neg1 (by omega)), fun _ => ?_⟩
      rintro σ7 rfl σ8 rfl
      obtain ⟨t18, t23, t66⟩ := tcell τ f
      have u1 : ∀ a j, (a = 11 → j ≠ 17 ∧ j ≠ 32 ∧ j ≠ 38) → gv (pv (pv (pv τ 11 17 (nI P0)) 11 32 (nI NR)) 11 38 (nI C)) a j = gv τ a j := fun a j h => by rw [gv_pv, if_neg (by omega), gv_pv, if_neg (by omega), gv_pv, if_neg (by omega)]
      obtain ⟨r1, r2⟩ := fr τ f (pv (pv (pv τ 11 17 (nI P0)) 11 32 (nI NR)) 11 38 (nI C)) (fun a j h => u1 a j (by omega)) (fun _ _ => rfl) rfl
      exact hfin _ r1 r2 (by rw [gv_pv, if_neg (by decide), gv_pv, if_neg (by decide), gv_pv, if_pos ⟨rfl, rfl⟩]) ((u1 11 18 (by omega)).trans t18) ((u1 11 23 (by omega)).trans t23) (by rw [gv_pv, if_neg (by decide), gv_pv, if_pos ⟨rfl, rfl⟩]) (by rw [gv_pv, if_pos ⟨rfl, rfl⟩]) ((u1 11 66 (by omega)).trans t66) (u1 11 13 (by omega)) (u1 11 15 (by omega))
    refine ⟨13, txM hT 11 nms R 0 C NR none s10 (by omega) (by omega) C0 N0 (by rw [hnl]; exact b19) hR b24 b15 (fun z acts rules lt' τ C' NR' hx X1 m1 m2 m3 m4 m6 m7 L1 f1 => ?_) (fun g k τ hx F1 f1 => ?_)⟩
    · rw [hnl] at m1 m6
      have hzM := X1.1.2.2.1
      refine ⟨fun _ => ?_, fun c => absurd (by rw [X1.1.2.2.2]; decide) c⟩
      rcases lt' with _ | ⟨k, j⟩
      · have L1 : gv τ 11 15 = 0 := L1
        rw [L1]
        refine ⟨fun _ => ?_, fun c => absurd (by decide) c⟩
        rintro σ1 rfl
        have e17 : gv (pv τ 11 17 (-1)) 11 17 = -1 := by rw [gv_pv, if_pos ⟨rfl, rfl⟩]
        rw [e17]
        refine ⟨fun _ => ?_, fun c => absurd rfl c⟩
        have e19 : gv (pv τ 11 17 (-1)) 11 19 = nI (A + acts.length) := by rw [gv_pv, if_neg (by decide)]; exact m1
        rw [e19]
        rintro σ3 rfl
        have e24 : gv (pv (pv τ 11 17 (-1)) 11 18 (nI (A + acts.length))) 11 24 = nI (R + rules.length) := by rw [gv_pv, if_neg (by decide), gv_pv, if_neg (by decide)]; exact m2
        rw [e24]
        rintro σ4 rfl
        rintro σ5 rfl
        have u1 : ∀ a j, (a = 11 → j ≠ 17 ∧ j ≠ 18 ∧ j ≠ 23 ∧ j ≠ 66) → gv (pv (pv (pv (pv τ 11 17 (-1)) 11 18 (nI (A + acts.length))) 11 23 (nI (R + rules.length))) 11 66 (-1)) a j = gv τ a j := fun a j h => by rw [gv_pv, if_neg (by omega), gv_pv, if_neg (by omega), gv_pv, if_neg (by omega), gv_pv, if_neg (by omega)]
        obtain ⟨r1, r2⟩ := fr τ f1 (pv (pv (pv (pv τ 11 17 (-1)) 11 18 (nI (A + acts.length))) 11 23 (nI (R + rules.length))) 11 66 (-1)) (fun a j h => u1 a j (by omega)) (fun _ _ => rfl) rfl
        have hB := X1.2.2.2.1
        have hB2 := X1.2.2.2.2.2.2.1
        refine hok z acts rules _ C' NR' hx r1 r2 ?_ ?_ ?_ ((u1 11 32 (by omega)).trans X1.2.2.2.2.2.1) ((u1 11 38 (by omega)).trans X1.2.2.1) ?_ m3 (by omega) m4 (by omega) (by omega) (fun q x hq => ?_) (fun q r hq => ?_)
        · rw [gv_pv, if_neg (by decide), gv_pv, if_neg (by decide), gv_pv, if_neg (by decide), gv_pv, if_pos ⟨rfl, rfl⟩]
        · rw [gv_pv, if_neg (by decide), gv_pv, if_neg (by decide), gv_pv, if_pos ⟨rfl, rfl⟩]
        · rw [gv_pv, if_neg (by decide), gv_pv, if_pos ⟨rfl, rfl⟩]
        · rw [gv_pv, if_pos ⟨rfl, rfl⟩]
        · obtain ⟨a1, a2, a3, a4⟩ := m6 q x hq
          exact ⟨a1, a2, (u1 56 _ (by omega)).trans a3, (u1 57 _ (by omega)).trans a4⟩
        · exact (m7 q r hq).kp (Nat.le_refl _) (Nat.le_refl _) (fun a' b1 b2 => u1 a' _ (by omega)) (fun a' j' b1 b2 _ => u1 a' j' (by omega)) (fun a' j' b1 _ => u1 a' j' (by omega))
      · obtain ⟨a1, a2, a3, a4, a5⟩ := L1
        have a1 : gv τ 11 15 = nI k := a1
        have a3 : k < 10 := a3
        have a2 : k ≠ 0 := a2
        have a5 : j < z := a5
        have a4 : gv τ 11 16 = nI (tkp ch L j) := a4
        rw [a1, a4]
        refine ⟨fun c => absurd c (nI_ge (a := 0) (by omega) (by omega)), fun _ => ?_⟩
        refine bad τ _ (tkp ch L j) f1 (by have := hpl j (by omega); omega) rfl (fun ω r1 r2 r3 r4 r5 r6 r7 r8 r9 r10 => ⟨fun _ => ?_, fun c => absurd (by rw [r9, X1.1.2.2.2]; decide) c⟩)
        rw [r10, a1]
        exact hlt z acts rules k j ω hx r1 r2 r3 r4 r5 r6 r7 r8
    · refine ⟨fun c => absurd c F1.ne.2, fun _ => ?_⟩
      rw [F1.2.2.1]
      refine bad τ _ (tkp ch L k) f1 F1.2.2.2 rfl (fun ω r1 r2 r3 r4 r5 r6 r7 r8 r9 r10 => ⟨fun c => absurd (by rw [← r9]; exact c) F1.ne.2, fun _ => ?_⟩)
      rw [r9, F1.1]
      exact hno g k ω hx r1 r2 r3 r4 r5 r6 r7 r8
  suffices cp : ∀ (d i : Nat) (τ : St), i + d = L → Fm (fun a j => a == 49 || (a == 11 && j == 4)) υ τ → gv τ 11 4 = nI L → (∀ q, q < i → gv τ 49 q &&& 255 = ch q) → wX12_read_10 Q (d + 1) (nI i) τ from ⟨L + 1, cp L 0 _ (by omega) f1 (by rw [gv_pv, if_pos ⟨rfl, rfl⟩]) (fun q hq => absurd hq (by omega))⟩
  intro d
  induction d with
  | zero =>
    intro i τ hi f e4 h
    rw [wX12_read_10, e4]
    exact ⟨fun _ => rest τ f e4 (fun q hq => h q (by omega)), fun c => absurd (nI_le (by omega) (by omega)) c⟩
  | succ d ih =>
    intro i τ hi f e4 h
    rw [wX12_read_10, e4, nI_clamp (by omega)]
    refine ⟨fun c => absurd c (nI_ge (by omega) (by omega)), fun _ => ⟨vp_in_nI (by omega) (by decide), vp_in_nI (by omega) (by decide), ?_⟩⟩
    rintro σ15 rfl x1 rfl
    rw [nI_1]
    refine ih (i + 1) _ (by omega) (f.tr (Fm_pv (by simp))) (by rw [gv_pv, if_neg (by omega)]; exact e4) (fun q hq => ?_)
    rw [gv_pv]
    by_cases z : q = i
    · rw [if_pos ⟨rfl, z⟩, nar255, f.2 48 i (by simp), z]
      exact hc i (by omega)
    · rw [if_neg (fun w => z w.2)]
      exact h q (by omega)
