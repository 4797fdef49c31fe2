/-! read: the reference's whole text; what a text's tokens can tell. -/
section TX
variable {σ : St} {K P : Nat → Nat} {V : Nat → Int32} {NM : Nat → List Nat} {M CB NB : Nat}
theorem tx_ac {f nr i : Nat} {nms : List (List Nat)} {lt : Lt} (hk : K i = 16) : txP K V NM (f + 1) nms nr i lt = (acP K V NM nms nr i lt).bd fun l y => (txP K V NM f (nms ++ [y.1.1]) (nr + y.2.1.length) l y.2.2).bd fun z w => .ok z (y.1 :: w.1, y.2.1 ++ w.2.1, w.2.2) := by
  rw [txP, if_pos hk]
  unfold acP
  simp only [bd_as]
  rfl
theorem txM {Q : Int32 → St → Prop} {x1 x2 : Int32} (hT : TkM σ K P V NM M) : ∀ (f : Nat) (nms : List (List Nat)) (nr i C NR : Nat) (lt : Lt) (τ : St), 11 ≤ nms.length + f → nms.length ≤ 10 → CnM σ M CB NB i C NR τ → NmM nms τ → gv τ 11 19 = nI nms.length → nr ≤ 30 → gv τ 11 24 = nI nr → LtM P i τ lt →
    (∀ z acts rules lt' τ' C' NR', txP K V NM f nms nr i lt = .ok z (acts, rules, lt') → CnM σ M CB NB z C' NR' τ' → gv τ' 11 19 = nI (nms.length + acts.length) → gv τ' 11 24 = nI (nr + rules.length) → NR ≤ NR' → C ≤ C' → (∀ q x, acts[q]? = some x → AcMt (nms.length + q) x τ') → (∀ q r, rules[q]? = some r → RuMt NR' C' (nr + q) r τ') → LtM P z τ' lt' → Fy nms.length nr NR C τ τ' → wX12_read_113 Q x1 x2 τ') →
    (∀ g k τ', txP K V NM f nms nr i lt = .no g k → FlM P g k τ' → Fy nms.length nr NR C τ τ' → wX12_read_113 Q x1 x2 τ') → wX12_read_91 Q (f + 2) x1 x2 τ := by
  intro f
  induction f with
  | zero => intro nms nr i C NR lt τ h1 h2; exact absurd h1 (by omega)
  | succ f ih =>
    intro nms nr i C NR lt τ hf hA h hN eA hn eR hL hok hno
    have A := h.1
    rw [wX12_read_91]
    refine ⟨fun _ => isM (k := 0) hT A (by decide) rfl (fun hk => ⟨z11, fun _ => ?_⟩) (fun hk => ⟨fun _ => ?_, fun c => absurd rfl c⟩), fun c => absurd A.2.2.2 c⟩
    · exact hok i [] [] lt τ C NR (by rw [txP, if_neg (by omega), if_pos hk]) h eA eR (Nat.le_refl _) (Nat.le_refl _) (fun q x hq => by cases hq) (fun q r hq => by cases hq) hL Fy.rf
    · by_cases hk2 : K i = 16
      · have hp := tx_ac (V := V) (NM := NM) (f := f) (nr := nr) (nms := nms) (lt := lt) hk2
        refine actM hT h hA hN eA hn eR hL hk2 (fun l ac rs lt1 τ1 C1 NR1 ha hA1 X1 hil e1 e2 hn1 hN1 hC1 Y1 R1 L1 f1 => ?_) (fun g k τ1 ha F1 f1 => ⟨fun c => absurd c F1.ne.1, fun _ => hno g k τ1 (by rw [hp, ha, bd_n]) F1 f1⟩)
        have ln : (nms ++ [ac.1]).length = nms.length + 1 := by rw [List.length_append, List.length_singleton]
        have N1 : NmM (nms ++ [ac.1]) τ1 := by
          intro a l hl
          by_cases q : a < nms.length
          · rw [List.getElem?_append_left q] at hl
            exact ⟨(hN a l hl).1, (f1.2.1 55 a (fun _ => q)).trans (hN a l hl).2⟩
          · rw [List.getElem?_append_right (by omega)] at hl
            have ha : a - nms.length = 0 := by
              by_cases z : a - nms.length = 0
              · exact z
              · obtain ⟨y, hy⟩ : ∃ y, a - nms.length = y + 1 := ⟨a - nms.length - 1, by omega⟩
                rw [hy] at hl
                cases hl
            rw [ha] at hl
            cases hl
            rw [show a = nms.length by omega]
            exact ⟨Y1.1, Y1.2.1⟩
        refine ih (nms ++ [ac.1]) (nr + rs.length) l C1 NR1 lt1 τ1 (by rw [ln]; omega) (by rw [ln]; omega) X1 N1 (by rw [ln]; exact e1) hn1 e2 L1 (fun z acts rules lt2 τ2 C2 NR2 hz X2 m1 m2 m3 m4 m6 m7 L2 f2 => ?_) (fun g k τ2 hz F2 f2 => hno g k τ2 (by rw [hp, ha, bd_o, hz, bd_n]) F2 (f1.tr f2 (by rw [ln]; omega) (by omega) hN1 hC1))
        refine hok z (ac :: acts) (rs ++ rules) lt2 τ2 C2 NR2 (by rw [hp, ha, bd_o, hz, bd_o]) X2 (by rw [m1, ln, List.length_cons]; congr 1; omega) (by rw [m2, List.length_append]; congr 1; omega) (by omega) (by omega) (fun q y hq => ?_) (fun q y hq => ?_) L2 (f1.tr f2 (by rw [ln]; omega) (by omega) hN1 hC1)
        · cases q with
          | zero =>
            have : ac = y := by simpa using hq
            rw [← this]
            exact Y1.kp f2 (by rw [ln]; omega)
          | succ q =>
            have := m6 q y (by simpa using hq)
            rwa [ln, show nms.length + 1 + q = nms.length + (q + 1) by omega] at this
        · by_cases c3 : q < rs.length
          · rw [List.getElem?_append_left c3] at hq
            exact (R1 q y hq).fy f2 (by omega) m3 m4
          · rw [List.getElem?_append_right (by omega)] at hq
            have := m7 (q - rs.length) y hq
            rwa [show nr + rs.length + (q - rs.length) = nr + q by omega] at this
      · have hp : txP K V NM (f + 1) nms nr i lt = .no 1 i := by rw [txP, if_neg hk2, if_neg hk]
        have l23 : wX12_tellAct_23 (fun σ6 => wX12_read_91 Q (f + 2) x1 x2 σ6) τ := by
          refine mustM (k := 16) hT A (by decide) (by decide) rfl (fun τ1 e _ _ _ _ => absurd e hk2) (fun g τ1 ht F1 f1 => ?_)
          have hg : g = 1 := by
            unfold tkP at ht
            rw [if_neg hk2] at ht
            cases ht
            rfl
          rw [hg] at F1
          rintro y1 rfl
          refine mustF F1 (mustF F1 ?_)
          rintro y2 rfl
          exact mustF F1 ⟨fun c => absurd c F1.ne.2, fun _ => ⟨fun c => absurd c F1.ne.1, fun _ => hno 1 i τ1 hp F1 (Fy.tm f1)⟩⟩
        exact isM (k := 16) hT A (by decide) rfl (fun e => absurd e hk2) (fun _ => ⟨fun _ => l23, fun c => absurd rfl c⟩)
end TX
section TP
variable {K : Nat → Nat} {V : Nat → Int32} {NM : Nat → List Nat}
theorem nt_none {lt : Lt} {k j : Nat} : ntP lt k j ≠ none := by
  rcases lt with _ | x
  · intro h; cases h
  · intro h; cases h
theorem okC_nil : okC [] := ⟨fun r hr => (by cases hr), fun r hr => (by cases hr)⟩
theorem ru_ok (hT : OkT K V) {a nr i k : Nat} {fr un : Int32} {lt : Lt} {x : Ru × Lt} (h : ruP K V a fr un nr i lt = .ok k x) : nr < 30 ∧ x.1.2.2.1 = a ∧ x.1.2.2.2.1 = fr ∧ x.1.2.2.2.2.1 = un ∧ (x.2 = none → lt = none ∧ okRu x.1) := by
  unfold ruP at h
  by_cases c : 30 ≤ nr
  · rw [if_pos c] at h
    cases h
  rw [if_neg c] at h
  obtain ⟨j, w, hw, h1⟩ := bd_ok h
  obtain ⟨l, r, hl, h2⟩ := bd_ok h1
  obtain ⟨m, ifs, hi, h3⟩ := bd_ok h2
  obtain ⟨z, _, ht, h4⟩ := bd_ok h3
  cases h4
  have hwo : w.2 = none → lt = none ∧ (w.1 = -1 ∨ ∃ v, v ≤ 6 ∧ w.1 = nI v) := by
    intro hn
    unfold whP at hw
    by_cases c2 : K i = 24
    · rw [if_pos c2] at hw
      obtain ⟨_, _, _, h6⟩ := bd_ok hw
      cases h6
      exact ⟨hn, Or.inl rfl⟩
    · rw [if_neg c2] at hw
      obtain ⟨j1, _, t1, h6⟩ := bd_ok hw
      obtain ⟨_, _, t2, h7⟩ := bd_ok h6
      cases h7
      dsimp only at hn ⊢
      by_cases c3 : V j1 < 7
      · rw [if_pos c3] at hn
        obtain ⟨v, hv, ev⟩ := hT.2 j1 (tk_ok t2).1
        rw [ev] at c3 ⊢
        exact ⟨hn, Or.inr ⟨v, by have := (nI_ltI (b := 7) (by omega) (by decide)).mp c3; omega, rfl⟩⟩
      · rw [if_neg c3] at hn
        exact absurd hn nt_none
  have hif : okC ifs := by
    unfold ifP at hi
    by_cases c2 : K l = 21
    · rw [if_pos c2] at hi
      obtain ⟨_, _, _, h6⟩ := bd_ok hi
      exact (cd_ok hT h6).2.2.2.1
    · rw [if_neg c2] at hi
      cases hi
      exact okC_nil
  unfold tlP at hl
  by_cases c2 : K j = 22
  · rw [if_pos c2] at hl
    obtain ⟨_, _, _, h6⟩ := bd_ok hl
    obtain ⟨_, E, h7, h8⟩ := bd_ok h6
    cases h8
    exact ⟨by omega, rfl, rfl, rfl, fun hn => ⟨(hwo hn).1, (hwo hn).2, fun _ => (sm_ok hT h7).2.2.2, fun q => (by cases q), hif⟩⟩
  · rw [if_neg c2] at hl
    obtain ⟨_, _, _, h6⟩ := bd_ok hl
    obtain ⟨_, cs, h7, h8⟩ := bd_ok h6
    cases h8
    exact ⟨by omega, rfl, rfl, rfl, fun hn => ⟨(hwo hn).1, (hwo hn).2, fun q => (by cases q), fun _ => ⟨(cd_ok hT h7).2.2.2.1, (cd_ok hT h7).2.2.2.2.1⟩, hif⟩⟩
theorem rs_ok (hT : OkT K V) {a : Nat} {fr un : Int32} : ∀ (f nr i : Nat) (lt : Lt) (k : Nat) (rs : List Ru) (lt' : Lt), rsP K V a fr un f nr i lt = .ok k (rs, lt') → nr ≤ 30 → nr + rs.length ≤ 30 ∧ (∀ r ∈ rs, r.2.2.1 = a ∧ r.2.2.2.1 = fr ∧ r.2.2.2.2.1 = un) ∧ (lt' = none → lt = none ∧ ∀ r ∈ rs, okRu r)
  | 0, nr, i, lt, k, rs, lt', h, hn => by
    cases h
    exact ⟨hn, fun r hr => (by cases hr), fun q => ⟨q, fun r hr => (by cases hr)⟩⟩
  | f + 1, nr, i, lt, k, rs, lt', h, hn => by
    rw [rsP] at h
    by_cases c : K i = 23 ∨ K i = 24
    · rw [if_pos c] at h
      obtain ⟨j, x, h1, h2⟩ := bd_ok h
      obtain ⟨l, y, h3, h4⟩ := bd_ok h2
      cases h4
      obtain ⟨a1, a2, a3, a4, a5⟩ := ru_ok hT h1
      obtain ⟨b1, b2, b3⟩ := rs_ok hT f (nr + 1) j x.2 k y.1 y.2 h3 (by omega)
      refine ⟨by rw [List.length_cons]; omega, fun r hr => ?_, fun q => ⟨((a5 (b3 q).1).1), fun r hr => ?_⟩⟩
      · rw [List.mem_cons] at hr
        rcases hr with rfl | hr
        · exact ⟨a2, a3, a4⟩
        · exact b2 r hr
      · rw [List.mem_cons] at hr
        rcases hr with rfl | hr
        · exact (a5 (b3 q).1).2
        · exact (b3 q).2 r hr
    · rw [if_neg c] at h
      cases h
      exact ⟨hn, fun r hr => (by cases hr), fun q => ⟨q, fun r hr => (by cases hr)⟩⟩
theorem hd_ok {nms : List (List Nat)} {i k : Nat} {lt lt' : Lt} {x : List Nat × Int32 × Int32} (h : hdP K V NM nms i lt = .ok k (x, lt')) : nms.length < 10 ∧ (lt' = none → lt = none) := by
  unfold hdP at h
  by_cases c : 10 ≤ nms.length
  · rw [if_pos c] at h
    cases h
  rw [if_neg c] at h
  obtain ⟨j, _, h1, h2⟩ := bd_ok h
  obtain ⟨_, _, h3, h4⟩ := bd_ok h2
  obtain ⟨l, _, h5, h6⟩ := bd_ok h4
  unfold fuP at h6
  obtain ⟨m, _, h7, h8⟩ := bd_ok h6
  refine ⟨by omega, fun hn => ?_⟩
  have key : (if NM j ∈ nms then ntP lt 3 j else lt) = none → lt = none := by
    intro q
    by_cases z : NM j ∈ nms
    · rw [if_pos z] at q
      exact absurd q nt_none
    · rw [if_neg z] at q
      exact q
  by_cases z : K m = 18
  · rw [if_pos z] at h8
    obtain ⟨p, _, h9, h10⟩ := bd_ok h8
    obtain ⟨_, _, h11, h12⟩ := bd_ok h10
    obtain ⟨_, _, h13, h14⟩ := bd_ok h12
    cases h14
    by_cases w : V l < V p
    · rw [if_pos w] at hn
      exact key hn
    · rw [if_neg w] at hn
      exact absurd hn nt_none
  · rw [if_neg z] at h8
    obtain ⟨_, _, h13, h14⟩ := bd_ok h8
    cases h14
    exact key hn
theorem tx_ok (hT : OkT K V) : ∀ (f : Nat) (nms : List (List Nat)) (nr i : Nat) (lt : Lt) (z : Nat) (acts : List (List Nat × Int32 × Int32)) (rules : List Ru) (lt' : Lt), txP K V NM f nms nr i lt = .ok z (acts, rules, lt') → nr ≤ 30 → nms.length ≤ 10 → nms.length + acts.length ≤ 10 ∧ nr + rules.length ≤ 30 ∧ (acts = [] → rules = [] ∧ z = i) ∧ (∀ r ∈ rules, ∃ q x, acts[q]? = some x ∧ r.2.2.1 = nms.length + q ∧ r.2.2.2.1 = x.2.1 ∧ r.2.2.2.2.1 = x.2.2) ∧ (lt' = none → lt = none ∧ ∀ r ∈ rules, okRu r)
  | 0, nms, nr, i, lt, z, acts, rules, lt', h, hn, hA => by
    rw [txP] at h
    by_cases c : K i = 0
    · rw [if_pos c] at h
      cases h
      exact ⟨hA, hn, fun _ => ⟨rfl, rfl⟩, fun r hr => (by cases hr), fun q => ⟨q, fun r hr => (by cases hr)⟩⟩
    · rw [if_neg c] at h
      cases h
  | f + 1, nms, nr, i, lt, z, acts, rules, lt', h, hn, hA => by
    rw [txP] at h
    by_cases c : K i = 16
    · rw [if_pos c] at h
      obtain ⟨j, hd, h1, h2⟩ := bd_ok h
      obtain ⟨k, x, h3, h4⟩ := bd_ok h2
      obtain ⟨l, _, h5, h6⟩ := bd_ok h4
      obtain ⟨z', y, h7, h8⟩ := bd_ok h6
      cases h8
      obtain ⟨d1, d2⟩ := hd_ok h1
      obtain ⟨b1, b2, b3⟩ := rs_ok hT 31 nr j hd.2 k x.1 x.2 h3 hn
      have ln : (nms ++ [hd.1.1]).length = nms.length + 1 := by rw [List.length_append, List.length_singleton]
      obtain ⟨e1, e2, e3, e4, e5⟩ := tx_ok hT f (nms ++ [hd.1.1]) (nr + x.1.length) l x.2 z y.1 y.2.1 y.2.2 h7 b1 (by rw [ln]; omega)
      rw [ln] at e1 e4
      refine ⟨by rw [List.length_cons]; omega, by rw [List.length_append]; omega, fun q => (by cases q), fun r hr => ?_, fun q => ⟨d2 (b3 (e5 q).1).1, fun r hr => ?_⟩⟩
      · rw [List.mem_append] at hr
        rcases hr with hr | hr
        · obtain ⟨q1, q2, q3⟩ := b2 r hr
          exact ⟨0, hd.1, rfl, q1, q2, q3⟩
        · obtain ⟨q, w, q1, q2, q3, q4⟩ := e4 r hr
          exact ⟨q + 1, w, by simpa using q1, by omega, q3, q4⟩
      · rw [List.mem_append] at hr
        rcases hr with hr | hr
        · exact (b3 (e5 q).1).2 r hr
        · exact (e5 q).2 r hr
    · rw [if_neg c] at h
      by_cases c2 : K i = 0
      · rw [if_pos c2] at h
        cases h
        exact ⟨hA, hn, fun _ => ⟨rfl, rfl⟩, fun r hr => (by cases hr), fun q => ⟨q, fun r hr => (by cases hr)⟩⟩
      · rw [if_neg c2] at h
        cases h
end TP
