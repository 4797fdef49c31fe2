/-! read: the class's words, tokens, ints and names. -/
theorem nm_get {ch : Nat → Int32} {L : Nat} : ∀ (n f p j : Nat), n ≤ f → (∀ q, p ≤ q → q < p + n → q < L ∧ srt (ch q) = 1) → (n = f ∨ ¬ (p + n < L ∧ srt (ch (p + n)) = 1)) → (nmF ch L f p)[j]? = if j < n then some ((ch (p + j) - 96).toNatClampNeg) else none
  | 0, f, p, j, h1, h2, h3 => by
    rw [if_neg (by omega)]
    cases f with
    | zero => rfl
    | succ f =>
      rcases h3 with q | q
      · cases q
      · rw [Nat.add_zero] at q
        rw [nmF, if_neg q]
        rfl
  | n + 1, f, p, j, h1, h2, h3 => by
    obtain ⟨f', rfl⟩ : ∃ f', f = f' + 1 := ⟨f - 1, by omega⟩
    rw [nmF, if_pos (h2 p (Nat.le_refl _) (by omega))]
    cases j with
    | zero =>
      rw [if_pos (by omega)]
      rfl
    | succ j =>
      rw [List.getElem?_cons_succ, nm_get n f' (p + 1) j (by omega) (fun q a b => h2 q (by omega) (by omega)) (by
        rcases h3 with q | q
        · exact Or.inl (by omega)
        · exact Or.inr (by rw [show p + 1 + n = p + (n + 1) by omega]; exact q))]
      by_cases z : j < n
      · rw [if_pos z, if_pos (by omega), show p + 1 + j = p + (j + 1) by omega]
      · rw [if_neg z, if_neg (by omega)]
theorem chT_fm {X : Nat → Nat → Bool} {σ τ : St} (f : Fm X σ τ) (h : ∀ j, X 24 j = false) : chT τ = chT σ := funext (fun p => congrArg (fun z => z &&& 255) (f.2 24 p (h p)))
section SD
variable {τ : St} {L : Nat} {Q : Int32 → St → Prop}
theorem wordD (eL : gv τ 6 0 = nI L) (hL : L ≤ 2000) {p e : Nat} (hpe : p ≤ e) (heL : e ≤ L) (hn : e - p ≤ 8) (hal : ∀ q, p ≤ q → q < e → q < L ∧ srt (chT τ q) = 1) (hst : ¬ (e < L ∧ srt (chT τ e) = 1)) (hQ : Q (nI (wdS (nmF (chT τ) L 8 p) 23 0)) τ) : wX9_wordKind (nI p) (nI e) τ Q := by
  have hg : ∀ j, (nmF (chT τ) L 8 p)[j]? = if j < e - p then some ((chT τ (p + j) - 96).toNatClampNeg) else none := fun j => nm_get (e - p) 8 p j hn (fun q a b => hal q a (by omega)) (Or.inr (by rw [show p + (e - p) = e by omega]; exact hst))
  obtain ⟨l, hl⟩ : ∃ l, nmF (chT τ) L 8 p = l := ⟨_, rfl⟩
  obtain ⟨n1, n2⟩ := nm_ok (ch := chT τ) (L := L) 8 p
  rw [hl] at hQ hg n1 n2
  have col : ∀ j, j < 8 → coL l j = (if e ≤ p + j then 32 else pkC (chT τ) L (p + j)) := by
    intro j hj
    unfold coL
    rw [hg j]
    by_cases z : j < e - p
    · rw [if_pos z, if_neg (by omega)]
      obtain ⟨a1, a2⟩ := hal (p + j) (by omega) (by omega)
      obtain ⟨d, d1, d2, ed⟩ := let_c a2
      show nI (96 + (chT τ (p + j) - 96).toNatClampNeg) = _
      unfold pkC
      rw [if_pos a1, ed, show (96 : Int32) = nI 96 from rfl, pk_sub (by omega), nI_clamp (by omega)]
      congr 1
      omega
    · rw [if_neg z, if_pos (by omega)]
  have kwl : ∀ w, w < 23 → ∃ m, KwD[w]? = some m ∧ KwD.getD w [] = m ∧ m.length ≤ 8 ∧ ∀ c ∈ m, 1 ≤ c ∧ c ≤ 26 := by
    intro w hw
    have hlen : KwD.length = 23 := by decide
    refine ⟨KwD[w]'(by omega), List.getElem?_eq_getElem (by omega), ?_, ?_⟩
    · rw [List.getD_eq_getElem?_getD, List.getElem?_eq_getElem (by omega)]
      rfl
    · have : ∀ m ∈ KwD, m.length ≤ 8 ∧ ∀ c ∈ m, 1 ≤ c ∧ c ≤ 26 := by decide
      exact this _ (List.getElem_mem _)
  have inner : ∀ (w : Nat) (K2 : Int32 → Int32 → Int32 → St → Prop), w < 23 → (KwD[w]? = some l → Q (nI (16 + w)) τ) → (KwD[w]? ≠ some l → K2 (nI p) (nI e) (nI (8 * (w + 1))) τ) → ∀ (d j : Nat), j + d = 8 → (∀ i, i < j → wch (8 * w + i) = coL l i) → wX9_wordKind_20 Q K2 (d + 1) (nI p) (nI e) (nI (8 * w)) 1 (nI j) τ := by
    intro w K2 hw hy hnn d
    have x8 : nI (8 * w) + 8 = nI (8 * (w + 1)) := by rw [show (8 : Int32) = nI 8 from rfl, nI_add]; congr 1
    have dv : (16 : Int32) + nI (8 * w) / 8 = nI (16 + w) := by
      rw [show (8 : Int32) = nI 8 from rfl, pk_div (by omega) (by decide) (by decide), show (16 : Int32) = nI 16 from rfl, nI_add]
      congr 1
      omega
    have miss : KwD[w]? ≠ some l → wX9_wordKind_82 Q K2 (nI p) (nI e) (nI (8 * w)) 0 τ := by
      intro h
      refine ⟨fun _ => ?_, fun c => absurd rfl c⟩
      rintro x3 rfl
      rw [x8]
      exact hnn h
    obtain ⟨m, km, gm, lm, cm⟩ := kwl w hw
    induction d with
    | zero =>
      intro j hj h
      have hy' : KwD[w]? = some l := by
        rw [km]
        congr 1
        refine coL_inj lm n1 cm n2 (fun i hi => ?_)
        rw [← gm, ← wch_co w hw i hi]
        exact h i (by omega)
      refine ⟨fun _ => ⟨fun c => absurd c z10, fun _ => ?_⟩, fun c => absurd (nI_le (a := 8) (by omega) (by omega)) c⟩
      rw [dv]
      exact hy hy'
    | succ d ih =>
      intro j hj h
      rw [wX9_wordKind_20]
      have next : ∀ (x : Int32), x = coL l j → wX9_wordKind_53 Q K2 (fun x1' x2' x3' x4' x5' σ' => wX9_wordKind_20 Q K2 (d + 1) x1' x2' x3' x4' x5' σ') (nI p) (nI e) (nI (8 * w)) (nI j) x τ := by
        intro x hx
        unfold wX9_wordKind_53
        rw [nI_add, nI_clamp (by omega)]
        refine ⟨vp_in_nI (by omega) (by decide), fun c => ?_, fun c => ?_⟩
        · rintro x5 rfl
          rw [nI_1]
          refine ih (j + 1) (by omega) (fun i hi => ?_)
          by_cases z : i = j
          · rw [z, c, hx]
          · exact h i (by omega)
        · rintro x5 rfl
          rw [nI_1]
          have hne : KwD[w]? ≠ some l := by
            intro q
            rw [km] at q
            cases q
            exact c (by rw [wch_co w hw j (by omega), gm, hx])
          exact ⟨fun _ => miss hne, fun _ => ⟨fun _ => miss hne, fun c => absurd rfl c⟩⟩
      have cj := col j (by omega)
      refine ⟨fun c => absurd c (nI_ge (b := 8) (by omega) (by decide)), fun _ => ⟨fun c => absurd c z10, fun _ => ?_⟩⟩
      rw [nI_add]
      refine ⟨fun c => ?_, fun c => ?_⟩
      · rw [if_pos ((nI_leI (by omega) (by omega)).mp c)] at cj
        exact next 32 cj.symm
      · rw [if_neg (fun q => c (nI_le q (by omega)))] at cj
        exact peekD eL hL (by omega) (next _ cj.symm)
  have outer : ∀ (f w : Nat), w + f = 23 → Q (nI (wdS l f w)) τ → wX9_wordKind_2 Q (f + 1) (nI p) (nI e) (nI (8 * w)) τ := by
    intro f
    induction f with
    | zero =>
      intro w hw hq
      have hw : w = 23 := by omega
      subst hw
      exact ⟨fun _ => hq, fun c => absurd (by decide) c⟩
    | succ f ih =>
      intro w hw hq
      rw [wX9_wordKind_2]
      rw [wdS] at hq
      refine ⟨fun c => ?_, fun _ => ⟨9, inner w _ (by omega) (fun h => ?_) (fun h => ?_) 8 0 (by omega) (fun i hi => absurd hi (by omega))⟩⟩
      · rw [show (8 : Int32) = nI 8 from rfl, nI_add] at c
        exact absurd c (nI_nlt (a := 184) (by omega) (by decide))
      · rw [if_pos h] at hq
        exact hq
      · rw [if_neg h] at hq
        exact ih (w + 1) (by omega) hq
  exact ⟨24, outer 23 0 (by omega) hQ⟩
theorem kindD' (eL : gv τ 6 0 = nI L) (hL : L ≤ 2000) {p : Nat} (hp : p ≤ L) (hQ : Q (nI (kdL (chT τ) L p)) τ) : wX9_kindOf (nI p) (nI (enL (chT τ) L p)) τ Q := by
  have hs := srt_le (pkC (chT τ) L p)
  have hen := en_gt (ch := chT τ) (L := L) p
  have hel : enL (chT τ) L p ≤ L + 1 := by
    by_cases z : p < L
    · have := en_le (ch := chT τ) z (fun q => and255 _)
      omega
    · unfold enL
      rw [pk_m1' z, srt_m1, if_pos rfl, if_neg (fun q => by
        rcases q.1 with w | w | w <;> exact absurd w (by decide))]
      omega
  have dif : nI (enL (chT τ) L p) - nI p = nI (enL (chT τ) L p - p) := pk_sub (by omega)
  refine peekD eL hL (by omega) (sortD ?_)
  rw [dif]
  unfold kdL at hQ
  refine ⟨fun c => ?_, fun c => ⟨fun c2 => ?_, fun c2 => ?_⟩⟩
  · have e1 : srt (pkC (chT τ) L p) = 1 := (nI_eq (b := 1) (by omega) (by decide)).mp c
    rw [if_pos e1] at hQ
    have hpL : p < L := Nat.not_le.mp (fun q => by
      rw [pk_m1' (by omega), srt_m1] at e1
      cases e1)
    refine ⟨fun c3 => ?_, fun c3 => ?_⟩
    · have h8 := (nI_leI (b := 8) (by omega) (by decide)).mp c3
      rw [if_pos h8] at hQ
      have ee : enL (chT τ) L p = ruN (chT τ) L 1 (L - (p + 1)) (p + 1) := by
        unfold enL
        rw [if_neg (by omega), e1]
      have ec : srt (chT τ p) = 1 := by
        unfold pkC at e1
        rwa [if_pos hpL] at e1
      refine wordD eL hL (by omega) (en_le hpL (fun q => and255 _)) h8 (fun q a b => ?_) ?_ hQ
      · by_cases z : q = p
        · rw [z]; exact ⟨hpL, ec⟩
        · rw [ee] at b
          exact ru_al _ _ q (by omega) b
      · rw [ee]
        exact ru_st _ _ (by omega) (by omega)
    · have h8 : ¬ enL (chT τ) L p - p ≤ 8 := fun q => c3 (nI_le (b := 8) q (by decide))
      rw [if_neg h8] at hQ
      exact hQ
  · have e1 : srt (pkC (chT τ) L p) = 2 := (nI_eq (b := 2) (by omega) (by decide)).mp c2
    rw [if_neg (by omega), if_pos e1] at hQ
    refine ⟨fun c3 => ?_, fun c3 => ?_⟩
    · rw [if_pos ((nI_leI (b := 4) (by omega) (by decide)).mp c3)] at hQ
      exact hQ
    · rw [if_neg (fun q => c3 (nI_le (b := 4) q (by decide)))] at hQ
      exact hQ
  · have n1 : ¬ srt (pkC (chT τ) L p) = 1 := fun e => c (by rw [e]; rfl)
    have n2 : ¬ srt (pkC (chT τ) L p) = 2 := fun e => c2 (by rw [e]; rfl)
    rw [if_neg n1, if_neg n2] at hQ
    refine ⟨fun c3 => ?_, fun c3 => ?_⟩
    · rw [if_pos c3] at hQ
      exact hQ
    · rw [if_neg c3] at hQ
      refine ⟨fun c4 => ?_, fun c4 => ?_⟩
      · rw [decide_eq_true ((nI_eq (b := 2) (by omega) (by decide)).mp c4)] at hQ
        exact signD (two := true) hQ
      · rw [decide_eq_false (fun q => c4 (by rw [q]; rfl))] at hQ
        exact signD (two := false) hQ
theorem numberD (eL : gv τ 6 0 = nI L) (hL : L ≤ 2000) {p e : Nat} (hpe : p ≤ e) (heL : e ≤ L) (hn : e - p ≤ 4) (hal : ∀ q, p ≤ q → q < e → q < L ∧ srt (chT τ q) = 2) (hst : ¬ (e < L ∧ srt (chT τ e) = 2)) (hQ : Q (nuF (chT τ) L 4 p 0) τ) : wX9_numberOf (nI p) (nI e) τ Q := by
  suffices h : ∀ (d f j : Nat) (x : Int32), j + d = e → d ≤ f → p ≤ j → Q (nuF (chT τ) L f j x) τ → wX9_numberOf_5 Q (d + 1) (nI e) x (nI j) τ from ⟨e - p + 1, h (e - p) 4 p 0 (by omega) hn (Nat.le_refl _) hQ⟩
  intro d
  induction d with
  | zero =>
    intro f j x hj hf hpj hq
    have hje : j = e := by omega
    subst hje
    refine ⟨fun _ => ?_, fun c => absurd (nI_le (Nat.le_refl _) (by omega)) c⟩
    cases f with
    | zero => exact hq
    | succ f =>
      rw [nuF, if_neg hst] at hq
      exact hq
  | succ d ih =>
    intro f j x hj hf hpj hq
    obtain ⟨f', rfl⟩ : ∃ f', f = f' + 1 := ⟨f - 1, by omega⟩
    rw [wX9_numberOf_5]
    have hd := hal j hpj (by omega)
    rw [nuF, if_pos hd] at hq
    refine ⟨fun c => absurd c (nI_ge (by omega) (by omega)), fun _ => peekD eL hL (by omega) ?_⟩
    rw [show pkC (chT τ) L j = chT τ j from if_pos hd.1]
    rintro x3 rfl x4 rfl
    rw [nI_1]
    exact ih f' (j + 1) _ (by omega) (by omega) (by omega) hq
theorem let64 {y : Int64} {d : Nat} (h1 : 97 ≤ d) (h2 : d ≤ 122) : (32 * y + (nI d).toInt64) - 97 + 1 = 32 * y + Int64.ofNat (d - 96) := by
  have e : (nI d).toInt64 - 97 + 1 = Int64.ofNat (d - 96) := by
    rcases (show d = 97 ∨ d = 98 ∨ d = 99 ∨ d = 100 ∨ d = 101 ∨ d = 102 ∨ d = 103 ∨ d = 104 ∨ d = 105 ∨ d = 106 ∨ d = 107 ∨ d = 108 ∨ d = 109 ∨ d = 110 ∨ d = 111 ∨ d = 112 ∨ d = 113 ∨ d = 114 ∨ d = 115 ∨ d = 116 ∨ d = 117 ∨ d = 118 ∨ d = 119 ∨ d = 120 ∨ d = 121 ∨ d = 122 by omega) with rfl | rfl | rfl | rfl | rfl | rfl | rfl | rfl | rfl | rfl | rfl | rfl | rfl | rfl | rfl | rfl | rfl | rfl | rfl | rfl | rfl | rfl | rfl | rfl | rfl | rfl <;> decide
  rw [← e]
  simp only [Int64.sub_eq_add_neg, Int64.add_assoc]
theorem nameD {Q : Int64 → St → Prop} (eL : gv τ 6 0 = nI L) (hL : L ≤ 2000) {p i : Nat} (hi : i ≤ 600) (hp : p ≤ L) (ep : gv τ 26 i = nI p) (hQ : Q (pkN 32 (nmF (chT τ) L 8 p)) τ) : wX9_name (nI i) τ Q := by
  refine ⟨vp_in_nI (by omega) (by decide), ?_⟩
  rw [nI_clamp (by omega), ep]
  rintro x4 rfl
  suffices h : ∀ (f j : Nat) (y : Int64), j + f = 8 → Q ((nmF (chT τ) L f (p + j)).foldl (fun s c => 32 * s + Int64.ofNat c) y) τ → wX9_name_13 Q (f + 1) y (nI p) (nI j) τ from ⟨9, h 8 0 0 (by omega) hQ⟩
  intro f
  induction f with
  | zero =>
    intro j x hj hq
    exact ⟨fun _ => hq, fun c => absurd (nI_le (a := 8) (by omega) (by omega)) c⟩
  | succ f ih =>
    intro j y hj hq
    rw [wX9_name_13, nI_add]
    rw [nmF] at hq
    refine ⟨fun c => absurd c (nI_ge (b := 8) (by omega) (by decide)), fun _ => peekD eL hL (by omega) (sortD ⟨fun c => ?_, fun c => ?_⟩)⟩
    · have hs := srt_le (pkC (chT τ) L (p + j))
      have e := (nI_eq (b := 1) (by omega) (by decide)).mp c
      have hpL : p + j < L := Nat.not_le.mp (fun q => by
        rw [pk_m1' (by omega), srt_m1] at e
        cases e)
      have ec : pkC (chT τ) L (p + j) = chT τ (p + j) := if_pos hpL
      rw [ec] at e
      rw [if_pos ⟨hpL, e⟩, List.foldl_cons] at hq
      refine peekD eL hL (by omega) ?_
      rw [ec]
      obtain ⟨d, d1, d2, ed⟩ := let_c e
      rw [ed] at hq ⊢
      rw [show (96 : Int32) = nI 96 from rfl, pk_sub (by omega), nI_clamp (by omega)] at hq
      rintro y3 rfl x6 rfl
      rw [nI_1, let64 d1 d2]
      exact ih (j + 1) _ (by omega) hq
    · rw [if_neg (fun q => c (by rw [show pkC (chT τ) L (p + j) = chT τ (p + j) from if_pos q.1, q.2]; rfl))] at hq
      exact hq
end SD
/-- a token as the class bears it -/
def TkZ (ch : Nat → Int32) (L i : Nat) (τ : St) : Prop := gv τ 25 i = nI (tkK ch L i) ∧ gv τ 26 i = nI (tkp ch L i) ∧ (tkK ch L i = 2 → gv τ 204 i = tkV ch L i)
/-- an int's digits -/
theorem kd_num {ch : Nat → Int32} {L p : Nat} (h : kdL ch L p = 2) : p < L ∧ enL ch L p - p ≤ 4 ∧ (∀ q, p ≤ q → q < enL ch L p → q < L ∧ srt (ch q) = 2) ∧ ¬ (enL ch L p < L ∧ srt (ch (enL ch L p)) = 2) := by
  unfold kdL at h
  by_cases c1 : srt (pkC ch L p) = 1
  · rw [if_pos c1] at h
    by_cases c2 : enL ch L p - p ≤ 8
    · rw [if_pos c2] at h
      have := (wdS_ge (l := nmF ch L 8 p) 23 0).1
      omega
    · rw [if_neg c2] at h
      cases h
  rw [if_neg c1] at h
  by_cases c2 : srt (pkC ch L p) = 2
  · rw [if_pos c2] at h
    have hpL : p < L := Nat.not_le.mp (fun q => by
      rw [pk_m1' (by omega), srt_m1] at c2
      cases c2)
    have h4 : enL ch L p - p ≤ 4 := by
      by_cases c3 : enL ch L p - p ≤ 4
      · exact c3
      · rw [if_neg c3] at h
        cases h
    have ee : enL ch L p = ruN ch L 2 (L - (p + 1)) (p + 1) := by
      unfold enL
      rw [if_neg (by omega), c2]
    have ec : srt (ch p) = 2 := by
      unfold pkC at c2
      rwa [if_pos hpL] at c2
    refine ⟨hpL, h4, fun q a b => ?_, ?_⟩
    · by_cases z : q = p
      · rw [z]; exact ⟨hpL, ec⟩
      · rw [ee] at b
        exact ru_al _ _ q (by omega) b
    · rw [ee]
      exact ru_st _ _ (by omega) (by omega)
  · rw [if_neg c2] at h
    by_cases c3 : pkC ch L p = -1
    · rw [if_pos c3] at h
      cases h
    · rw [if_neg c3] at h
      exact absurd h (sgK_le _ _).2.1
/-- the class's tokens are the tape's -/
theorem scanD {σ : St} {L : Nat} {Q : St → Prop} (eL : gv σ 6 0 = nI L) (hL : L ≤ 2000) (hQ : ∀ τ, Fm xTo σ τ → (∀ i, i ≤ mxF (chT σ) L 600 0 → TkZ (chT σ) L i τ) → Q τ) : wX9_scan σ Q := by
  obtain ⟨_, hM6, hMe, hMl⟩ := mx_sp (ch := chT σ) (L := L) 600 0
  have hM6 : mxF (chT σ) L 600 0 ≤ 600 := by omega
  have hch : ∀ q, chT σ q ≠ -1 := fun q => and255 _
  have hpl : ∀ i, i ≤ mxF (chT σ) L 600 0 → tkp (chT σ) L i ≤ L := fun i hi => tkp_le hch i (fun k hk => hMl k (by omega) (by omega))
  have tok : ∀ (i : Nat) (τ : St) (K4 : Int32 → Int32 → St → Prop), i ≤ mxF (chT σ) L 600 0 → Fm xTo σ τ → (∀ k, k < i → TkZ (chT σ) L k τ) → (∀ τ', i < mxF (chT σ) L 600 0 ∨ i = 600 → Fm xTo σ τ' → (∀ k, k < i + 1 → TkZ (chT σ) L k τ') → K4 (nI (enL (chT σ) L (tkp (chT σ) L i))) (nI (i + 1)) τ') → wX9_scan_37 Q K4 (nI (tkp (chT σ) L i)) (nI i) τ := by
    intro i τ K4 hi f h hk
    have ec : chT τ = chT σ := chT_fm f (fun _ => rfl)
    have eLt : gv τ 6 0 = nI L := (f.2 6 0 rfl).trans eL
    have hp := hpl i hi
    have v : vp_in (nI i) 601 := vp_in_nI (by omega) (by decide)
    refine endD' eLt hL hp ⟨v, ?_⟩
    rw [ec, nI_clamp (by omega)]
    rintro σ4 rfl
    have f4 : Fm xTo σ (pv τ 26 i (nI (tkp (chT σ) L i))) := f.tr (Fm_pv (by simp [xTo]))
    have ec4 : chT (pv τ 26 i (nI (tkp (chT σ) L i))) = chT σ := chT_fm f4 (fun _ => rfl)
    have kk := kindD' (τ := pv τ 26 i (nI (tkp (chT σ) L i))) (p := tkp (chT σ) L i) (Q := fun r5 σ6 => vp_in (nI i) 601 ∧ ∀ σ8 : St, σ8 = pv σ6 25 i r5 → vp_in (nI i) 601 ∧ (((gv σ8 25 i) = 0 → Q σ8) ∧ (¬ ((gv σ8 25 i) = 0) → vp_in (nI i) 601 ∧ (((gv σ8 25 i) = (1 : Int32) → Q σ8) ∧ (¬ ((gv σ8 25 i) = (1 : Int32)) → vp_in (nI i) 601 ∧ (((gv σ8 25 i) = (2 : Int32) → wX9_numberOf (nI (tkp (chT σ) L i)) (nI (enL (chT σ) L (tkp (chT σ) L i))) σ8 (fun (r15 : Int32) (σ16 : St) => wX9_scan_110 Q K4 (nI i) (nI (enL (chT σ) L (tkp (chT σ) L i))) (nI i) r15 σ16)) ∧ (¬ ((gv σ8 25 i) = (2 : Int32)) → wX9_scan_110 Q K4 (nI i) (nI (enL (chT σ) L (tkp (chT σ) L i))) (nI i) (0 : Int32) σ8))))))) ((f4.2 6 0 rfl).trans eL) hL hp
    rw [ec4] at kk
    refine kk ⟨v, ?_⟩
    intro σ8 e8
    have e25 : gv σ8 25 i = nI (tkK (chT σ) L i) := by
      rw [e8, gv_pv, if_pos ⟨rfl, rfl⟩]
      rfl
    have e26 : gv σ8 26 i = nI (tkp (chT σ) L i) := by rw [e8, gv_pv, if_neg (by omega), gv_pv, if_pos ⟨rfl, rfl⟩]
    rw [e25]
    have f8 : Fm xTo σ σ8 := by
      rw [e8]
      exact f4.tr (Fm_pv (by simp [xTo]))
    have h8 : ∀ k, k < i → TkZ (chT σ) L k σ8 := by
      intro k hk'
      obtain ⟨a1, a2, a3⟩ := h k hk'
      refine ⟨?_, ?_, fun q => ?_⟩
      · rw [e8, gv_pv, if_neg (by omega), gv_pv, if_neg (by omega)]
        exact a1
      · rw [e8, gv_pv, if_neg (by omega), gv_pv, if_neg (by omega)]
        exact a2
      · rw [e8, gv_pv, if_neg (by omega), gv_pv, if_neg (by omega)]
        exact a3 q
    have kle : tkK (chT σ) L i ≤ 38 := kd_le _
    have last : tkK (chT σ) L i ≤ 1 → Q σ8 := by
      intro hk1
      refine hQ _ f8 (fun k hk' => ?_)
      have : ¬ i < mxF (chT σ) L 600 0 := fun q => by
        have := hMl i (by omega) q
        omega
      by_cases z : k = i
      · rw [z]
        exact ⟨e25, e26, fun q => absurd q (by omega)⟩
      · exact h8 k (by omega)
    refine ⟨v, fun c => last ?_, fun c => ⟨v, fun c2 => last ?_, fun c2 => ?_⟩⟩
    · rw [(nI_eq (b := 0) (by omega) (by decide)).mp c]
      decide
    · rw [(nI_eq (b := 1) (by omega) (by decide)).mp c2]
      exact Nat.le_refl _
    have n0 : tkK (chT σ) L i ≠ 0 := fun e => c (by rw [e]; rfl)
    have n1 : tkK (chT σ) L i ≠ 1 := fun e => c2 (by rw [e]; rfl)
    have hor : i < mxF (chT σ) L 600 0 ∨ i = 600 := by
      by_cases z : i < mxF (chT σ) L 600 0
      · exact Or.inl z
      · right
        rcases hMe with q | q
        · omega
        · rw [show mxF (chT σ) L 600 0 = i by omega] at q
          omega
    have put : ∀ x : Int32, (tkK (chT σ) L i = 2 → x = tkV (chT σ) L i) → wX9_scan_110 Q K4 (nI i) (nI (enL (chT σ) L (tkp (chT σ) L i))) (nI i) x σ8 := by
      intro x hx
      unfold wX9_scan_110
      refine ⟨v, ?_⟩
      rw [nI_clamp (by omega)]
      rintro σ2 rfl
      rintro x3 rfl
      rw [nI_1]
      refine hk _ hor (f8.tr (Fm_pv (by simp [xTo]))) (fun k hk' => ?_)
      have o25 : ∀ k, gv (pv σ8 204 i x) 25 k = gv σ8 25 k := fun k => by rw [gv_pv, if_neg (by omega)]
      have o26 : ∀ k, gv (pv σ8 204 i x) 26 k = gv σ8 26 k := fun k => by rw [gv_pv, if_neg (by omega)]
      by_cases z : k = i
      · rw [z]
        refine ⟨(o25 i).trans e25, (o26 i).trans e26, fun q => ?_⟩
        rw [gv_pv, if_pos ⟨rfl, rfl⟩]
        exact hx q
      · obtain ⟨a1, a2, a3⟩ := h8 k (by omega)
        refine ⟨(o25 k).trans a1, (o26 k).trans a2, fun q => ?_⟩
        rw [gv_pv, if_neg (by omega)]
        exact a3 q
    refine ⟨v, fun c3 => ?_, fun c3 => put 0 (fun e => absurd (by rw [e]; rfl) c3)⟩
    have hk2 : tkK (chT σ) L i = 2 := (nI_eq (b := 2) (by omega) (by decide)).mp c3
    have ec8 : chT σ8 = chT σ := chT_fm f8 (fun _ => rfl)
    obtain ⟨d1, d2, d3⟩ := kd_num hk2
    have ee := d1
    have hen := en_gt (ch := chT σ) (L := L) (tkp (chT σ) L i)
    refine numberD (L := L) ((f8.2 6 0 rfl).trans eL) hL (by omega) (en_le d1 hch) d2 (fun q q1 q2 => ?_) ?_ ?_
    · rw [ec8]
      exact d3.1 q q1 q2
    · rw [ec8]
      exact d3.2
    · rw [ec8]
      exact put _ (fun _ => rfl)
  have skip : ∀ (i : Nat) (K4 : Int32 → Int32 → St → Prop), i ≤ mxF (chT σ) L 600 0 → (∀ τ, Fm xTo σ τ → (∀ k, k < i → TkZ (chT σ) L k τ) → wX9_scan_37 Q K4 (nI (tkp (chT σ) L i)) (nI i) τ) → ∀ (f p : Nat) (τ : St), p + f = L ∨ (f = 0 ∧ L ≤ p) → p ≤ L → ruN (chT σ) L 3 f p = tkp (chT σ) L i → Fm xTo σ τ → (∀ k, k < i → TkZ (chT σ) L k τ) → wX9_scan_11 Q K4 (f + 1) (nI p) (nI i) τ := by
    intro i K4 hi go f
    induction f with
    | zero =>
      intro p τ hp hpL he f0 h
      have he : p = tkp (chT σ) L i := he
      rw [wX9_scan_11, show gv τ 6 0 = nI L from (f0.2 6 0 rfl).trans eL]
      refine ⟨fun _ => by rw [he]; exact go τ f0 h, fun c => absurd (nI_le (by omega) (by omega)) c⟩
    | succ f ih =>
      intro p τ hp hpL he f0 h
      have eLt : gv τ 6 0 = nI L := (f0.2 6 0 rfl).trans eL
      have ec : chT τ = chT σ := chT_fm f0 (fun _ => rfl)
      have hlt : p < L := by omega
      rw [wX9_scan_11, eLt]
      rw [ruN] at he
      refine ⟨fun c => absurd c (nI_ge (by omega) (by omega)), fun _ => peekD eLt hL (by omega) (sortD ?_)⟩
      rw [ec, show pkC (chT σ) L p = chT σ p from if_pos hlt]
      have hs := srt_le (chT σ p)
      refine ⟨fun c => ?_, fun c => ?_⟩
      · have e3 := (nI_eq (b := 3) (by omega) (by decide)).mp c
        rw [if_pos ⟨hlt, e3⟩] at he
        rintro x2 rfl
        rw [nI_1]
        exact ih (p + 1) τ (by omega) (by omega) he f0 h
      · rw [if_neg (fun q => c (by rw [q.2]; rfl))] at he
        rw [he]
        exact go τ f0 h
  have main : ∀ (d i p : Nat) (τ : St), i + d = 601 → (d = 0 ∨ (i ≤ mxF (chT σ) L 600 0 ∧ p ≤ L ∧ skL (chT σ) L p = tkp (chT σ) L i)) → Fm xTo σ τ → (∀ k, k < i → TkZ (chT σ) L k τ) → wX9_scan_4 Q (d + 1) (nI p) (nI i) τ := by
    intro d
    induction d with
    | zero =>
      intro i p τ hi _ f h
      exact ⟨fun _ => hQ τ f (fun k hk => h k (by omega)), fun c => absurd (nI_lt (a := 600) (by omega) (by omega)) c⟩
    | succ d ih =>
      intro i p τ hi hd f h
      obtain ⟨hiM, hpL, hsk⟩ : i ≤ mxF (chT σ) L 600 0 ∧ p ≤ L ∧ skL (chT σ) L p = tkp (chT σ) L i := by
        rcases hd with q | q
        · cases q
        · exact q
      refine ⟨fun c => absurd c (nI_nlt (a := 600) (by omega) (by decide)), fun _ => ⟨L - p + 1, skip i _ hiM (fun τ1 f1 h1 => tok i τ1 _ hiM f1 h1 (fun τ2 hc f2 h2 => ?_)) (L - p) p τ (by omega) hpL hsk f h⟩⟩
      refine ih (i + 1) _ τ2 (by omega) ?_ f2 h2
      rcases hc with q | q
      · right
        exact ⟨by omega, en_le (kd_in (hMl i (by omega) q)) hch, rfl⟩
      · left
        omega
  exact ⟨602, main 601 0 0 σ (by omega) (Or.inr ⟨by omega, by omega, rfl⟩) Fm.rf (fun k hk => absurd hk (by omega))⟩
