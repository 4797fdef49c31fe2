/-! read: the class's acts, and a whole text. -/
theorem pkN_snoc {b : Int64} {l : List Nat} {c : Nat} : pkN b (l ++ [c]) = b * pkN b l + Int64.ofNat c := by
  unfold pkN
  rw [List.foldl_append]
  rfl
def pkT (b : Nat) (l : List Nat) : Nat := l.foldl (fun s c => b * s + c) 0
theorem pkT_snoc {b : Nat} {l : List Nat} {c : Nat} : pkT b (l ++ [c]) = b * pkT b l + c := by
  unfold pkT
  rw [List.foldl_append]
  rfl
theorem pkT_bd {b : Nat} (hb : 27 ≤ b) : ∀ (n : Nat) (l : List Nat), l.length = n → (∀ c ∈ l, 1 ≤ c ∧ c ≤ 26) → pkT b l < b ^ n
  | 0, l, h, _ => by
    rw [List.length_eq_zero_iff] at h
    rw [h]
    exact Nat.one_pos
  | n + 1, l, h, hc => by
    rcases List.eq_nil_or_concat l with q | ⟨l', c, q⟩
    · rw [q] at h; cases h
    · rw [List.concat_eq_append] at q
      rw [q, List.length_append, List.length_singleton] at h
      have hl := pkT_bd hb n l' (by omega) (fun x hx => hc x (by rw [q]; exact List.mem_append_left _ hx))
      have h26 := hc c (by rw [q]; exact List.mem_append_right _ (List.mem_singleton.mpr rfl))
      rw [q, pkT_snoc, Nat.pow_succ, Nat.mul_comm]
      have : (pkT b l' + 1) * b ≤ b ^ n * b := Nat.mul_le_mul_right b hl
      rw [Nat.add_mul] at this
      omega
theorem pkN_T {b : Nat} : ∀ (n : Nat) (l : List Nat), l.length = n → pkN (Int64.ofNat b) l = Int64.ofNat (pkT b l)
  | 0, l, h => by
    rw [List.length_eq_zero_iff] at h
    rw [h]
    rfl
  | n + 1, l, h => by
    rcases List.eq_nil_or_concat l with q | ⟨l', c, q⟩
    · rw [q] at h; cases h
    · rw [List.concat_eq_append] at q
      rw [q, List.length_append, List.length_singleton] at h
      rw [q, pkN_snoc, pkT_snoc, pkN_T n l' (by omega), Int64.ofNat_add, Int64.ofNat_mul]
theorem pkT_inj {b : Nat} (hb : 27 ≤ b) : ∀ (n : Nat) (l m : List Nat), l.length = n → (∀ c ∈ l, 1 ≤ c ∧ c ≤ 26) → (∀ c ∈ m, 1 ≤ c ∧ c ≤ 26) → pkT b l = pkT b m → l = m
  | 0, l, m, h, _, hm, e => by
    rw [List.length_eq_zero_iff] at h
    subst h
    rcases List.eq_nil_or_concat m with q | ⟨m', c, q⟩
    · exact q.symm
    · rw [List.concat_eq_append] at q
      have h26 := hm c (by rw [q]; exact List.mem_append_right _ (List.mem_singleton.mpr rfl))
      rw [q, pkT_snoc] at e
      have : pkT b [] = 0 := rfl
      omega
  | n + 1, l, m, h, hl, hm, e => by
    rcases List.eq_nil_or_concat l with q | ⟨l', c, q⟩
    · rw [q] at h; cases h
    · rw [List.concat_eq_append] at q
      have h26 := hl c (by rw [q]; exact List.mem_append_right _ (List.mem_singleton.mpr rfl))
      rcases List.eq_nil_or_concat m with q2 | ⟨m', c', q2⟩
      · rw [q, q2, pkT_snoc] at e
        have : pkT b [] = 0 := rfl
        omega
      · rw [List.concat_eq_append] at q2
        have h27 := hm c' (by rw [q2]; exact List.mem_append_right _ (List.mem_singleton.mpr rfl))
        rw [q, q2, pkT_snoc, pkT_snoc] at e
        rw [q, List.length_append, List.length_singleton] at h
        have m1 : (b * pkT b l' + c) % b = c := by rw [Nat.mul_add_mod]; exact Nat.mod_eq_of_lt (by omega)
        have m2 : (b * pkT b m' + c') % b = c' := by rw [Nat.mul_add_mod]; exact Nat.mod_eq_of_lt (by omega)
        have ec : c = c' := by rw [← m1, ← m2, e]
        have e2 : pkT b l' = pkT b m' := by
          have : b * pkT b l' = b * pkT b m' := by omega
          exact Nat.eq_of_mul_eq_mul_left (by omega) this
        rw [q, q2, ec, pkT_inj hb n l' m' (by omega) (fun x hx => hl x (by rw [q]; exact List.mem_append_left _ hx)) (fun x hx => hm x (by rw [q2]; exact List.mem_append_left _ hx)) e2]
theorem pkN_inj {b : Nat} (hb : 27 ≤ b) (hb2 : b ≤ 32) {l m : List Nat} (hl : okN l) (hm : okN m) (e : pkN (Int64.ofNat b) l = pkN (Int64.ofNat b) m) : l = m := by
  rw [pkN_T l.length l rfl, pkN_T m.length m rfl] at e
  have bd : ∀ l : List Nat, okN l → pkT b l < 2 ^ 40 := fun l hl => by
    have h1 := pkT_bd hb l.length l rfl hl.2.2
    have h2 : b ^ l.length ≤ 32 ^ 8 := Nat.le_trans (Nat.pow_le_pow_left hb2 _) (Nat.pow_le_pow_right (by decide) hl.2.1)
    have h3 : (32 : Nat) ^ 8 = 2 ^ 40 := by decide
    omega
  have h1 := bd l hl
  have h2 := bd m hm
  have e2 := congrArg Int64.toInt e
  rw [Int64.toInt_ofNat_of_lt (by omega), Int64.toInt_ofNat_of_lt (by omega)] at e2
  exact pkT_inj hb l.length l m rfl hl.2.2 hm.2.2 (by omega)
def xTx (A R C a j : Nat) : Bool := xRu R C a j || ((a == 34 || a == 35) && decide (A ≤ j)) || (a == 8 && j == 2)
/-- frames of a draft: acts from A on, rules from R on, code from C on -/
def Fx (A R C : Nat) (σ τ : St) : Prop := (∀ a j, xTx A R C a j = false → gv τ a j = gv σ a j) ∧ (∀ a j, (a = 33 → j < A) → gw τ a j = gw σ a j) ∧ gn τ = gn σ
theorem Fx.rf {A R C : Nat} {σ : St} : Fx A R C σ σ := ⟨fun _ _ _ => rfl, fun _ _ _ => rfl, rfl⟩
theorem Fx.tr {A R C A' R' C' : Nat} {σ τ υ : St} (h : Fx A R C σ τ) (g : Fx A' R' C' τ υ) (h1 : A ≤ A') (h2 : R ≤ R') (h3 : C ≤ C') : Fx A R C σ υ := by
  refine ⟨fun a j q => (g.1 a j ?_).trans (h.1 a j q), fun a j q => (g.2.1 a j (fun z => by have := q z; omega)).trans (h.2.1 a j q), g.2.2.trans h.2.2⟩
  unfold xTx at q ⊢
  simp only [Bool.or_eq_false_iff] at q ⊢
  refine ⟨⟨xRu_le h2 h3 q.1.1, ?_⟩, q.2⟩
  have := q.1.2
  simp only [Bool.and_eq_false_iff, decide_eq_false_iff_not] at this ⊢
  rcases this with z | z
  · exact Or.inl z
  · exact Or.inr (by omega)
theorem xTx_Ru {A R C a j : Nat} (h : xTx A R C a j = false) : xRu R C a j = false := by
  unfold xTx at h
  simp only [Bool.or_eq_false_iff] at h
  exact h.1.1
theorem Fx.of {A R C : Nat} {σ τ : St} (f : Fm (xRu R C) σ τ) : Fx A R C σ τ := ⟨fun a j q => f.2 a j (xTx_Ru q), fun a j _ => congrFun f.gw j, f.gn⟩
theorem Fx.tk {A R C : Nat} {σ τ : St} (f : Fm xTk σ τ) : Fx A R C σ τ := Fx.of (f.mono (fun _ _ q => xTk_Em (xRu_Em q)))
theorem Fx.nt {A R C : Nat} {σ τ : St} (f : Fm xNt σ τ) : Fx A R C σ τ := Fx.of (f.mono (fun _ _ q => xNt_Ru q))
/-- the names of the acts -/
def NmD (nms : List (List Nat)) (τ : St) : Prop := ∀ a l, nms[a]? = some l → okN l ∧ gw τ 33 a = pkN 32 l
def AcAt (a : Nat) (x : List Nat × Int32 × Int32) (τ : St) : Prop := okN x.1 ∧ gw τ 33 a = pkN 32 x.1 ∧ gv τ 34 a = x.2.1 ∧ gv τ 35 a = x.2.2
theorem NmD.gw {nms : List (List Nat)} {τ τ' : St} (h : NmD nms τ) (e : ∀ a, a < nms.length → gw τ' 33 a = gw τ 33 a) : NmD nms τ' := by
  intro a l hl
  have ha : a < nms.length := by
    rw [List.getElem?_eq_some_iff] at hl
    exact hl.1
  exact ⟨(h a l hl).1, (e a ha).trans (h a l hl).2⟩
section BJ
variable {σ : St} {K P : Nat → Nat} {V : Nat → Int32} {NM : Nat → List Nat} {M : Nat}
theorem hasActD {nms : List (List Nat)} {nm : List Nat} {τ : St} {Q : Int32 → St → Prop} (hA : nms.length ≤ 10) (eA : gv τ 8 2 = nI nms.length) (hN : NmD nms τ) (ho : okN nm) (h1 : nm ∈ nms → Q 1 τ) (h0 : nm ∉ nms → Q 0 τ) : wX2_hasAct (pkN 32 nm) τ Q := by
  suffices h : ∀ (d j : Nat), j + d = nms.length → (∀ a, a < j → nms[a]? ≠ some nm) → wX2_hasAct_2 Q (d + 1) (pkN 32 nm) (nI j) τ from ⟨nms.length + 1, h nms.length 0 (by omega) (fun a ha => absurd ha (by omega))⟩
  intro d
  induction d with
  | zero =>
    intro j hj hn
    refine ⟨fun _ => h0 (fun hm => ?_), fun c => ?_⟩
    · obtain ⟨a, ha⟩ := List.getElem?_of_mem hm
      have : a < nms.length := by
        rw [List.getElem?_eq_some_iff] at ha
        exact ha.1
      exact hn a (by omega) ha
    · rw [eA] at c
      exact absurd (nI_le (by omega) (by omega)) c
  | succ d ih =>
    intro j hj hn
    obtain ⟨l, hl⟩ : ∃ l, nms[j]? = some l := ⟨_, List.getElem?_eq_getElem (show j < nms.length by omega)⟩
    obtain ⟨q1, q2⟩ := hN j l hl
    rw [wX2_hasAct_2, eA, nI_clamp (by omega), q2, lg_cmp_eq]
    refine ⟨fun c => absurd c (nI_ge (by omega) (by omega)), fun _ => ⟨vp_in_nI (by omega) (by decide), fun c => ?_, fun c => ?_⟩⟩
    · have e : l = nm := pkN_inj (b := 32) (by decide) (by decide) q1 ho c
      rw [e] at hl
      exact h1 (List.mem_of_getElem? hl)
    · rintro x3 rfl
      rw [nI_1]
      refine ih (j + 1) (by omega) (fun a ha => ?_)
      by_cases z : a = j
      · rw [z, hl]
        intro e
        cases e
        exact c rfl
      · exact hn a (by omega)
theorem rulesD {Q : Int32 → St → Prop} {K2 : Int32 → St → Prop} {x1 : Int32} {a : Nat} {fr un : Int32} (hT : TkD σ K P V NM M) : ∀ (f b nr i C : Nat) (lt : Lt) (τ : St), b + f = 31 → PrD σ M i C τ → gv τ 8 2 = nI (a + 1) → gv τ 8 3 = nI nr → nr ≤ 30 → LtD P τ lt →
    (∀ k rs lt' τ' C', rsP K V a fr un f nr i lt = .ok k (rs, lt') → AtD σ M k τ' → gv τ' 8 3 = nI (nr + rs.length) → nr + rs.length ≤ 30 → gv τ' 8 4 = nI C' → C ≤ C' → C' + i ≤ C + k → (∀ q r, rs[q]? = some r → RuAt C' (nr + q) r τ') → LtD P τ' lt' → Fm (xRu nr C) τ τ' → wX0_text_67 Q K2 x1 τ') →
    (∀ g k τ', rsP K V a fr un f nr i lt = .no g k → FlD P g k τ' → Fm (xRu nr C) τ τ' → Q 0 τ') → wX0_text_28 Q K2 (f + 1) x1 (nI b) τ := by
  intro f
  induction f with
  | zero =>
    intro b nr i C lt τ hb h eA eR hn hL hok hno
    exact ⟨fun _ => hok i [] lt τ C rfl h.1 eR hn h.2.1 (Nat.le_refl _) (by omega) (fun q r hq => by cases hq) hL Fm.rf, fun c => absurd (nI_lt (a := 30) (by omega) (by omega)) c⟩
  | succ f ih =>
    intro b nr i C lt τ hb h eA eR hn hL hok hno
    have hK := hT.2.2.2.1.1 i
    rw [wX0_text_28]
    have go : (K i = 23 ∨ K i = 24) → wX0_text_52 Q K2 (fun x1' x2' σ' => wX0_text_28 Q K2 (f + 1) x1' x2' σ') x1 (nI b) τ := by
      intro hk
      have hp : rsP K V a fr un (f + 1) nr i lt = (ruP K V a fr un nr i lt).bd fun j x => (rsP K V a fr un f (nr + 1) j x.2).bd fun k y => .ok k (x.1 :: y.1, y.2) := by rw [rsP, if_pos hk]
      refine ruleD (fr := fr) (un := un) hT h hn eA eR hL (fun j x τ1 C1 hr A1 e3 hn1 e4 hC hC2 R1 L1 f1 => ⟨z11, fun _ => ?_⟩) (fun g k τ1 hr F1 f1 => ⟨fun _ => hno g k τ1 (by rw [hp, hr, bd_n]) F1 f1, fun c => absurd rfl c⟩)
      rintro x2 rfl
      rw [nI_1]
      have hsl := h.2.2.1
      have P1 : PrD σ M j C1 τ1 := ⟨A1, e4, by rw [f1.gn]; omega, by rw [f1.gn]; exact h.2.2.2⟩
      have e82 : gv τ1 8 2 = nI (a + 1) := (f1.2 8 2 (xRu_no (by decide) (by decide) (by omega) (by omega))).trans eA
      refine ih (b + 1) (nr + 1) j C1 x.2 τ1 (by omega) P1 e82 e3 (by omega) L1 (fun k rs lt' τ2 C2 hs A2 e5 hn2 e6 hC3 hC4 R2 L2 f2 => ?_) (fun g k τ2 hs F2 f2 => hno g k τ2 (by rw [hp, hr, bd_o, hs, bd_n]) F2 (f1.tr (f2.mono (fun _ _ q => xRu_le (by omega) hC q))))
      refine hok k (x.1 :: rs) lt' τ2 C2 (by rw [hp, hr, bd_o, hs, bd_o]) A2 (by rw [List.length_cons, show nr + (rs.length + 1) = nr + 1 + rs.length by omega]; exact e5) (by rw [List.length_cons]; omega) e6 (by omega) (by omega) (fun q r hq => ?_) L2 (f1.tr (f2.mono (fun _ _ q => xRu_le (by omega) hC q)))
      cases q with
      | zero =>
        have : x.1 = r := by simpa using hq
        rw [← this]
        exact R1.kp hC3 (fun a' h1 h2 => f2.2 a' nr (xRu_no (by omega) (by omega) (by omega) (by omega))) (fun j' hj' => f2.2 36 j' (xRu_no (by decide) (by omega) (by omega) (by omega)))
      | succ q =>
        have := R2 q r (by simpa using hq)
        rwa [show nr + 1 + q = nr + (q + 1) by omega] at this
    refine ⟨fun c => absurd c (nI_nlt (a := 30) (by omega) (by decide)), fun _ => kindD hT h.1 ⟨fun c => go (Or.inl ((nI_eq (b := 23) (by omega) (by decide)).mp c)), fun c => kindD hT h.1 ⟨fun c2 => go (Or.inr ((nI_eq (b := 24) (by omega) (by decide)).mp c2)), fun c2 => ?_⟩⟩⟩
    have hk : ¬ (K i = 23 ∨ K i = 24) := fun e => by
      rcases e with e | e
      · exact c (by rw [e]; rfl)
      · exact c2 (by rw [e]; rfl)
    exact hok i [] lt τ C (by rw [rsP, if_neg hk]) h.1 eR hn h.2.1 (Nat.le_refl _) (by omega) (fun q r hq => by cases hq) hL Fm.rf
end BJ
