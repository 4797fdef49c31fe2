/-! read: the class's sums, relations, conditions. -/
theorem bd_cg {α β : Type} {x : Rs α} {g1 g2 : Nat → α → Rs β} (h : ∀ i a, x = .ok i a → g1 i a = g2 i a) : x.bd g1 = x.bd g2 := by
  rcases x with ⟨f, i⟩ | ⟨i, a⟩
  · rfl
  · exact h i a rfl
theorem bd_az {α β γ : Type} {x : Rs α} {f : Nat → α → Rs β} {g : Nat → β → Rs γ} : (x.bd f).bd g = x.bd (fun i a => (f i a).bd g) := by
  rcases x with ⟨_, _⟩ | ⟨_, _⟩ <;> rfl
/-- what waits, as code -/
def wtX (w : Nat) : Ex := if w = 0 then [] else [-(nI w)]
section FL
variable (K : Nat → Nat) (V : Nat → Int32)
def flL (S : Nat → Rs Ex) (dp : Nat) : Nat → Nat → Nat → Rs Ex
  | 0, w, i => .ok i (wtX w)
  | f + 1, w, i => if K i = 10 then (tkP K 10 i).bd fun j _ => (unP K V S dp j).bd fun k E => (flL S dp f w k).bd fun l T => .ok l (E ++ [-10] ++ T)
    else if K i = 8 ∨ K i = 9 then (tkP K (K i) i).bd fun j _ => (unP K V S dp j).bd fun k E => (flL S dp f (K i) k).bd fun l T => .ok l (wtX w ++ E ++ T)
    else .ok i (wtX w)
def flP (S : Nat → Rs Ex) (dp i : Nat) : Rs Ex :=
  if K i = 9 then (tkP K 9 i).bd fun j _ => (unP K V S dp j).bd fun k E => (flL K V S dp 600 15 k).bd fun l T => .ok l (E ++ T)
  else (unP K V S dp i).bd fun k E => (flL K V S dp 600 0 k).bd fun l T => .ok l (E ++ T)
end FL
section FE
variable {K : Nat → Nat} {V : Nat → Int32}
/-- it goes on, up to the 600th -/
def GoR (i : Nat) (x : Rs Ex) : Prop := ∀ j E, x = .ok j E → i < j ∧ j ≤ 600
theorem prL_go {S : Nat → Rs Ex} {dp : Nat} (hU : ∀ i, GoR i (unP K V S dp i)) : ∀ f i k T, i ≤ 600 → prL K V S dp f i = .ok k T → i ≤ k ∧ k ≤ 600
  | 0, i, k, T, hi, h => by cases h; exact ⟨Nat.le_refl _, hi⟩
  | f + 1, i, k, T, hi, h => by
    rw [prL] at h
    by_cases c : K i = 10
    · rw [if_pos c] at h
      obtain ⟨j, _, h1, h2⟩ := bd_ok h
      obtain ⟨m, E, h3, h4⟩ := bd_ok h2
      obtain ⟨l, T', h5, h6⟩ := bd_ok h4
      cases h6
      have q := tk_ok h1
      have u := hU j m E h3
      have r := prL_go hU f m k T' u.2 h5
      omega
    · rw [if_neg c] at h
      cases h
      exact ⟨Nat.le_refl _, hi⟩
theorem prP_go {S : Nat → Rs Ex} {dp : Nat} (hU : ∀ i, GoR i (unP K V S dp i)) (i : Nat) : GoR i (prP K V S dp i) := by
  intro j E h
  unfold prP at h
  obtain ⟨m, E1, h1, h2⟩ := bd_ok h
  obtain ⟨l, T, h3, h4⟩ := bd_ok h2
  cases h4
  have u := hU i m E1 h1
  have r := prL_go hU 600 m j T u.2 h3
  omega
theorem prL_fu {S : Nat → Rs Ex} {dp : Nat} (hU : ∀ i, GoR i (unP K V S dp i)) : ∀ f g i, i ≤ 600 → 601 ≤ i + f → 601 ≤ i + g → prL K V S dp f i = prL K V S dp g i
  | 0, g, i, h1, h2, h3 => absurd h2 (by omega)
  | f + 1, 0, i, h1, h2, h3 => absurd h3 (by omega)
  | f + 1, g + 1, i, h1, h2, h3 => by
    rw [prL, prL]
    by_cases c : K i = 10
    · rw [if_pos c, if_pos c]
      refine bd_cg (fun j _ ht => bd_cg (fun k E hu => ?_))
      have q := tk_ok ht
      have u := hU j k E hu
      rw [prL_fu hU f g k u.2 (by omega) (by omega)]
    · rw [if_neg c, if_neg c]
theorem smL_fu {S : Nat → Rs Ex} {dp : Nat} (hU : ∀ i, GoR i (prP K V S dp i)) : ∀ f g i, i ≤ 600 → 601 ≤ i + f → 601 ≤ i + g → smL K V S dp f i = smL K V S dp g i
  | 0, g, i, h1, h2, h3 => absurd h2 (by omega)
  | f + 1, 0, i, h1, h2, h3 => absurd h3 (by omega)
  | f + 1, g + 1, i, h1, h2, h3 => by
    rw [smL, smL]
    by_cases c : K i = 8 ∨ K i = 9
    · rw [if_pos c, if_pos c]
      refine bd_cg (fun j _ ht => bd_cg (fun k E hu => ?_))
      have q := tk_ok ht
      have u := hU j k E hu
      rw [smL_fu hU f g k u.2 (by omega) (by omega)]
    · rw [if_neg c, if_neg c]
theorem flL_eq {S : Nat → Rs Ex} {dp : Nat} (hU : ∀ i, GoR i (unP K V S dp i)) : ∀ f w i, i ≤ 600 → 601 ≤ i + f → flL K V S dp f w i = (prL K V S dp f i).bd fun k T => (smL K V S dp f k).bd fun l T2 => .ok l (T ++ wtX w ++ T2)
  | 0, w, i, h1, h2 => absurd h2 (by omega)
  | f + 1, w, i, h1, h2 => by
    rw [flL, prL]
    by_cases c : K i = 10
    · rw [if_pos c, if_pos c, bd_az]
      refine bd_cg (fun j _ ht => ?_)
      rw [bd_az]
      refine bd_cg (fun k E hu => ?_)
      have q := tk_ok ht
      have u := hU j k E hu
      rw [flL_eq hU f w k u.2 (by omega), bd_az, bd_az]
      refine bd_cg (fun l T hl => ?_)
      have r := prL_go hU f k l T u.2 hl
      rw [smL_fu (prP_go hU) f (f + 1) l r.2 (by omega) (by omega), bd_az]
      rw [bd_o]
      refine bd_cg (fun z T2 _ => ?_)
      show Rs.ok z _ = Rs.ok z _
      simp only [List.append_assoc]
    · rw [if_neg c, if_neg c]
      rw [bd_o, smL]
      by_cases d : K i = 8 ∨ K i = 9
      · rw [if_pos d, if_pos d, bd_az]
        refine bd_cg (fun j _ ht => ?_)
        unfold prP
        rw [bd_az, bd_az]
        refine bd_cg (fun k E hu => ?_)
        have q := tk_ok ht
        have u := hU j k E hu
        rw [flL_eq hU f (K i) k u.2 (by omega), bd_az, bd_az, prL_fu hU f 600 k u.2 (by omega) (by omega)]
        refine bd_cg (fun l T _ => ?_)
        rw [bd_az, bd_o, bd_az]
        refine bd_cg (fun z T2 _ => ?_)
        show Rs.ok z _ = Rs.ok z _
        rw [show wtX (K i) = [-(nI (K i))] from if_neg (by omega)]
        simp only [List.append_assoc, List.nil_append]
      · rw [if_neg d, if_neg d]
        show Rs.ok i _ = Rs.ok i _
        simp only [List.append_nil, List.nil_append]
theorem flP_eq {S : Nat → Rs Ex} {dp : Nat} (hU : ∀ i, GoR i (unP K V S dp i)) (i : Nat) : smP K V S dp i = flP K V S dp i := by
  unfold smP flP prP
  by_cases c : K i = 9
  · rw [if_pos c, if_pos c]
    refine bd_cg (fun j _ ht => ?_)
    rw [bd_az]
    refine bd_cg (fun k E hu => ?_)
    have u := hU j k E hu
    rw [flL_eq hU 600 15 k u.2 (by omega), bd_az, bd_az]
    refine bd_cg (fun l T _ => ?_)
    rw [bd_az, bd_o]
    refine bd_cg (fun z T2 _ => ?_)
    show Rs.ok z _ = Rs.ok z _
    rw [show wtX 15 = [-15] from rfl]
    simp only [List.append_assoc]
  · rw [if_neg c, if_neg c, bd_az]
    refine bd_cg (fun k E hu => ?_)
    have u := hU i k E hu
    rw [flL_eq hU 600 0 k u.2 (by omega), bd_az, bd_az]
    refine bd_cg (fun l T _ => ?_)
    rw [bd_az, bd_o]
    refine bd_cg (fun z T2 _ => ?_)
    show Rs.ok z _ = Rs.ok z _
    rw [show wtX 0 = [] from rfl]
    simp only [List.append_assoc, List.nil_append]
end FE
theorem sg_join {τ1 τ2 τ3 : St} {C : Nat} {E T : Ex} {op : Int32} (h1 : seg (gr τ1 36) C E) (f2 : Fm (xEm (C + E.length)) τ1 τ2) (h2 : gr τ2 36 (C + E.length) = op) (f3 : Fm (xEm (C + E.length + 1)) τ2 τ3) (h3 : seg (gr τ3 36) (C + E.length + 1) T) : seg (gr τ3 36) C (E ++ [op] ++ T) := by
  refine sg_app (sg_app (sg_fm (sg_fm h1 f2 (Nat.le_refl _)) f3 (by omega)) (sg_one ?_)) ?_
  · exact (f3.2 36 (C + E.length) (xEm_no (by decide) (by omega) (by omega))).trans h2
  · rw [List.length_append, List.length_singleton, ← Nat.add_assoc]
    exact h3
theorem sg_join0 {τ1 τ3 : St} {C : Nat} {E T : Ex} (h1 : seg (gr τ1 36) C E) (f3 : Fm (xEm (C + E.length)) τ1 τ3) (h3 : seg (gr τ3 36) (C + E.length) T) : seg (gr τ3 36) C (E ++ T) := sg_app (sg_fm h1 f3 (Nat.le_refl _)) h3
section BF
variable {σ : St} {K P : Nat → Nat} {V : Nat → Int32} {NM : Nat → List Nat} {M : Nat}
theorem len3 {C : Nat} {E T : Ex} {op : Int32} : C + (E ++ [op] ++ T).length = C + E.length + 1 + T.length := by
  rw [List.length_append, List.length_append, List.length_singleton]; omega
theorem len2 {C : Nat} {E T : Ex} : C + (E ++ T).length = C + E.length + T.length := by
  rw [List.length_append]; omega
/-- of the reader's answers what they tell of the state -/
theorem PrD.nx {i j C C' : Nat} {τ τ' : St} (h : PrD σ M i C τ) (f : Fm (xEm C) τ τ') (A : AtD σ M j τ') (e : gv τ' 8 4 = nI C') (hs : C' + 600 ≤ gn τ + j) : PrD σ M j C' τ' := ⟨A, e, by rw [f.gn]; exact hs, by rw [f.gn]; exact h.2.2.2⟩
theorem PrD.tk {i C : Nat} {τ τ' : St} (h : PrD σ M i C τ) (f : Fm xTk τ τ') (A : AtD σ M (i + 1) τ') : PrD σ M (i + 1) C τ' := h.nx (f.mono (fun _ _ q => xTk_Em q)) A (e84 f h.2.1) (by have := h.2.2.1; omega)
def w0 (w : Nat) : Nat := if w = 0 then 0 else 1
theorem wt_len (w : Nat) : (wtX w).length = w0 w := by
  unfold wtX w0
  by_cases h : w = 0
  · rw [if_pos h, if_pos h]; rfl
  · rw [if_neg h, if_neg h]; rfl
theorem w0_p {w : Nat} (h : w ≠ 0) : w0 w = 1 := if_neg h
theorem wt_p {w : Nat} (h : w ≠ 0) : wtX w = [-(nI w)] := if_neg h
/-- the loop of a sum: what waits is w -/
theorem sumD_loop (hT : TkD σ K P V NM M) {Sw : Int32 → St → (Int32 → St → Prop) → Prop} {S : Nat → Rs Ex} {dp hh : Nat} (hU : ∀ i C τ, PrD σ M i C τ → RsD σ P M (unP K V S dp i) C τ (fun Q => wX0_unit Sw (nI dp) τ Q)) (hUg : ∀ i, GdR hh i (unP K V S dp i)) : ∀ (f b w i C : Nat) (τ : St), b + f = 600 → w < 100 → PrD σ M i C τ → C + w0 w + 600 ≤ gn τ + i → RsD σ P M (flL K V S dp f w i) C τ (fun Q => wX0_sum_41 Sw Q (f + 1) (nI dp) (nI w) (nI b) τ) := by
  have fin : ∀ (f w i C : Nat) (τ : St) (Q : Int32 → St → Prop), w < 100 → PrD σ M i C τ → C + w0 w + 600 ≤ gn τ + i → flL K V S dp f w i = .ok i (wtX w) → (∀ j E τ', flL K V S dp f w i = .ok j E → AtD σ M j τ' → gv τ' 8 4 = nI (C + E.length) → seg (gr τ' 36) C E → Fm (xEm C) τ τ' → Q 1 τ') → wX0_sum_137 Sw Q (nI w) τ := by
    intro f w i C τ Q hw h hs hc hok
    have hiM := h.1.2.2
    have h6 := hT.1
    unfold wX0_sum_137
    refine ⟨fun c => ?_, fun c => ?_⟩
    · have hw0 : w = 0 := (nI_eq (b := 0) (by omega) (by decide)).mp c
      subst hw0
      exact hok i [] τ hc h.1 h.2.1 sg_nil Fm.rf
    · have hw0 : w ≠ 0 := fun e => c (by rw [e]; rfl)
      rw [w0_p hw0] at hs
      refine emitD h.2.2.2 h.2.1 (by omega) (fun τ1 f1 g1 e1 x1 => ?_)
      rw [wt_p hw0] at hc
      exact hok i [-(nI w)] τ1 hc (h.1.em f1 g1) e1 (sg_one x1) f1
  intro f
  induction f with
  | zero =>
    intro b w i C τ hb hw h hs Q hok hno
    exact ⟨fun _ => fin 0 w i C τ Q hw h hs rfl hok, fun c => absurd (nI_le (a := 600) (by omega) (by omega)) c⟩
  | succ f ih =>
    intro b w i C τ hb hw h hs Q hok hno
    have hK := hT.2.2.2.1.1 i
    have h6 := hT.1
    have hiM := h.1.2.2
    show wX0_sum_41 Sw Q (f + 1 + 1) (nI dp) (nI w) (nI b) τ
    rw [wX0_sum_41]
    have stp : ¬ (8 ≤ K i ∧ K i ≤ 10) → wX0_sum_137 Sw Q (nI w) τ := by
      intro hk
      refine fin (f + 1) w i C τ Q hw h hs ?_ hok
      rw [flL, if_neg (by omega), if_neg (by omega)]
    refine ⟨fun c => absurd c (nI_ge (b := 600) (by omega) (by decide)), fun _ => kindD hT h.1 ⟨fun c => stp (fun q => absurd ((nI_ltI (b := 8) (by omega) (by decide)).mp c) (by omega)), fun c => kindD hT h.1 ⟨fun c2 => stp (fun q => absurd ((nI_ltI (a := 10) (by decide) (by omega)).mp c2) (by omega)), fun c2 => kindD hT h.1 ⟨fun c3 => ?_, fun c3 => ?_⟩⟩⟩⟩
    · have hk : K i = 10 := (nI_eq (b := 10) (by omega) (by decide)).mp c3
      have hp : flL K V S dp (f + 1) w i = (tkP K 10 i).bd fun j _ => (unP K V S dp j).bd fun k E => (flL K V S dp f w k).bd fun l T => .ok l (E ++ [-10] ++ T) := by rw [flL, if_pos hk]
      rw [hk]
      refine takeD (k := 10) hT h.1 (by decide) (by decide) (fun τ1 _ hi ht A1 f1 => ⟨z11, fun _ => ?_⟩) (fun g τ1 ht F1 f1 => ⟨fun _ => hno g i τ1 (by rw [hp, ht, bd_n]) F1 (f1.mono (fun _ _ q => xTk_Em q)), fun c => absurd rfl c⟩)
      have P1 := h.tk f1 A1
      have f1e : Fm (xEm C) τ τ1 := f1.mono (fun _ _ q => xTk_Em q)
      refine hU (i + 1) C τ1 P1 _ (fun k E τ2 hu A2 q8 qs f2 => ⟨z11, fun _ => ⟨fun _ => ?_, fun c => absurd rfl c⟩⟩) (fun g j τ2 hu F2 f2 => ⟨fun _ => hno g j τ2 (by rw [hp, ht, bd_o, hu, bd_n]) F2 (f1e.tr f2), fun c => absurd rfl c⟩)
      obtain ⟨g1, g2, g3, _, _⟩ := hUg (i + 1) k E hu
      have hgn : gn τ2 = gn τ := f2.gn.trans f1.gn
      have hsl := h.2.2.1
      refine emitD (x := -10) (by rw [hgn]; exact h.2.2.2) q8 (by rw [hgn]; omega) (fun τ3 f3 g5 e3 x3 => ?_)
      rintro x2 rfl
      rw [nI_1]
      have A3 : AtD σ M k τ3 := A2.em f3 g5
      have f13 : Fm (xEm C) τ τ3 := (f1e.tr f2).tr (f3.mono (fun _ _ q => xEm_le (by omega) q))
      have P3 : PrD σ M k (C + E.length + 1) τ3 := h.nx f13 A3 e3 (by omega)
      refine ih (b + 1) w k (C + E.length + 1) τ3 (by omega) hw P3 (by rw [f13.gn]; omega) Q (fun l T τ4 hl A4 e4 s4 f4 => ?_) (fun g j τ4 hl F4 f4 => ?_)
      · refine hok l (E ++ [-10] ++ T) τ4 (by rw [hp, ht, bd_o, hu, bd_o, hl, bd_o]) A4 (by rw [len3]; exact e4) (sg_join qs f3 x3 f4 s4) (f13.tr (f4.mono (fun _ _ q => xEm_le (by omega) q)))
      · exact hno g j τ4 (by rw [hp, ht, bd_o, hu, bd_o, hl, bd_n]) F4 (f13.tr (f4.mono (fun _ _ q => xEm_le (by omega) q)))
    · have hk : K i = 8 ∨ K i = 9 := by
        have q1 : ¬ K i < 8 := fun q => c ((nI_ltI (b := 8) (by omega) (by decide)).mpr q)
        have q2 : ¬ 10 < K i := fun q => c2 ((nI_ltI (a := 10) (by decide) (by omega)).mpr q)
        have q3 : K i ≠ 10 := fun e => c3 (by rw [e]; rfl)
        omega
      have hp : flL K V S dp (f + 1) w i = (tkP K (K i) i).bd fun j _ => (unP K V S dp j).bd fun k E => (flL K V S dp f (K i) k).bd fun l T => .ok l (wtX w ++ E ++ T) := by rw [flL, if_neg (by omega), if_pos hk]
      have core : ∀ (τ0 : St) (C0 : Nat), Fm (xEm C) τ τ0 → PrD σ M i C0 τ0 → C0 = C + w0 w → seg (gr τ0 36) C (wtX w) → wX0_sum_92 Sw Q (fun x1' x2' x3' σ' => wX0_sum_41 Sw Q (f + 1) x1' x2' x3' σ') (nI dp) (nI b) (nI (K i)) τ0 := by
        intro τ0 C0 f0 h0 e0 s0
        have l0 := wt_len w
        unfold wX0_sum_92 wX0_sum_95
        refine takeD (k := K i) hT h0.1 (by omega) (by omega) (fun τ1 _ hi ht A1 f1 => ⟨z11, fun _ => ?_⟩) (fun g τ1 ht F1 f1 => ⟨fun _ => hno g i τ1 (by rw [hp, ht, bd_n]) F1 (f0.tr (f1.mono (fun _ _ q => xTk_Em q))), fun c => absurd rfl c⟩)
        have P1 := h0.tk f1 A1
        have f1e : Fm (xEm C0) τ0 τ1 := f1.mono (fun _ _ q => xTk_Em q)
        refine hU (i + 1) C0 τ1 P1 _ (fun k E τ2 hu A2 q8 qs f2 => ⟨z11, fun _ => ⟨fun c => absurd c c3, fun _ => ?_⟩⟩) (fun g j τ2 hu F2 f2 => ⟨fun _ => hno g j τ2 (by rw [hp, ht, bd_o, hu, bd_n]) F2 (f0.tr ((f1e.tr f2).mono (fun _ _ q => xEm_le (by omega) q))), fun c => absurd rfl c⟩)
        obtain ⟨g1, g2, g3, _, _⟩ := hUg (i + 1) k E hu
        have f02 : Fm (xEm C0) τ0 τ2 := f1e.tr f2
        have fA : Fm (xEm C) τ τ2 := f0.tr (f02.mono (fun _ _ q => xEm_le (by omega) q))
        rintro x2 rfl
        rw [nI_1]
        have P2 : PrD σ M k (C0 + E.length) τ2 := h.nx fA A2 q8 (by omega)
        refine ih (b + 1) (K i) k (C0 + E.length) τ2 (by omega) (by omega) P2 (by rw [fA.gn, w0_p (by omega)]; omega) Q (fun l T τ3 hl A3 e3 s3 f3 => ?_) (fun g j τ3 hl F3 f3 => hno g j τ3 (by rw [hp, ht, bd_o, hu, bd_o, hl, bd_n]) F3 (fA.tr (f3.mono (fun _ _ q => xEm_le (by omega) q))))
        have sB : seg (gr τ2 36) C (wtX w ++ E) := sg_app (sg_fm s0 f02 (by rw [l0]; omega)) (by rw [l0, ← e0]; exact qs)
        have lB : C + (wtX w ++ E).length = C0 + E.length := by rw [List.length_append, l0]; omega
        refine hok l (wtX w ++ E ++ T) τ3 (by rw [hp, ht, bd_o, hu, bd_o, hl, bd_o]) A3 ?_ ?_ (fA.tr (f3.mono (fun _ _ q => xEm_le (by omega) q)))
        · rw [len2, lB]
          exact e3
        · refine sg_app (sg_fm sB f3 (by rw [lB]; exact Nat.le_refl _)) ?_
          rw [lB]
          exact s3
      refine ⟨fun d => ?_, fun d => ?_⟩
      · have hw0 : w = 0 := (nI_eq (b := 0) (by omega) (by decide)).mp d
        subst hw0
        exact core τ C Fm.rf h rfl sg_nil
      · have hw0 : w ≠ 0 := fun e => d (by rw [e]; rfl)
        have hw1 := w0_p hw0
        refine emitD h.2.2.2 h.2.1 (by omega) (fun τ1 f1 g1 e1 x1 => ?_)
        exact core τ1 (C + 1) f1 (h.nx f1 (h.1.em f1 g1) e1 (by omega)) (by omega) (by rw [wt_p hw0]; exact sg_one x1)
theorem sumD1 (hT : TkD σ K P V NM M) {Sw : Int32 → St → (Int32 → St → Prop) → Prop} {S : Nat → Rs Ex} {dp hh : Nat} (hU : ∀ i C τ, PrD σ M i C τ → RsD σ P M (unP K V S dp i) C τ (fun Q => wX0_unit Sw (nI dp) τ Q)) (hUg : ∀ i, GdR hh i (unP K V S dp i)) {i C : Nat} {τ : St} (h : PrD σ M i C τ) : RsD σ P M (smP K V S dp i) C τ (fun Q => wX0_sum Sw (nI dp) τ Q) := by
  rw [flP_eq (fun i j E q => ⟨(hUg i j E q).1, (hUg i j E q).2.1⟩)]
  intro Q hok hno
  have hK := hT.2.2.2.1.1 i
  have hsl := h.2.2.1
  refine kindD hT h.1 ⟨fun c => ?_, fun c => ?_⟩
  · have hk : K i = 9 := (nI_eq (b := 9) (by omega) (by decide)).mp c
    have hp : flP K V S dp i = (tkP K 9 i).bd fun j _ => (unP K V S dp j).bd fun k E => (flL K V S dp 600 15 k).bd fun l T => .ok l (E ++ T) := by unfold flP; rw [if_pos hk]
    refine ⟨fun c => absurd c (by decide), fun _ => takeD (k := 9) hT h.1 (by decide) (by decide) (fun τ1 _ hi ht A1 f1 => ⟨z11, fun _ => ?_⟩) (fun g τ1 ht F1 f1 => ⟨fun _ => hno g i τ1 (by rw [hp, ht, bd_n]) F1 (f1.mono (fun _ _ q => xTk_Em q)), fun c => absurd rfl c⟩)⟩
    have P1 := h.tk f1 A1
    have f1e : Fm (xEm C) τ τ1 := f1.mono (fun _ _ q => xTk_Em q)
    refine hU (i + 1) C τ1 P1 _ (fun k E τ2 hu A2 q8 qs f2 => ⟨z11, fun _ => ⟨601, ?_⟩⟩) (fun g j τ2 hu F2 f2 => ⟨fun _ => hno g j τ2 (by rw [hp, ht, bd_o, hu, bd_n]) F2 (f1e.tr f2), fun c => absurd rfl c⟩)
    obtain ⟨g1, g2, g3, _, _⟩ := hUg (i + 1) k E hu
    have f12 : Fm (xEm C) τ τ2 := f1e.tr f2
    have P2 : PrD σ M k (C + E.length) τ2 := h.nx f12 A2 q8 (by omega)
    refine sumD_loop hT hU hUg 600 0 15 k (C + E.length) τ2 (by omega) (by decide) P2 (by rw [f12.gn, w0_p (by decide)]; omega) Q (fun l T τ4 hl A4 e4 s4 f4 => ?_) (fun g j τ4 hl F4 f4 => ?_)
    · exact hok l (E ++ T) τ4 (by rw [hp, ht, bd_o, hu, bd_o, hl, bd_o]) A4 (by rw [len2]; exact e4) (sg_join0 qs f4 s4) (f12.tr (f4.mono (fun _ _ q => xEm_le (by omega) q)))
    · exact hno g j τ4 (by rw [hp, ht, bd_o, hu, bd_o, hl, bd_n]) F4 (f12.tr (f4.mono (fun _ _ q => xEm_le (by omega) q)))
  · have hk : ¬ K i = 9 := fun e => c (by rw [e]; rfl)
    have hp : flP K V S dp i = (unP K V S dp i).bd fun k E => (flL K V S dp 600 0 k).bd fun l T => .ok l (E ++ T) := by unfold flP; rw [if_neg hk]
    refine ⟨fun _ => hU i C τ h _ (fun k E τ2 hu A2 q8 qs f2 => ⟨z11, fun _ => ⟨601, ?_⟩⟩) (fun g j τ2 hu F2 f2 => ⟨fun _ => hno g j τ2 (by rw [hp, hu, bd_n]) F2 f2, fun c => absurd rfl c⟩), fun c => absurd rfl c⟩
    obtain ⟨g1, g2, g3, _, _⟩ := hUg i k E hu
    refine sumD_loop hT hU hUg 600 0 0 k (C + E.length) τ2 (by omega) (by decide) (h.nx f2 A2 q8 (by omega)) (by rw [f2.gn, show w0 0 = 0 from rfl]; omega) Q (fun l T τ4 hl A4 e4 s4 f4 => ?_) (fun g j τ4 hl F4 f4 => ?_)
    · exact hok l (E ++ T) τ4 (by rw [hp, hu, bd_o, hl, bd_o]) A4 (by rw [len2]; exact e4) (sg_join0 qs f4 s4) (f2.tr (f4.mono (fun _ _ q => xEm_le (by omega) q)))
    · exact hno g j τ4 (by rw [hp, hu, bd_o, hl, bd_n]) F4 (f2.tr (f4.mono (fun _ _ q => xEm_le (by omega) q)))
theorem sumD (hT : TkD σ K P V NM M) : ∀ d dp, dp ≤ 8 → 9 ≤ dp + d → ∀ i C τ, PrD σ M i C τ → RsD σ P M (smN K V d dp i) C τ (fun Q => wX0_sumN d (nI dp) τ Q)
  | 0, dp, h1, h2 => absurd h2 (by omega)
  | d + 1, dp, h1, h2 => by
    intro i C τ h
    have hUg : ∀ i, GdR (17 - 2 * dp) i (unP K V (smN K V d (dp + 1)) dp i) := fun i => un_gd hT.2.2.2.1 h1 (fun q i' => by
      have := smN_gd hT.2.2.2.1 d (dp + 1) (by omega) (by omega) i'
      rwa [show 19 - 2 * (dp + 1) = 17 - 2 * dp by omega] at this)
    have hU : ∀ i C τ, PrD σ M i C τ → RsD σ P M (unP K V (smN K V d (dp + 1)) dp i) C τ (fun Q => wX0_unit (wX0_sumN d) (nI dp) τ Q) := fun i C τ h => unitD hT (by omega) (fun q i C τ h => sumD hT d (dp + 1) (by omega) (by omega) i C τ h) h
    exact sumD1 hT hU hUg h
/-- as RsD, of what is told by a code -/
def RsG {α : Type} (σ : St) (P : Nat → Nat) (M : Nat) (cd : α → Ex) (x : Rs α) (C : Nat) (τ : St) (W : (Int32 → St → Prop) → Prop) : Prop := ∀ Q : Int32 → St → Prop, (∀ j E τ', x = .ok j E → AtD σ M j τ' → gv τ' 8 4 = nI (C + (cd E).length) → seg (gr τ' 36) C (cd E) → Fm (xEm C) τ τ' → Q 1 τ') → (∀ f j τ', x = .no f j → FlD P f j τ' → Fm (xEm C) τ τ' → Q 0 τ') → W Q
theorem sgn_ng {s : Nat} (h1 : 11 ≤ s) : -(nI s) = -(nI (11 + (s - 11))) := by rw [show 11 + (s - 11) = s by omega]
theorem relationD (hT : TkD σ K P V NM M) {i C : Nat} {τ : St} (h : PrD σ M i C τ) : RsG σ P M (fun r : Ex × Nat × Ex => rlX r.1 r.2.1 r.2.2) (rlP K V i) C τ (fun Q => wX0_relation τ Q) := by
  intro Q hok hno
  have hsl := h.2.2.1
  refine sumD hT 10 0 (by omega) (by omega) i C τ h _ (fun j L τ1 h1 A1 e1 s1 f1 => ⟨z11, fun _ => ?_⟩) (fun g j τ1 h1 F1 f1 => ⟨fun _ => hno g j τ1 (by unfold rlP; rw [h1, bd_n]) F1 f1, fun c => absurd rfl c⟩)
  obtain ⟨g1, g2, g3, _⟩ := sm_ok hT.2.2.2.1 h1
  have hK := hT.2.2.2.1.1 j
  have stp : (K j < 11 ∨ 14 < K j) → Q 0 τ1 := fun q => hno 1 j τ1 (by unfold rlP; rw [h1, bd_o, if_pos q]) (A1.no hT) f1
  refine kindD hT A1 ⟨fun c => stp (Or.inl ((nI_ltI (b := 11) (by omega) (by decide)).mp c)), fun c => ⟨fun c2 => stp (Or.inr ((nI_ltI (a := 14) (by decide) (by omega)).mp c2)), fun c2 => ?_⟩⟩
  have k1 : 11 ≤ K j := Nat.not_lt.mp (fun q => c ((nI_ltI (b := 11) (by omega) (by decide)).mpr q))
  have k2 : K j ≤ 14 := Nat.not_lt.mp (fun q => c2 ((nI_ltI (a := 14) (by decide) (by omega)).mpr q))
  have hp : rlP K V i = (tkP K (K j) j).bd fun k _ => (smN K V 10 0 k).bd fun l R => .ok l (L, K j - 11, R) := by
    unfold rlP
    rw [h1, bd_o, if_neg (by omega)]
  refine takeD (k := K j) hT A1 (by omega) (by omega) (fun τ2 _ hi ht A2 f2 => ⟨z11, fun _ => ?_⟩) (fun g τ2 ht F2 f2 => ⟨fun _ => hno g j τ2 (by rw [hp, ht, bd_n]) F2 (f1.tr (f2.mono (fun _ _ q => xTk_Em q))), fun c => absurd rfl c⟩)
  have f12 : Fm (xEm C) τ τ2 := f1.tr (f2.mono (fun _ _ q => xTk_Em q))
  have P2 : PrD σ M (j + 1) (C + L.length) τ2 := h.nx f12 A2 (e84 f2 e1) (by omega)
  have s2 : seg (gr τ2 36) C L := fun k c hk => (f2.2 36 _ rfl).trans (s1 k c hk)
  refine sumD hT 10 0 (by omega) (by omega) (j + 1) (C + L.length) τ2 P2 _ (fun l R τ3 h3 A3 e3 s3 f3 => ⟨z11, fun _ => ?_⟩) (fun g k τ3 h3 F3 f3 => ⟨fun _ => hno g k τ3 (by rw [hp, ht, bd_o, h3, bd_n]) F3 (f12.tr (f3.mono (fun _ _ q => xEm_le (by omega) q))), fun c => absurd rfl c⟩)
  obtain ⟨m1, m2, m3, _⟩ := sm_ok hT.2.2.2.1 h3
  have f13 : Fm (xEm C) τ τ3 := f12.tr (f3.mono (fun _ _ q => xEm_le (by omega) q))
  have hgn : gn τ3 = gn τ := f13.gn
  refine emitD (by rw [hgn]; exact h.2.2.2) e3 (by rw [hgn]; omega) (fun τ4 f4 g5 e4 x4 => ?_)
  have A4 : AtD σ M l τ4 := A3.em f4 g5
  have el : (L ++ R).length = L.length + R.length := List.length_append
  refine hok l (L, K j - 11, R) τ4 (by rw [hp, ht, bd_o, h3, bd_o]) A4 ?_ ?_ (f13.tr (f4.mono (fun _ _ q => xEm_le (by omega) q)))
  · show gv τ4 8 4 = nI (C + (rlX L (K j - 11) R).length)
    rw [e4]
    unfold rlX
    rw [List.length_append, List.length_append, List.length_singleton]
    congr 1
    omega
  · show seg (gr τ4 36) C (rlX L (K j - 11) R)
    unfold rlX
    rw [← sgn_ng k1]
    refine sg_app (sg_fm (sg_join0 s2 f3 s3) f4 (by omega)) (sg_one ?_)
    rw [el, ← Nat.add_assoc]
    exact x4
end BF
