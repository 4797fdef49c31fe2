/-! Postfix code and conditions, as values. -/
theorem evS_app {v : Nat → Int32} {xs ys : Ex} {st : List Int32} : evS v (xs ++ ys) st = evS v ys (evS v xs st) := List.foldl_append
theorem evS_cons {v : Nat → Int32} {c : Int32} {cs : Ex} {st : List Int32} : evS v (c :: cs) st = evS v cs (stp v st c) := rfl
theorem wfx_mono {B B' : Nat} (hB : B ≤ B') : ∀ {cs : Ex} {d e : Nat}, wfx B cs d e → wfx B' cs d e
  | [], _, _, h => h
  | c :: cs, d, e, h => by
    rw [wfx] at h ⊢
    by_cases g1 : psh c = true
    · rw [if_pos g1] at h ⊢
      exact ⟨by omega, wfx_mono hB h.2⟩
    · rw [if_neg g1] at h ⊢
      by_cases g2 : c = -15
      · rw [if_pos g2] at h ⊢
        exact ⟨h.1, wfx_mono hB h.2⟩
      · rw [if_neg g2] at h ⊢
        exact ⟨h.1, wfx_mono hB h.2⟩
theorem wfx_shift {B : Nat} (k : Nat) : ∀ {cs : Ex} {d e : Nat}, wfx B cs d e → wfx (B + k) cs (d + k) (e + k)
  | [], _, _, h => congrArg (· + k) h
  | c :: cs, d, e, h => by
    rw [wfx] at h ⊢
    by_cases g1 : psh c = true
    · rw [if_pos g1] at h ⊢
      refine ⟨by omega, ?_⟩
      have := wfx_shift k h.2
      rw [show d + 1 + k = d + k + 1 by omega] at this
      exact this
    · rw [if_neg g1] at h ⊢
      by_cases g2 : c = -15
      · rw [if_pos g2] at h ⊢
        exact ⟨by omega, wfx_shift k h.2⟩
      · rw [if_neg g2] at h ⊢
        refine ⟨by omega, ?_⟩
        have := wfx_shift k h.2
        rw [show d - 1 + k = d + k - 1 by omega] at this
        exact this
theorem wfx_app {B : Nat} : ∀ {xs ys : Ex} {d m e : Nat}, wfx B xs d m → wfx B ys m e → wfx B (xs ++ ys) d e
  | [], _, _, _, _, h1, h2 => by
    have h1 : _ = _ := h1
    rw [h1]
    exact h2
  | c :: xs, ys, d, m, e, h1, h2 => by
    rw [List.cons_append]
    rw [wfx] at h1 ⊢
    by_cases g1 : psh c = true
    · rw [if_pos g1] at h1 ⊢
      exact ⟨h1.1, wfx_app h1.2 h2⟩
    · rw [if_neg g1] at h1 ⊢
      by_cases g2 : c = -15
      · rw [if_pos g2] at h1 ⊢
        exact ⟨h1.1, wfx_app h1.2 h2⟩
      · rw [if_neg g2] at h1 ⊢
        exact ⟨h1.1, wfx_app h1.2 h2⟩
theorem evS_wf {v : Nat → Int32} {B : Nat} : ∀ {cs : Ex} {e : Nat} {top : List Int32}, wfx B cs top.length e → ∀ bot, evS v cs (top ++ bot) = evS v cs top ++ bot ∧ (evS v cs top).length = e
  | [], _, _, h, _ => ⟨rfl, h⟩
  | c :: cs, e, top, h, bot => by
    rw [wfx] at h
    rw [evS_cons, evS_cons]
    by_cases g1 : psh c = true
    · rw [if_pos g1] at h
      rw [stp_p g1, stp_p g1]
      exact evS_wf (top := vlc v c :: top) h.2 bot
    · rw [if_neg g1] at h
      have g1' : psh c = false := by simpa using g1
      by_cases g2 : c = -15
      · rw [if_pos g2] at h
        match top, h with
        | a :: r, h =>
          rw [List.cons_append, stp_n g1' g2, stp_n g1' g2]
          exact evS_wf (top := -a :: r) h.2 bot
      · rw [if_neg g2] at h
        match top, h with
        | b :: a :: r, h =>
          rw [List.cons_append, List.cons_append, stp_b g1' g2, stp_b g1' g2]
          exact evS_wf (top := jnd (-c) a b :: r) h.2 bot
theorem evS_E {v : Nat → Int32} {B : Nat} {E : Ex} (h : wfx B E 0 1) (st : List Int32) : evS v E st = evX v E :: st := by
  obtain ⟨h1, h2⟩ := evS_wf (v := v) (top := []) h st
  rw [List.nil_append] at h1
  rw [h1]
  unfold evX
  match evS v E [], h2 with
  | [x], _ => rfl
theorem b01_or (a b : Bool) : b01 a ||| b01 b = b01 (a || b) := by cases a <;> cases b <;> decide
theorem b01_and (a b : Bool) : b01 a &&& b01 b = b01 (a && b) := by cases a <;> cases b <;> decide
theorem b01_0 {b : Bool} : b01 b = 0 ↔ b = false := by cases b <;> decide
theorem sgn_cases {s : Nat} (h : s ≤ 3) : psh (-(nI (11 + s))) = false ∧ ¬ (-(nI (11 + s))) = -15 ∧ ¬ (-(nI (11 + s))) ≤ -27 := by
  rcases (show s = 0 ∨ s = 1 ∨ s = 2 ∨ s = 3 by omega) with rfl | rfl | rfl | rfl <;> decide
theorem rel_ev {v : Nat → Int32} {L R : Ex} {s B : Nat} (hL : wfx B L 0 1) (hR : wfx B R 0 1) (hs : s ≤ 3) (st : List Int32) : evS v (rlX L s R) st = b01 (rlV v L s R) :: st := by
  unfold rlX
  rw [evS_app, evS_app, evS_E hL, evS_E hR, evS_cons, stp_b (sgn_cases hs).1 (sgn_cases hs).2.1, Int32.neg_neg]
  show _ :: st = _ :: st
  congr 1
  unfold rlV
  rcases (show s = 0 ∨ s = 1 ∨ s = 2 ∨ s = 3 by omega) with rfl | rfl | rfl | rfl <;> rfl
theorem cdT_ev {v : Nat → Int32} : ∀ (l : List Rl), (∀ r ∈ l, okR r) → ∀ (w t o : Bool) (st : List Int32), evS v (cdT w l) (b01 t :: (if w then b01 o :: st else st)) = b01 ((w && o) || hlV v t l) :: st
  | [], _, w, t, o, st => by
    cases w with
    | false => simp [cdT, evS, hlV]
    | true =>
      simp only [cdT, if_true, evS_cons]
      rw [stp_b (by decide) (by decide)]
      show (b01 o ||| b01 t) :: st = _
      rw [b01_or]
      simp [hlV]
  | (b, L, s, R) :: l, h, w, t, o, st => by
    obtain ⟨hL, hs, hR⟩ := h _ List.mem_cons_self
    have hl : ∀ r ∈ l, okR r := fun r hr => h r (List.mem_cons_of_mem _ hr)
    cases b with
    | true =>
      have ih := cdT_ev (v := v) l hl true (rlV v L s R)
      cases w with
      | false =>
        simp only [cdT, if_true, List.nil_append, evS_app, Bool.false_eq_true, if_false]
        rw [rel_ev hL.1 hR.1 hs]
        have := ih t st
        simp only [if_true] at this
        rw [this]
        simp only [hlV, Bool.true_and, Bool.false_and, Bool.false_or, Bool.true_or, if_true]
        cases t <;> simp
      | true =>
        simp only [cdT, if_true, evS_app, evS_cons]
        rw [stp_b (by decide) (by decide)]
        show evS v (cdT true l) (evS v (rlX L s R) ((b01 o ||| b01 t) :: st)) = _
        rw [b01_or, rel_ev hL.1 hR.1 hs]
        have := ih (o || t) st
        simp only [if_true] at this
        rw [this]
        simp only [hlV, Bool.true_and, Bool.true_or, if_true]
        cases t <;> cases o <;> simp
    | false =>
      simp only [cdT, Bool.false_eq_true, if_false, evS_app, evS_cons]
      rw [rel_ev hL.1 hR.1 hs, stp_b (by decide) (by decide)]
      show evS v (cdT w l) ((b01 t &&& b01 (rlV v L s R)) :: (if w then b01 o :: st else st)) = _
      rw [b01_and, cdT_ev l hl w (t && rlV v L s R) o st]
      simp only [hlV, Bool.false_and, Bool.false_or, Bool.false_eq_true, if_false]
      cases t <;> simp
theorem cdX_ev {v : Nat → Int32} {l : List Rl} (h : okC l) (hne : l ≠ []) : evX v (cdX l) = b01 (hlV v false l) := by
  match l, h, hne with
  | (b, L, s, R) :: l, h, _ =>
    obtain ⟨hL, hs, hR⟩ := h.1 _ List.mem_cons_self
    have hb : b = true := h.2 _ rfl
    subst hb
    have := cdT_ev (v := v) l (fun r hr => h.1 r (List.mem_cons_of_mem _ hr)) false (rlV v L s R) false []
    simp only [Bool.false_eq_true, if_false] at this
    unfold evX
    rw [cdX, evS_app, rel_ev hL.1 hR.1 hs, this]
    simp [hlV]
theorem rl_wf {L R : Ex} {s d : Nat} (hL : wfx 19 L 0 1) (hR : wfx 19 R 0 1) (hs : s ≤ 3) (hd : d ≤ 10) : wfx 32 (rlX L s R) d (d + 1) := by
  unfold rlX
  have h1 : wfx 32 L d (d + 1) := by
    have := wfx_mono (B' := 32) (by omega) (wfx_shift d hL)
    rwa [Nat.zero_add, Nat.add_comm 1 d] at this
  have h2 : wfx 32 R (d + 1) (d + 2) := by
    have := wfx_mono (B' := 32) (by omega) (wfx_shift (d + 1) hR)
    rwa [Nat.zero_add, show 1 + (d + 1) = d + 2 by omega] at this
  refine wfx_app (wfx_app h1 h2) ?_
  rw [wfx, (sgn_cases hs).1, if_neg (by decide), if_neg (sgn_cases hs).2.1]
  exact ⟨by omega, show d + 2 - 1 = d + 1 by omega⟩
theorem bin_wf {c : Int32} {d : Nat} (h1 : psh c = false) (h2 : ¬ c = -15) : wfx 32 [c] (d + 2) (d + 1) := by
  rw [wfx, h1, if_neg (by decide), if_neg h2]
  exact ⟨by omega, show d + 2 - 1 = d + 1 by omega⟩
theorem cdT_wf : ∀ (l : List Rl), (∀ r ∈ l, okR r) → ∀ (w : Bool), wfx 32 (cdT w l) (if w then 2 else 1) 1
  | [], _, w => by
    cases w with
    | false => exact (rfl : 1 = 1)
    | true => exact bin_wf (d := 0) (by decide) (by decide)
  | (b, L, s, R) :: l, h, w => by
    obtain ⟨hL, hs, hR⟩ := h _ List.mem_cons_self
    have hl : ∀ r ∈ l, okR r := fun r hr => h r (List.mem_cons_of_mem _ hr)
    cases b with
    | true =>
      have ih := cdT_wf l hl true
      simp only [if_true] at ih
      cases w with
      | false =>
        simp only [cdT, if_true, Bool.false_eq_true, if_false, List.nil_append]
        exact wfx_app (rl_wf hL.1 hR.1 hs (by omega)) ih
      | true =>
        simp only [cdT, if_true]
        exact wfx_app (wfx_app (bin_wf (d := 0) (by decide) (by decide)) (rl_wf hL.1 hR.1 hs (by omega))) ih
    | false =>
      simp only [cdT, Bool.false_eq_true, if_false]
      have ih := cdT_wf l hl w
      cases w with
      | false => exact wfx_app (wfx_app (rl_wf hL.1 hR.1 hs (by simp)) (bin_wf (d := 0) (by decide) (by decide))) ih
      | true => exact wfx_app (wfx_app (rl_wf hL.1 hR.1 hs (by simp)) (bin_wf (d := 1) (by decide) (by decide))) ih
theorem cdX_wf {l : List Rl} (h : okC l) (hne : l ≠ []) : wfx 32 (cdX l) 0 1 := by
  match l, h, hne with
  | (b, L, s, R) :: l, h, _ =>
    obtain ⟨hL, hs, hR⟩ := h.1 _ List.mem_cons_self
    exact wfx_app (rl_wf hL.1 hR.1 hs (by omega)) (by have := cdT_wf l (fun r hr => h.1 r (List.mem_cons_of_mem _ hr)) false; simpa using this)
theorem okE_38 {E : Ex} (h : okE E) : ∀ c ∈ E, c ≤ -27 → -38 ≤ c := by
  intro c hc h2
  rcases h.2 c hc with g | g | g | g | g | g
  · exact absurd (Int32.le_trans g.1 h2) (by decide)
  · exact g.1
  all_goals (rw [g] at h2; exact absurd h2 (by decide))
theorem rlX_38 {r : Rl} (h : okR r) : ∀ c ∈ rlX r.2.1 r.2.2.1 r.2.2.2, c ≤ -27 → -38 ≤ c := by
  intro c hc h2
  unfold rlX at hc
  rcases List.mem_append.mp hc with hc | hc
  · rcases List.mem_append.mp hc with hc | hc
    · exact okE_38 h.1 c hc h2
    · exact okE_38 h.2.2 c hc h2
  · rw [List.mem_singleton.mp hc] at h2
    exact absurd h2 (sgn_cases h.2.1).2.2
theorem cdT_38 : ∀ (l : List Rl), (∀ r ∈ l, okR r) → ∀ (w : Bool), ∀ c ∈ cdT w l, c ≤ -27 → -38 ≤ c
  | [], _, w, c, hc, h2 => by
    cases w with
    | false => simp [cdT] at hc
    | true =>
      simp only [cdT, if_true] at hc
      rw [List.mem_singleton.mp hc] at h2
      exact absurd h2 (by decide)
  | (b, L, s, R) :: l, h, w, c, hc, h2 => by
    have hr := rlX_38 (h _ List.mem_cons_self) c
    have hl : ∀ r ∈ l, okR r := fun r hr => h r (List.mem_cons_of_mem _ hr)
    have h25 : c ∈ ([-25] : Ex) → False := fun q => by
      rw [List.mem_singleton.mp q] at h2
      exact absurd h2 (by decide)
    have h26 : c ∈ ([-26] : Ex) → False := fun q => by
      rw [List.mem_singleton.mp q] at h2
      exact absurd h2 (by decide)
    cases b with
    | true =>
      simp only [cdT, if_true] at hc
      rcases List.mem_append.mp hc with hc | hc
      · rcases List.mem_append.mp hc with hc | hc
        · cases w with
          | false => simp at hc
          | true => exact (h25 hc).elim
        · exact hr hc h2
      · exact cdT_38 l hl true c hc h2
    | false =>
      simp only [cdT, Bool.false_eq_true, if_false] at hc
      rcases List.mem_append.mp hc with hc | hc
      · rcases List.mem_append.mp hc with hc | hc
        · exact hr hc h2
        · exact (h26 hc).elim
      · exact cdT_38 l hl w c hc h2
theorem cdX_38 {l : List Rl} (h : okC l) : ∀ c ∈ cdX l, c ≤ -27 → -38 ≤ c := by
  match l, h with
  | [], _ => intro c hc; cases hc
  | (b, L, s, R) :: l, h =>
    intro c hc h2
    rcases List.mem_append.mp hc with hc | hc
    · exact rlX_38 (h.1 _ List.mem_cons_self) c hc h2
    · exact cdT_38 l (fun r hr => h.1 r (List.mem_cons_of_mem _ hr)) false c hc h2
