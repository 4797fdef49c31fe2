/-! The law in the class: which rules are for a mill, what they open, what is broken. -/
def LwD (σ : St) (Ls : List Ru) : Prop := gn σ ≤ 7000 ∧ gv σ 8 1 = nI Ls.length ∧ Ls.length ≤ 30 ∧ (∀ r ∈ Ls, okRu r) ∧ ∃ A C, A ≤ 10 ∧ ∀ i r, Ls[i]? = some r → rpD (gn σ) A C (gr σ 27) (gr σ 28) (gr σ 29) (gr σ 30) (gr σ 31) (gr σ 32) (gr σ 34) (gr σ 35) (gr σ 36) i r
theorem LwD.keep {σ : St} {Ls : List Ru} {k : Nat} {f : Nat → Int32} (h : LwD σ Ls) (hk : 37 ≤ k) : LwD (pa σ k f) Ls := by
  have e : ∀ a, a < 37 → gr (pa σ k f) a = gr σ a := fun a ha => gr_pa_ne (by omega)
  unfold LwD at h ⊢
  rw [show gv (pa σ k f) 8 1 = gv σ 8 1 from congrFun (e 8 (by decide)) 1, gn_pa, e 27 (by decide), e 28 (by decide), e 29 (by decide), e 30 (by decide), e 31 (by decide), e 32 (by decide), e 34 (by decide), e 35 (by decide), e 36 (by decide)]
  exact h
theorem cdX_nil {l : List Rl} : (cdX l).length = 0 ↔ l = [] := by
  match l with
  | [] => simp [cdX]
  | (b, L, s, R) :: l => simp [cdX, rlX]
theorem i32_self {σ : St} {Q : Int32 → St → Prop} {r : Int32} (h : ∀ f, Q r (pa σ 38 f)) : Q r σ := by
  have := h (gr σ 38)
  rwa [pa_self] at this
section LD
variable {σ : St} {Q : Int32 → St → Prop} {Ls : List Ru}
theorem forD {i m : Nat} {r : Ru} (hL : LwD σ Ls) (hr : Ls[i]? = some r) (hm : m < 7) {d : Int32} (hd : gv σ 8 18 = d) (hQ : ∀ f, Q (b01 (ruF r m d (gr σ 37))) (pa σ 38 f)) : wX2_isFor (nI i) (nI m) σ Q := by
  obtain ⟨hgn, hn, h30, hok, A, C, hA, hrp⟩ := hL
  have hi : i < Ls.length := (List.getElem?_eq_some_iff.mp hr).1
  have vi : vp_in (nI i) 30 := vp_in_nI (by omega) (by decide)
  have ci : (nI i).toNatClampNeg = i := nI_clamp (by omega)
  obtain ⟨op, wh, ac, fr, un, E, mu, jf⟩ := r
  obtain ⟨p1, p2, p3, p4, p5, p6, s, p7, p8, p9, p10, p11, p12, p13⟩ := hrp i _ hr
  obtain ⟨k1, k2, k3, k4⟩ := hok _ (List.mem_of_getElem? hr)
  dsimp only at p1 p2 p3 p4 p5 p6 p8 p9 p10 p12 p13 k1 k4
  have q1 : gv σ 27 i = wh := p1
  have q4 : gv σ 32 i = nI ac := p4
  have q5 : gv σ 34 ac = fr := p5
  have q6 : gv σ 35 ac = un := p6
  have q8 : gv σ 29 i = nI (s + (bodyX (op, wh, ac, fr, un, E, mu, jf)).length) := p8
  have q9 : gv σ 30 i = nI (s + (bodyX (op, wh, ac, fr, un, E, mu, jf)).length + (cdX jf).length) := p9
  have va : vp_in (nI ac) 10 := vp_in_nI (by omega) (by decide)
  have ca : (nI ac).toNatClampNeg = ac := nI_clamp (by omega)
  -- the if
  have l38_1 : (∀ f, Q (b01 (jf.isEmpty || hlV (gr σ 37) false jf)) (pa σ 38 f)) → wX2_isFor_38 Q (nI i) 1 σ := by
    intro h
    refine ⟨fun c => absurd c z10, fun _ => ⟨vi, vi, ?_⟩⟩
    rw [ci, q8, q9]
    by_cases hj : jf = []
    · subst hj
      refine ⟨fun _ => ?_, fun c => absurd ?_ c⟩
      · exact i32_self h
      · simp [cdX]
    · have hlen : (cdX jf).length ≠ 0 := fun q => hj (cdX_nil.mp q)
      have hne : jf.isEmpty = false := by cases jf with | nil => exact absurd rfl hj | cons a l => rfl
      rw [hne, Bool.false_or] at h
      refine ⟨fun c => ?_, fun _ => ⟨vi, vi, ?_⟩⟩
      · rw [nI_eq (by omega) (by omega)] at c
        omega
      refine valD p13 (by omega) hgn (cdX_38 k4) (cdX_wf k4 hj) (fun f => ?_)
      rw [cdX_ev k4 hj]
      refine ⟨fun c => ?_, fun c => ?_⟩
      · have := h f
        rwa [c] at this
      · have := h f
        cases hb : hlV (gr σ 37) false jf with
        | false => rw [hb] at c; exact absurd rfl c
        | true => rw [hb] at this; exact this
  have l20 : (∀ f, Q (b01 (inF d fr un && (jf.isEmpty || hlV (gr σ 37) false jf))) (pa σ 38 f)) → wX2_isFor_20 Q (nI i) σ := by
    intro h
    refine ⟨vi, ?_⟩
    rw [ci, q4]
    have f0 : inF d fr un = false → wX2_isFor_37 Q (nI i) σ := fun e => by
      rw [e, Bool.false_and] at h
      exact ⟨fun _ => i32_self h, fun c => absurd rfl c⟩
    have f1 : inF d fr un = true → wX2_isFor_38 Q (nI i) 1 σ := fun e => by
      rw [e, Bool.true_and] at h
      exact l38_1 h
    refine ⟨fun c => absurd c (nI_pos (by omega)), fun _ => ⟨va, ?_⟩⟩
    rw [ca, q5, q6, hd]
    refine ⟨fun c => ⟨fun _ => f0 ?_, fun c => absurd rfl c⟩, fun c => ⟨va, fun c2 => ⟨fun c => absurd c z10, fun _ => f1 ?_⟩, fun c2 => ⟨va, fun c3 => ⟨fun _ => f0 ?_, fun c => absurd rfl c⟩, fun c3 => ⟨fun c => absurd c z10, fun _ => f1 ?_⟩⟩⟩⟩
    · simp [inF, i32_le.mpr c]
    · simp [inF, i32_lt.mp c, c2]
    · simp [inF, c2, i32_lt.mpr c3]
    · simp [inF, i32_lt.mp c, i32_le.mp c3]
  refine ⟨vi, ?_⟩
  rw [ci, q1]
  have e : ruF (op, wh, ac, fr, un, E, mu, jf) m d (gr σ 37) = ((decide (wh = -1) || decide (wh = nI m)) && inF d fr un && (jf.isEmpty || hlV (gr σ 37) false jf)) := rfl
  rw [e] at hQ
  refine ⟨fun c => l20 ?_, fun c => ⟨vi, fun c2 => l20 ?_, fun c2 => ⟨fun _ => i32_self ?_, fun c => absurd rfl c⟩⟩⟩
  · simpa [c] using hQ
  · simpa [c2] using hQ
  · have : ∀ f, Q (b01 false) (pa σ 38 f) := by simpa [c, c2] using hQ
    exact this
theorem bodyE {r : Ru} (h : okRu r) (ho : r.1 = true) : bodyX r = r.2.2.2.2.2.1 ∧ wfx 32 (bodyX r) 0 1 ∧ (∀ c ∈ bodyX r, c ≤ -27 → -38 ≤ c) := by
  have e : bodyX r = r.2.2.2.2.2.1 := by unfold bodyX; rw [ho]; rfl
  rw [e]
  exact ⟨rfl, wfx_mono (by decide) (h.2.1 ho).1, okE_38 (h.2.1 ho)⟩
theorem bodyC {r : Ru} (h : okRu r) (ho : r.1 = false) (v : Nat → Int32) : evX v (bodyX r) = b01 (hlV v false r.2.2.2.2.2.2.1) ∧ wfx 32 (bodyX r) 0 1 ∧ (∀ c ∈ bodyX r, c ≤ -27 → -38 ≤ c) := by
  have e : bodyX r = cdX r.2.2.2.2.2.2.1 := by unfold bodyX; rw [ho]; rfl
  obtain ⟨h1, h2⟩ := h.2.2.1 ho
  rw [e]
  exact ⟨cdX_ev h1 h2, cdX_wf h1 h2, cdX_38 h1⟩
/-- the body's value -/
theorem bodD {i : Nat} {r : Ru} (hL : LwD σ Ls) (hr : Ls[i]? = some r) (hw : wfx 32 (bodyX r) 0 1) (hc : ∀ c ∈ bodyX r, c ≤ -27 → -38 ≤ c) (hQ : ∀ f, Q (evX (gr σ 37) (bodyX r)) (pa σ 38 f)) : wX2_valueOf (gv σ 31 i) (gv σ 29 i) σ Q := by
  obtain ⟨hgn, hn, h30, hok, A, C, hA, hrp⟩ := hL
  obtain ⟨-, -, -, -, -, -, s, p7, p8, p9, p10, p11, p12, p13⟩ := hrp i _ hr
  rw [show gv σ 31 i = nI s from p7, show gv σ 29 i = nI (s + (bodyX r).length) from p8]
  exact valD p12 (by omega) hgn hc hw hQ
theorem opn01 {i : Nat} {r : Ru} (hL : LwD σ Ls) (hr : Ls[i]? = some r) : gv σ 28 i = b01 r.1 := by
  obtain ⟨hgn, hn, h30, hok, A, C, hA, hrp⟩ := hL
  exact (hrp i _ hr).2.1
theorem brkD {i m : Nat} {r : Ru} (hL : LwD σ Ls) (hr : Ls[i]? = some r) (hm : m < 7) {d : Int32} (hd : gv σ 8 18 = d) (hQ : ∀ f, Q (b01 (ruB r m d (gr σ 37))) (pa σ 38 f)) : wX2_isBroken (nI i) (nI m) σ Q := by
  have hi : i < Ls.length := (List.getElem?_eq_some_iff.mp hr).1
  have h30 := hL.2.2.1
  have vi : vp_in (nI i) 30 := vp_in_nI (by omega) (by decide)
  have ci : (nI i).toNatClampNeg = i := nI_clamp (by omega)
  have hok := hL.2.2.2.1 _ (List.mem_of_getElem? hr)
  refine ⟨vi, ?_⟩
  rw [ci, opn01 hL hr]
  unfold ruB at hQ
  cases ho : r.1 with
  | true =>
    rw [ho] at hQ
    exact ⟨fun c => absurd c z10, fun _ => i32_self hQ⟩
  | false =>
    rw [ho] at hQ
    obtain ⟨b1, b2, b3⟩ := bodyC hok ho (gr σ 37)
    refine ⟨fun _ => forD hL hr hm hd (fun f => ⟨fun c => ?_, fun c => ⟨vi, vi, ?_⟩⟩), fun c => absurd rfl c⟩
    · have e := b01_0.mp c
      have := hQ f
      rw [e] at this
      exact this
    · have e : ruF r m d (gr σ 37) = true := by
        cases hb : ruF r m d (gr σ 37) with
        | true => rfl
        | false => rw [hb] at c; exact absurd rfl c
      rw [e] at hQ
      have hL2 := hL.keep (k := 38) (f := f) (by decide)
      have e37 : gr (pa σ 38 f) 37 = gr σ 37 := gr_pa_ne (by decide)
      refine bodD hL2 hr b2 b3 (fun f2 => ?_)
      rw [e37, b1, pa_pa]
      have := hQ f2
      cases hb : hlV (gr σ 37) false r.2.2.2.2.2.2.1 with
      | false =>
        rw [hb] at this
        exact ⟨fun _ => this, fun c => absurd rfl c⟩
      | true =>
        rw [hb] at this
        exact ⟨fun c => absurd c z10, fun _ => this⟩
end LD
