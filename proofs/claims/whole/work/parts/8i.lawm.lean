/-! The law in the reference. -/
def LwM (σ : St) (Ls : List Ru) : Prop := gv σ 11 23 = nI Ls.length ∧ Ls.length ≤ 30 ∧ (∀ r ∈ Ls, okRu r) ∧ ∃ A NR CR, A ≤ 10 ∧ NR ≤ 6600 ∧ CR ≤ 20000 ∧ ∀ i r, Ls[i]? = some r → rpM A NR CR (gr σ 58) (gr σ 59) (gr σ 60) (gr σ 61) (gr σ 62) (gr σ 63) (gr σ 64) (gr σ 56) (gr σ 57) (gr σ 65) (gr σ 66) (gr σ 67) (gr σ 68) (gr σ 69) (gr σ 70) (gr σ 71) i r
theorem LwM.fm {X : Nat → Nat → Bool} {σ τ : St} {Ls : List Ru} (h : LwM σ Ls) (f : Fm X σ τ) (h8 : X 11 23 = false) (hx : ∀ a j, 56 ≤ a → a ≤ 71 → X a j = false) : LwM τ Ls := by
  unfold LwM at h ⊢
  rw [f.2 11 23 h8, f.gr (fun j => hx 56 j (by decide) (by decide)), f.gr (fun j => hx 57 j (by decide) (by decide)), f.gr (fun j => hx 58 j (by decide) (by decide)), f.gr (fun j => hx 59 j (by decide) (by decide)), f.gr (fun j => hx 60 j (by decide) (by decide)), f.gr (fun j => hx 61 j (by decide) (by decide)), f.gr (fun j => hx 62 j (by decide) (by decide)), f.gr (fun j => hx 63 j (by decide) (by decide)), f.gr (fun j => hx 64 j (by decide) (by decide)), f.gr (fun j => hx 65 j (by decide) (by decide)), f.gr (fun j => hx 66 j (by decide) (by decide)), f.gr (fun j => hx 67 j (by decide) (by decide)), f.gr (fun j => hx 68 j (by decide) (by decide)), f.gr (fun j => hx 69 j (by decide) (by decide)), f.gr (fun j => hx 70 j (by decide) (by decide)), f.gr (fun j => hx 71 j (by decide) (by decide))]
  exact h
theorem b01_n (b : Bool) : narrow .boolean (.int (b01 b)) = .int (b01 b) := by cases b <;> decide
theorem m92_self {σ : St} {Q : Int32 → St → Prop} {r : Int32} (h : ∀ f, Q r (pa σ 92 f)) : Q r σ := by
  have := h (gr σ 92)
  rwa [pa_self] at this
/-- variable's values in a state, the pile apart -/
def VrM (σ : St) (x3 x4 x5 : Int32) (v : Nat → Int32) : Prop := ∀ (k : Nat) (f : Nat → Int32) (Q' : Int32 → St → Prop), k < 12 → Q' (v k) (pa σ 92 f) → wX12_variable (nI k) x3 x4 x5 (pa σ 92 f) Q'
theorem VrM.keep {σ : St} {x3 x4 x5 : Int32} {v : Nat → Int32} {g : Nat → Int32} (h : VrM σ x3 x4 x5 v) : VrM (pa σ 92 g) x3 x4 x5 v := fun k f Q' hk hq => by
  rw [pa_pa] at hq ⊢
  exact h k f Q' hk hq
section HM
variable {σ : St} {Q : Int32 → St → Prop} {Ls : List Ru} {v : Nat → Int32} {x3 x4 x5 : Int32}
theorem rel_valM {L : Ex} {l : Nat} (hE : rpE (gr σ 70) (gr σ 71) l L) (hl : l + L.length ≤ 20000) (hok : okE L) (hv : VrM σ x3 x4 x5 v) (g : Nat → Int32) (h : ∀ f, Q (evX v L) (pa σ 92 f)) : wX12_value (nI l) (nI (l + L.length)) x3 x4 x5 (pa σ 92 g) Q := by
  have g70 : gr (pa σ 92 g) 70 = gr σ 70 := gr_pa_ne (by decide)
  have g71 : gr (pa σ 92 g) 71 = gr σ 71 := gr_pa_ne (by decide)
  refine valM (v := v) (by rw [g70, g71]; exact hE) hl hok.2 (wfx_mono (by decide) hok.1) hv.keep (fun f => ?_)
  rw [pa_pa]
  exact h f
theorem holds_loop {C E : Nat} (hC : C ≤ 20000) (hE6 : E ≤ 6600) (hv : VrM σ x3 x4 x5 v) {RES : Bool} (hQ : ∀ f, Q (b01 RES) (pa σ 92 f)) : ∀ (l : List Rl) (p : Nat) (all : Bool) (f : Nat → Int32), p + l.length = E → rpR (gr σ 65) (gr σ 66) (gr σ 67) (gr σ 68) (gr σ 69) (gr σ 70) (gr σ 71) C p l → (∀ r ∈ l, okR r) → hlV v all l = RES → wX12_holds_6 Q (l.length + 1) (nI E) x3 x4 x5 (b01 all) (nI p) (pa σ 92 f) := by
  intro l
  induction l with
  | nil =>
    intro p all f hp _ _ hR
    simp only [List.length_nil, Nat.add_zero] at hp
    subst hp
    have hR : all = RES := hR
    rw [hR]
    exact ⟨fun _ => ⟨b01_n _, hQ f⟩, fun c => absurd (Int32.le_refl _) c⟩
  | cons r l ih =>
    obtain ⟨o, L, s, R⟩ := r
    intro p all f hp hrp hok hR
    simp only [List.length_cons] at hp ⊢
    obtain ⟨⟨lo, q1, q2, q3, q4, q5, q6⟩, q7, q8, q9⟩ := hrp
    obtain ⟨k1, k2, k3⟩ := hok _ List.mem_cons_self
    dsimp only at k1 k2 k3
    have hok' : ∀ r ∈ l, okR r := fun r hr => hok r (List.mem_cons_of_mem _ hr)
    have vp : vp_in (nI p) 6600 := vp_in_nI (by omega) (by decide)
    have cp : (nI p).toNatClampNeg = p := nI_clamp (by omega)
    have rd : ∀ g a, a ≠ 92 → gv (pa σ 92 g) a p = gr σ a p := fun g a ha => by rw [gv_pa, if_neg ha]; rfl
    have nxt : ∀ (x : Int32) (a' : Bool) (f' : Nat → Int32), x = b01 a' → hlV v a' l = RES → wX12_holds_191 Q (fun x2' x3' x4' x5' x6' x7' σ' => wX12_holds_6 Q (l.length + 1) x2' x3' x4' x5' x6' x7' σ') (nI E) x3 x4 x5 x (nI p) (pa σ 92 f') := by
      intro x a' f' hx ha x7 e7
      rw [e7, nI_1, hx]
      exact ih (p + 1) a' f' (by omega) q9 hok' ha
    -- both sides of the relation
    have h42 : hlV v (rlV v L s R) l = RES → wX12_holds_42 Q (fun x2' x3' x4' x5' x6' x7' σ' => wX12_holds_6 Q (l.length + 1) x2' x3' x4' x5' x6' x7' σ') (nI E) x3 x4 x5 1 (nI p) (pa σ 92 f) := by
      intro hh
      refine ⟨fun c => absurd c z10, fun _ => ⟨vp, vp, ?_⟩⟩
      rw [cp, rd f 66 (by decide), rd f 67 (by decide), q1, q2]
      refine rel_valM q5 (by omega) k1 hv f (fun f2 => ⟨vp, vp, ?_⟩)
      rw [rd f2 67 (by decide), rd f2 68 (by decide), q2, q3]
      refine rel_valM q6 (by omega) k3 hv f2 (fun f3 => ⟨vp, ?_⟩)
      rw [rd f3 65 (by decide), q7]
      have fin : ∀ (x : Int32) (b : Bool), x = b01 b → rlV v L s R = b → wX12_holds_189 Q (fun x2' x3' x4' x5' x6' x7' σ' => wX12_holds_6 Q (l.length + 1) x2' x3' x4' x5' x6' x7' σ') (nI E) x3 x4 x5 (nI p) x (pa σ 92 f3) := fun x b hx hb => nxt x b f3 hx (by rw [← hb]; exact hh)
      rcases (show s = 0 ∨ s = 1 ∨ s = 2 ∨ s = 3 by omega) with rfl | rfl | rfl | rfl
      · refine ⟨fun _ => ⟨fun c => fin _ true rfl (by simp [rlV, c]), fun c => fin _ false rfl (by simp [rlV, c])⟩, fun c => absurd rfl c⟩
      · refine ⟨fun c => absurd c (by decide), fun _ => ⟨vp, fun _ => ⟨fun c => fin _ false rfl (by simp [rlV, c]), fun c => fin _ true rfl (by simp [rlV, c])⟩, fun c => absurd rfl c⟩⟩
      · refine ⟨fun c => absurd c (by decide), fun _ => ⟨vp, fun c => absurd c (by decide), fun _ => ⟨vp, fun _ => ⟨fun c => fin _ false rfl (by simp [rlV, i32_lt.mpr c]), fun c => fin _ true rfl (by simp [rlV, i32_le.mp c])⟩, fun c => absurd rfl c⟩⟩⟩
      · refine ⟨fun c => absurd c (by decide), fun _ => ⟨vp, fun c => absurd c (by decide), fun _ => ⟨vp, fun c => absurd c (by decide), fun _ => ⟨fun c => fin _ false rfl (by simp [rlV, i32_le.mpr c]), fun c => fin _ true rfl (by simp [rlV, i32_lt.mp c])⟩⟩⟩⟩
    rw [hlV] at hR
    rw [wX12_holds_6]
    refine ⟨fun c => absurd c (nI_ge (by omega) (by omega)), fun _ => ⟨vp, ?_⟩⟩
    unfold wX12_holds_29
    rw [cp, rd f 69 (by decide), q8]
    cases o with
    | false =>
      simp only [Bool.false_and, Bool.false_or, Bool.false_eq_true, if_false] at hR
      refine ⟨fun _ => ⟨vp, fun _ => ?_, fun c => absurd rfl c⟩, fun c => absurd rfl c⟩
      cases all with
      | false =>
        simp only [Bool.false_eq_true, if_false] at hR
        exact ⟨fun _ => nxt _ false f rfl hR, fun c => absurd rfl c⟩
      | true =>
        simp only [if_true] at hR
        exact h42 hR
    | true =>
      cases all with
      | true =>
        simp only [Bool.true_and, if_true] at hR
        refine ⟨fun c => absurd c z10, fun _ => ⟨fun c => absurd c z10, fun _ => ?_⟩⟩
        have := hQ f
        rw [← hR] at this
        exact this
      | false =>
        simp only [Bool.true_and, Bool.true_or, Bool.false_eq_true, if_false, if_true] at hR
        refine ⟨fun c => absurd c z10, fun _ => ⟨fun _ => ⟨vp, fun c => absurd c z10, fun _ => h42 hR⟩, fun c => absurd rfl c⟩⟩
theorem holdsM {C NR p : Nat} {l : List Rl} (hC : C ≤ 20000) (hNR : NR ≤ 6600) (hp : p + l.length ≤ NR) (hrp : rpR (gr σ 65) (gr σ 66) (gr σ 67) (gr σ 68) (gr σ 69) (gr σ 70) (gr σ 71) C p l) (hok : ∀ r ∈ l, okR r) (hv : VrM σ x3 x4 x5 v) (hQ : ∀ f, Q (b01 (hlV v false l)) (pa σ 92 f)) : wX12_holds (nI p) (nI (p + l.length)) x3 x4 x5 σ Q := by
  have := holds_loop (Q := Q) hC (show p + l.length ≤ 6600 by omega) hv hQ l p false (gr σ 92) rfl hrp hok rfl
  rw [pa_self] at this
  exact ⟨l.length + 1, this⟩
theorem cntM {i m h : Nat} {r : Ru} (hL : LwM σ Ls) (hr : Ls[i]? = some r) (hm : m < 7) (hh : h < 240) (hv : VrM σ (nI m) (nI h) x5 v) (hQ : ∀ f, Q (b01 (ruF r m (nI (h / 24)) v)) (pa σ 92 f)) : wX12_counts (nI i) (nI m) (nI h) x5 σ Q := by
  obtain ⟨hn, h30, hok, A, NR, CR, hA, hNR, hCR, hrp⟩ := hL
  have hi : i < Ls.length := (List.getElem?_eq_some_iff.mp hr).1
  have vi : vp_in (nI i) 31 := vp_in_nI (by omega) (by decide)
  have ci : (nI i).toNatClampNeg = i := nI_clamp (by omega)
  have e24 : nI h / 24 = nI (h / 24) := pk_div (d := 24) (by omega) (by decide) (by decide)
  obtain ⟨op, wh, ac, fr, un, E, mu, jf⟩ := r
  obtain ⟨p1, p2, p3, p4, p5, p6, p7, s, p8, p9, p10, p11⟩ := hrp i _ hr
  obtain ⟨k1, k2, k3, k4⟩ := hok _ (List.mem_of_getElem? hr)
  dsimp only at p1 p3 p4 p5 p6 p8 p9 p10 p11 k4
  have q1 : gv σ 59 i = wh := p1
  have q4 : gv σ 58 i = nI ac := p4
  have q5 : gv σ 56 ac = fr := p5
  have q6 : gv σ 57 ac = un := p6
  have q8 : gv σ 63 i = nI s := p8
  have q9 : gv σ 64 i = nI (s + jf.length) := p9
  have va : vp_in (nI ac) 11 := vp_in_nI (by omega) (by decide)
  have ca : (nI ac).toNatClampNeg = ac := nI_clamp (by omega)
  have l77 : (∀ f, Q (b01 (jf.isEmpty || hlV v false jf)) (pa σ 92 f)) → wX12_counts_77 Q (nI i) (nI m) (nI h) x5 σ := by
    intro hq
    refine ⟨vi, vi, ?_⟩
    rw [ci, q8, q9]
    by_cases hj : jf = []
    · subst hj
      exact ⟨fun _ => m92_self hq, fun c => absurd rfl c⟩
    · have hlen : jf.length ≠ 0 := fun q => hj (List.eq_nil_of_length_eq_zero q)
      have hne : jf.isEmpty = false := by cases jf with | nil => exact absurd rfl hj | cons a l => rfl
      rw [hne, Bool.false_or] at hq
      refine ⟨fun c => ?_, fun _ => ⟨vi, vi, ?_⟩⟩
      · rw [nI_eq (by omega) (by omega)] at c
        omega
      refine holdsM hCR hNR p10 p11 k4.1 hv (fun f => ?_)
      have := hq f
      cases hb : hlV v false jf with
      | false =>
        rw [hb] at this
        exact ⟨fun _ => this, fun c => absurd rfl c⟩
      | true =>
        rw [hb] at this
        exact ⟨fun c => absurd c z10, fun _ => this⟩
  have l22 : (∀ f, Q (b01 (inF (nI (h / 24)) fr un && (jf.isEmpty || hlV v false jf))) (pa σ 92 f)) → wX12_counts_22 Q (nI i) (nI m) (nI h) x5 σ := by
    intro hq x5_1 e5
    rw [e24] at e5
    rw [e5]
    refine ⟨vi, ?_⟩
    rw [ci, q4]
    refine ⟨va, ?_⟩
    rw [ca, q5, q6]
    have f0 : inF (nI (h / 24)) fr un = false → Q 0 σ := fun e => by
      rw [e, Bool.false_and] at hq
      exact m92_self hq
    have f1 : inF (nI (h / 24)) fr un = true → wX12_counts_77 Q (nI i) (nI m) (nI h) x5 σ := fun e => by
      rw [e, Bool.true_and] at hq
      exact l77 hq
    refine ⟨fun c => f0 ?_, fun c => ⟨vi, va, fun c2 => f1 ?_, fun c2 => ⟨vi, va, fun c3 => f1 ?_, fun c3 => f0 ?_⟩⟩⟩
    · simp [inF, i32_le.mpr c]
    · simp [inF, i32_lt.mp c, c2]
    · simp [inF, i32_lt.mp c, c3]
    · simp [inF, c2, c3]
  refine ⟨vi, ?_⟩
  rw [ci, q1]
  have e : ruF (op, wh, ac, fr, un, E, mu, jf) m (nI (h / 24)) v = ((decide (wh = -1) || decide (wh = nI m)) && inF (nI (h / 24)) fr un && (jf.isEmpty || hlV v false jf)) := rfl
  rw [e] at hQ
  refine ⟨fun c => l22 ?_, fun c => ⟨vi, fun c2 => l22 ?_, fun c2 => m92_self ?_⟩⟩
  · simpa [c] using hQ
  · simpa [c2] using hQ
  · have : ∀ f, Q (b01 false) (pa σ 92 f) := by simpa [c, c2] using hQ
    exact this
theorem opn01M {i : Nat} {r : Ru} (hL : LwM σ Ls) (hr : Ls[i]? = some r) : gv σ 60 i = b01 r.1 := by
  obtain ⟨hn, h30, hok, A, NR, CR, hA, hNR, hCR, hrp⟩ := hL
  exact (hrp i _ hr).2.1
theorem LwM.keep {f : Nat → Int32} (h : LwM σ Ls) : LwM (pa σ 92 f) Ls := h.fm (X := fun a _ => a == 92) (Fm_pa (fun _ => by simp)) rfl (fun a j h1 h2 => by simp; omega)
theorem brkM {i m h : Nat} {r : Ru} (hL : LwM σ Ls) (hr : Ls[i]? = some r) (hm : m < 7) (hh : h < 240) (hv : VrM σ (nI m) (nI h) (-1) v) (hQ : ∀ f, Q (b01 (ruB r m (nI (h / 24)) v)) (pa σ 92 f)) : wX12_breaks (nI i) (nI m) (nI h) σ Q := by
  have hi : i < Ls.length := (List.getElem?_eq_some_iff.mp hr).1
  have h30 := hL.2.1
  have vi : vp_in (nI i) 31 := vp_in_nI (by omega) (by decide)
  have ci : (nI i).toNatClampNeg = i := nI_clamp (by omega)
  have hok := hL.2.2.1 _ (List.mem_of_getElem? hr)
  refine ⟨vi, ?_⟩
  rw [ci, opn01M hL hr]
  unfold ruB at hQ
  cases ho : r.1 with
  | true =>
    rw [ho] at hQ
    exact ⟨fun c => absurd c z10, fun _ => m92_self hQ⟩
  | false =>
    rw [ho] at hQ
    refine ⟨fun _ => cntM hL hr hm hh hv (fun f => ⟨fun c => ?_, fun c => ⟨vi, vi, ?_⟩⟩), fun c => absurd rfl c⟩
    · have e := b01_0.mp c
      have := hQ f
      rw [e] at this
      exact this
    · have e : ruF r m (nI (h / 24)) v = true := by
        cases hb : ruF r m (nI (h / 24)) v with
        | true => rfl
        | false => rw [hb] at c; exact absurd rfl c
      rw [e] at hQ
      obtain ⟨-, -, -, A, NR, CR, hA, hNR, hCR, hrp⟩ := hL.keep (f := f)
      obtain ⟨-, -, -, -, -, -, ⟨s, p7, p8⟩, -⟩ := hrp i _ hr
      rw [ho, if_neg (by decide)] at p8
      rw [show gv (pa σ 92 f) 61 i = nI s from p7, show gv (pa σ 92 f) 62 i = nI (s + r.2.2.2.2.2.2.1.length) from p8.1]
      refine holdsM hCR hNR p8.2.1 p8.2.2 (hok.2.2.1 ho).1.1 hv.keep (fun f2 => ?_)
      rw [pa_pa]
      have := hQ f2
      cases hb : hlV v false r.2.2.2.2.2.2.1 with
      | false =>
        rw [hb] at this
        exact ⟨fun _ => this, fun c => absurd rfl c⟩
      | true =>
        rw [hb] at this
        exact ⟨fun c => absurd c z10, fun _ => this⟩
/-- what an opens tells -/
theorem opvM {i m h : Nat} {r : Ru} (hL : LwM σ Ls) (hr : Ls[i]? = some r) (ho : r.1 = true) (hv : VrM σ (nI m) (nI h) x5 v) (g : Nat → Int32) (hQ : ∀ f, Q (evX v r.2.2.2.2.2.1) (pa σ 92 f)) : wX12_value (gv (pa σ 92 g) 61 i) (gv (pa σ 92 g) 62 i) (nI m) (nI h) x5 (pa σ 92 g) Q := by
  obtain ⟨hn, h30, hok, A, NR, CR, hA, hNR, hCR, hrp⟩ := hL
  obtain ⟨-, -, -, -, -, -, ⟨s, p7, p8⟩, -⟩ := hrp i _ hr
  rw [ho, if_pos rfl] at p8
  have e1 : gv (pa σ 92 g) 61 i = nI s := by rw [gv_pa, if_neg (by decide)]; exact p7
  have e2 : gv (pa σ 92 g) 62 i = nI (s + r.2.2.2.2.2.1.length) := by rw [gv_pa, if_neg (by decide)]; exact p8.1
  rw [e1, e2]
  exact rel_valM p8.2.2 (by omega) ((hok _ (List.mem_of_getElem? hr)).2.1 ho) hv g hQ
end HM
