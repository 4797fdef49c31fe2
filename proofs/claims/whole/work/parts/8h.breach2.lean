/-! The class: breach. -/
theorem fdR_le {Bk : Nat → Nat → Bool} {m : Nat} : ∀ (d r i i' : Nat), fdR Bk m d r i = .inr i' → i' ≤ i
  | 0, _, i, i', h => by
    have h : Sum.inr i = Sum.inr i' := h
    cases h
    exact Nat.le_refl _
  | d + 1, r, i, i', h => by
    rw [fdR] at h
    by_cases hb : Bk m r = true
    · rw [if_pos hb] at h
      by_cases hi : i = 0
      · rw [if_pos hi] at h
        cases h
      · rw [if_neg hi] at h
        have := fdR_le d (r + 1) (i - 1) i' h
        omega
    · rw [if_neg hb] at h
      exact fdR_le d (r + 1) i i' h
theorem fdM_zero {Bk : Nat → Nat → Bool} : ∀ (d m i : Nat), fdM Bk 0 d m i = -1
  | 0, _, _ => rfl
  | d + 1, m, i => fdM_zero d (m + 1) i
theorem fdR_congr {Bk Bk' : Nat → Nat → Bool} {m : Nat} (h : ∀ r, Bk m r = Bk' m r) : ∀ (d r i : Nat), fdR Bk m d r i = fdR Bk' m d r i
  | 0, _, _ => rfl
  | d + 1, r, i => by
    rw [fdR, fdR, h r, fdR_congr h d, fdR_congr h d]
theorem fdM_congr {Bk Bk' : Nat → Nat → Bool} {R n : Nat} (h : ∀ m r, m < n → Bk m r = Bk' m r) : ∀ (d m i : Nat), m + d ≤ n → fdM Bk R d m i = fdM Bk' R d m i
  | 0, _, _, _ => rfl
  | d + 1, m, i, hm => by
    rw [fdM, fdM, fdR_congr (fun r => h m r (by omega))]
    congr 1
    funext i'
    exact fdM_congr h d (m + 1) i' (by omega)
theorem bkW_some {c : Cf} {r : Rw} {h m q : Nat} {x : Ru} (hq : c.2.2.2.2.2.2[q]? = some x) : bkW c r h m q = ruB x m (nI (h / 24)) (envB c r h m) := by
  unfold bkW
  rw [hq]
  rfl
theorem bkW_none {c : Cf} {r : Rw} {h m q : Nat} (hq : c.2.2.2.2.2.2[q]? = none) : bkW c r h m q = false := by
  unfold bkW
  rw [hq]
  rfl
theorem bkW_congr {c : Cf} {r r' : Rw} {h m : Nat} (hok : ∀ x ∈ c.2.2.2.2.2.2, okRu x) (hm : m < c.1) (hr : ∀ i m', i < 10 → m' < c.1 → r i m' = r' i m') (q : Nat) : bkW c r h m q = bkW c r' h m q := by
  cases hq : c.2.2.2.2.2.2[q]? with
  | none => rw [bkW_none hq, bkW_none hq]
  | some x =>
    rw [bkW_some hq, bkW_some hq]
    refine ruB_congr (fun j hj => ?_) (hok x (List.mem_of_getElem? hq)) _ _
    rcases (show j = 0 ∨ j = 1 ∨ j = 2 ∨ j = 3 ∨ j = 4 ∨ j = 5 ∨ j = 6 ∨ j = 7 ∨ j = 8 ∨ j = 9 ∨ j = 10 ∨ j = 11 by omega) with rfl | rfl | rfl | rfl | rfl | rfl | rfl | rfl | rfl | rfl | rfl | rfl
    · exact hr 0 m (by decide) hm
    · rfl
    · rfl
    · simp only [envB, envO]
      by_cases q : m + 1 < c.1
      · rw [if_pos q, if_pos q, hr 0 (m + 1) (by decide) q]
      · rw [if_neg q, if_neg q]
    · simp only [envB, envO]
      by_cases q : 0 < m
      · rw [if_pos q, if_pos q, hr 0 (m - 1) (by decide) (by omega)]
      · rw [if_neg q, if_neg q]
    · exact hr 1 m (by decide) hm
    · exact hr 2 m (by decide) hm
    · exact hr 3 m (by decide) hm
    · rfl
    · rfl
    · exact hr 6 m (by decide) hm
    · exact hr 9 m (by decide) hm
section BR
variable {σ0 σ S : St} {Q : Int32 → St → Prop} {Ls : List Ru} {k h m n O : Nat}
theorem brk_inner {K : Int32 → Int32 → Int32 → St → Prop} (hL : LwD S Ls) (hm : m < 7) {dd : Int32} (hd : gv S 8 18 = dd) {I : Nat} (hI : I < 2 ^ 31) {Bk : Nat → Nat → Bool} (hB : ∀ q x, Ls[q]? = some x → Bk m q = ruB x m dd (gr S 37)) {RES : Int32 ⊕ Nat}
    (hin : ∀ x f, RES = .inl x → Q x (pa S 38 f)) (hgo : ∀ i' f, RES = .inr i' → K (nI I) (nI (I - i')) (nI (m + 1)) (pa S 38 f)) :
    ∀ (d r a : Nat) (f : Nat → Int32), r + d = Ls.length → a ≤ I → a ≤ r + 300 * m → fdR Bk m d r (I - a) = RES → wX10_breach_54 k Q K (d + 1) (nI I) (nI a) (nI m) (nI r) (pa S 38 f) := by
  have h30 := hL.2.2.1
  intro d
  induction d with
  | zero =>
    intro r a f hr ha _ hR
    refine ⟨fun _ => ?_, fun c => ?_⟩
    · rintro x5 rfl
      rw [nI_1]
      have := hgo (I - a) f hR.symm
      rwa [show I - (I - a) = a by omega] at this
    · rw [gv_pa, if_neg (by decide), hL.2.1, ← hr] at c
      exact absurd (Int32.le_refl _) c
  | succ d ih =>
    intro r a f hr ha ha2 hR
    have hrl : r < Ls.length := by omega
    obtain ⟨x, hx⟩ : ∃ x, Ls[r]? = some x := ⟨_, List.getElem?_eq_getElem hrl⟩
    have hLf := hL.keep (k := 38) (f := f) (by decide)
    have g37 : gr (pa S 38 f) 37 = gr S 37 := gr_pa_ne (by decide)
    rw [wX10_breach_54]
    refine ⟨fun c => ?_, fun _ => brkD (d := dd) hLf hx hm (by rw [gv_pa, if_neg (by decide)]; exact hd) (fun f2 => ?_)⟩
    · rw [gv_pa, if_neg (by decide), hL.2.1] at c
      exact absurd c (nI_ge hrl (by omega))
    rw [g37, ← hB r x hx, pa_pa]
    rw [fdR] at hR
    cases hb : Bk m r with
    | false =>
      rw [hb, if_neg (by decide)] at hR
      refine ⟨fun _ => ?_, fun c => absurd rfl c⟩
      rintro x6 rfl
      rw [nI_1]
      exact ih (r + 1) a f2 (by omega) ha (by omega) hR
    | true =>
      rw [hb, if_pos rfl] at hR
      refine ⟨fun c => absurd c z10, fun _ => ⟨fun c => ?_, fun c => ?_⟩⟩
      · have e : a = I := (nI_eq (by omega) hI).mp c
        rw [if_pos (by omega)] at hR
        have e2 : (100 : Int32) * nI m + nI r = nI (100 * m + r) := by rw [show (100 : Int32) = nI 100 from rfl, pk_mul, nI_add]
        rw [e2]
        exact hin _ f2 hR.symm
      · have e : a ≠ I := fun q => c (by rw [q])
        rw [if_neg (by omega)] at hR
        rintro x4 rfl x6 rfl
        rw [nI_1, nI_1]
        refine ih (r + 1) (a + 1) f2 (by omega) (by omega) (by omega) ?_
        rw [show I - (a + 1) = I - a - 1 by omega]
        exact hR
theorem seeD {S : St} {Q : St → Prop} {k m : Nat} (hk : Stg k) (hm : m < 7) {g : Nat → Int32} (hQ : ∀ g', (∀ j, j < 12 → g' j = if j = 7 then gv S (k + 6) m else if j = 10 then gv S (k + 9) m else if j = 11 then gv S (k + 12) m else g j) → Q (pa S 37 g')) : wX2_seeOutcome k (nI m) (pa S 37 g) Q := by
  have hk1 := (stg_ge hk).1
  have vm : vp_in (nI m) 7 := vp_in_nI hm (by decide)
  have cm : (nI m).toNatClampNeg = m := nI_clamp (by omega)
  refine ⟨vm, vl7, ?_⟩
  rintro σ3 rfl
  refine ⟨vm, vl10, ?_⟩
  rintro σ6 rfl
  refine ⟨vm, vl11, ?_⟩
  rintro σ9 rfl
  simp only [tc7, tc10, tc11, cm, pv_pa]
  have e : ∀ g a, a ≠ 37 → gv (pa S 37 g) a m = gv S a m := fun g a ha => by rw [gv_pa, if_neg ha]
  rw [e _ (k + 6) (by omega), e _ (k + 9) (by omega), e _ (k + 12) (by omega)]
  refine hQ _ (fun j hj => ?_)
  unfold upd
  by_cases h11 : j = 11
  · subst h11; rfl
  · by_cases h10 : j = 10
    · subst h10; rfl
    · by_cases h7 : j = 7
      · subst h7; rfl
      · simp only [h11, h10, h7, if_false]
theorem breach_loop (B : BsD σ0 Ls n O) (hk : Stg k) (hh : h < 240) (f : Fm xG σ0 σ) (eH : gv σ k 2 = nI h) {I : Nat} (hI : I < 2 ^ 31) (hne : Ls ≠ []) {RES : Int32} (hQ : ∀ τ, Fm xV σ τ → Q RES τ) :
    ∀ (d m a : Nat) (τ : St), m + d = n → a ≤ I → a ≤ 300 * m → Fm xV σ τ → fdM (bkW (cfD σ0 Ls) (rwD σ k) h) Ls.length d m (I - a) = RES → wX10_breach_14 k Q (d + 1) (nI I) (nI a) (nI m) τ := by
  have hk1 := (stg_ge hk).1
  obtain ⟨hL0, hn, eN, hF, hO, eO, hmi⟩ := B
  have hpos : 0 < Ls.length := List.length_pos_iff.mpr hne
  have x37 : ∀ j, xV 37 j = true := fun _ => rfl
  have x38 : ∀ j, xV 38 j = true := fun _ => rfl
  have xno : ∀ a j, 100 ≤ a → xV a j = false := fun a j ha => by
    unfold xV
    have a1 : a ≠ 37 := by omega
    have a2 : a ≠ 38 := by omega
    have a3 : a ≠ 8 := by omega
    simp [a1, a2, a3]
  have xVG : ∀ a j, xG a j = false → xV a j = false := fun a j q => by
    unfold xG at q
    simp only [Bool.or_eq_false_iff] at q
    exact q.1.1.2
  have hcn : (gv σ0 2 4).toNatClampNeg = n := by rw [eN]; exact nI_clamp (by omega)
  intro d
  induction d with
  | zero =>
    intro m a τ hm ha _ fτ hR
    have hR : (-1 : Int32) = RES := hR
    have f0 := f.tr (fτ.mono xVG)
    refine ⟨fun _ => by rw [hR]; exact hQ τ fτ, fun c => ?_⟩
    rw [f0.2 2 4 rfl, eN] at c
    exact absurd (nI_le (by omega) (by omega)) c
  | succ d ih =>
    intro m a τ hm ha ha2 fτ hR
    have hmn : m < n := by omega
    have f0 := f.tr (fτ.mono xVG)
    have hLτ := hL0.fg f0
    have eNτ : gv τ 2 4 = nI n := (f0.2 2 4 rfl).trans eN
    have eHτ : gv τ k 2 = nI h := (fτ.2 k 2 (xno _ _ hk1)).trans eH
    rw [wX10_breach_14, eNτ, hLτ.2.1]
    refine ⟨fun c => absurd c (nI_ge hmn (by omega)), fun _ => ⟨fun c => absurd c (nI_nle hpos (by have := hL0.2.2.1; omega)), fun _ => ?_⟩⟩
    refine lookD hk hmn hn eNτ eHτ hh (fun g hg => seeD hk (by omega) (fun g' hg' => ?_))
    obtain ⟨S, eS⟩ : ∃ S, S = pa (pv τ 8 18 (nI (h / 24))) 37 g' := ⟨_, rfl⟩
    have fS : Fm xV τ S := by rw [eS]; exact (Fm_pv rfl).tr (Fm_pa x37)
    have hLS : LwD S Ls := hLτ.fm fS rfl (fun a j h1 h2 => by
      unfold xV
      have a1 : a ≠ 37 := by omega
      have a2 : a ≠ 38 := by omega
      have a3 : a ≠ 8 := by omega
      simp [a1, a2, a3])
    have g37 : gr S 37 = g' := by rw [eS]; exact gr_pa_eq
    have d8 : gv S 8 18 = nI (h / 24) := by rw [eS, gv_pa, if_neg (by decide), gv_pv, if_pos ⟨rfl, rfl⟩]
    rw [← eS]
    have hB : ∀ q x, Ls[q]? = some x → bkW (cfD σ0 Ls) (rwD σ k) h m q = ruB x m (nI (h / 24)) (gr S 37) := fun q x hx => by
      have e : bkW (cfD σ0 Ls) (rwD σ k) h m q = ruB x m (nI (h / 24)) (envB (cfD σ0 Ls) (rwD σ k) h m) := by
        exact bkW_some (c := cfD σ0 Ls) hx
      rw [e, g37]
      refine ruB_congr (fun j hj => ?_) (hL0.2.2.2.1 x (List.mem_of_getElem? hx)) _ _
      have t0 : ∀ b, b < 13 → ∀ mm, gv τ (k + b) mm = gv σ (k + b) mm := fun b _ mm => fτ.2 _ _ (xno _ _ (by omega))
      have p0 : ∀ b, b < 13 → ∀ y mm, gv (pv τ 8 18 y) (k + b) mm = gv τ (k + b) mm := fun b _ y mm => by rw [gv_pv, if_neg (by omega)]
      rw [hg' j hj, p0 6 (by decide), p0 9 (by decide), p0 12 (by decide), t0 6 (by decide), t0 9 (by decide), t0 12 (by decide)]
      have hgj := hg j hj
      rcases (show j = 0 ∨ j = 1 ∨ j = 2 ∨ j = 3 ∨ j = 4 ∨ j = 5 ∨ j = 6 ∨ j = 7 ∨ j = 8 ∨ j = 9 ∨ j = 10 ∨ j = 11 by omega) with rfl | rfl | rfl | rfl | rfl | rfl | rfl | rfl | rfl | rfl | rfl | rfl
      all_goals simp only [Nat.reduceEqDiff, if_true, if_false]
      · rw [hgj]; exact (t0 3 (by decide) m).symm
      · rw [hgj]; exact (f0.2 13 m rfl).symm
      · rw [hgj]; exact (f0.2 12 m rfl).symm
      · rw [hgj]
        show (if m + 1 < (gv σ0 2 4).toNatClampNeg then gv σ (k + 3) (m + 1) else 0) = (if m + 1 < n then gv τ (k + 3) (m + 1) else 0)
        rw [hcn, t0 3 (by decide)]
      · rw [hgj]
        show (if 0 < m then gv σ (k + 3) (m - 1) else 0) = (if 0 < m then gv τ (k + 3) (m - 1) else 0)
        rw [t0 3 (by decide)]
      · rw [hgj]; exact (t0 4 (by decide) m).symm
      · rw [hgj]; exact (t0 5 (by decide) m).symm
      · rfl
      · rw [hgj]; rfl
      · rw [hgj]; rfl
      · rfl
      · rfl
    refine ⟨Ls.length + 1, ?_⟩
    have key := brk_inner (k := k) (Q := Q) (K := fun x2' x4' x5' σ' => wX10_breach_14 k Q (d + 1) x2' x4' x5' σ') (m := m) hLS (by omega) d8 hI hB (RES := fdR (bkW (cfD σ0 Ls) (rwD σ k) h) m Ls.length 0 (I - a)) (fun x f1 hx => ?_) (fun i' f1 hx => ?_) Ls.length 0 a (gr S 38) (by omega) ha (by omega) rfl
    · rw [pa_self] at key
      exact key
    · rw [fdM, hx] at hR
      have hR : x = RES := hR
      rw [hR]
      exact hQ _ ((fτ.tr fS).tr (Fm_pa x38))
    · have hle := fdR_le _ _ _ _ hx
      have hub : I - i' ≤ 300 * (m + 1) := by
        have cnt : ∀ (d r i i' : Nat), fdR (bkW (cfD σ0 Ls) (rwD σ k) h) m d r i = .inr i' → i ≤ i' + d := by
          intro d
          induction d with
          | zero =>
            intro r i i' q
            have q : Sum.inr i = Sum.inr i' := q
            cases q
            omega
          | succ d ih3 =>
            intro r i i' q
            rw [fdR] at q
            by_cases hb : bkW (cfD σ0 Ls) (rwD σ k) h m r = true
            · rw [if_pos hb] at q
              by_cases hi : i = 0
              · omega
              · rw [if_neg hi] at q
                have := ih3 _ _ _ q
                omega
            · rw [if_neg hb] at q
              have := ih3 _ _ _ q
              omega
        have := cnt _ _ _ _ hx
        have := hL0.2.2.1
        omega
      rw [fdM, hx] at hR
      refine ih (m + 1) (I - i') _ (by omega) (by omega) hub ((fτ.tr fS).tr (Fm_pa x38)) ?_
      rw [show I - (I - i') = i' by omega]
      exact hR
theorem breachD (B : BsD σ0 Ls n O) (hk : Stg k) (hh : h < 240) (f : Fm xG σ0 σ) (eH : gv σ k 2 = nI h) {r : Rw} (hr : ∀ i m, i < 10 → m < n → gv σ (k + 3 + i) m = r i m) {I : Nat} (hI : I < 2 ^ 31) (hQ : ∀ τ, Fm xV σ τ → Q (fdM (bkW (cfD σ0 Ls) r h) Ls.length n 0 I) τ) : wX10_breach k (nI I) σ Q := by
  have hn := B.2.1
  have hcn : (cfD σ0 Ls).1 = n := by
    show (gv σ0 2 4).toNatClampNeg = n
    rw [B.2.2.1]
    exact nI_clamp (by omega)
  have e : fdM (bkW (cfD σ0 Ls) (rwD σ k) h) Ls.length n 0 I = fdM (bkW (cfD σ0 Ls) r h) Ls.length n 0 I := fdM_congr (fun m q hm => bkW_congr B.1.2.2.2.1 (by rw [hcn]; exact hm) (fun i m' hi hm' => hr i m' hi (by rw [hcn] at hm'; exact hm')) q) n 0 I (by omega)
  by_cases hne : Ls = []
  · subst hne
    have hq : ∀ τ, Fm xV σ τ → Q (-1) τ := fun τ ft => by
      have := hQ τ ft
      rwa [show ([] : List Ru).length = 0 from rfl, fdM_zero] at this
    refine ⟨1, fun _ => hq σ Fm.rf, fun _ => ⟨fun _ => hq σ Fm.rf, fun c => ?_⟩⟩
    rw [(B.1.fg f).2.1] at c
    exact absurd (by decide) c
  · exact ⟨n + 1, breach_loop B hk hh f eH hI hne hQ n 0 0 σ (by omega) (by omega) (by omega) Fm.rf e⟩
end BR
