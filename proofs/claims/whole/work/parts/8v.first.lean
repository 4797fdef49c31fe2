/-! first. -/
theorem RnD.cong {σ0 σ τ : St} {Ls : List Ru} {n O nn k t : Nat} {w : Int32} (h : RnD σ0 Ls n O nn w σ k t) (f : Fm xG σ0 τ) (e19 : ∀ i, i < 1680 → gv τ 19 i = gv σ 19 i) (ek : ∀ a j, k ≤ a → a < k + 13 → gv τ a j = gv σ a j) : RnD σ0 Ls n O nn w τ k t := by
  obtain ⟨_, h2, q1, q2, q3, q4, q5, q6⟩ := h
  refine ⟨f, fun i hi => (e19 i hi).trans (h2 i hi), ?_, ?_, ?_, fun i m hi hm => ?_, fun m hp hm => ?_, fun m hm => ?_⟩
  · rw [ek k 2 (by omega) (by omega)]; exact q1
  · rw [ek k 3 (by omega) (by omega)]; exact q2
  · rw [ek k 4 (by omega) (by omega)]; exact q3
  · rw [ek _ m (by omega) (by omega)]; exact q4 i m hi hm
  · rw [ek _ m (by omega) (by omega)]; exact q5 m hp hm
  · rw [ek _ m (by omega) (by omega)]; exact q6 m hm
theorem xV_far {a j : Nat} (h : 100 ≤ a) : xV a j = false := by
  simp [xV]; omega
theorem xV_G {a j : Nat} (q : xG a j = false) : xV a j = false := by
  unfold xG at q
  simp only [Bool.or_eq_false_iff] at q
  exact q.1.1.2
theorem RnD.far {σ0 σ τ : St} {Ls : List Ru} {n O nn k t : Nat} {w : Int32} (h : RnD σ0 Ls n O nn w σ k t) (hk : 100 ≤ k) (f : Fm xV σ τ) : RnD σ0 Ls n O nn w τ k t :=
  h.cong (h.1.tr (f.mono (fun _ _ q => xV_G q))) (fun i _ => f.2 19 i rfl) (fun a j h1 _ => f.2 a j (xV_far (by omega)))
/-- the first hour of d hours, from h on, at which something is broken -/
def fiW (p : Nat → Int32) : Nat → Nat → Int32
  | 0, _ => -1
  | d + 1, h => if p h = -1 then fiW p d (h + 1) else nI h
theorem fdR_inl {Bk : Nat → Nat → Bool} {m : Nat} : ∀ (d r i : Nat) (x : Int32), fdR Bk m d r i = .inl x → ∃ q, q < 100 * m + r + d ∧ x = nI q
  | 0, _, i, x, h => by
    have h : (Sum.inr i : Int32 ⊕ Nat) = Sum.inl x := h
    cases h
  | d + 1, r, i, x, h => by
    rw [fdR] at h
    by_cases hb : Bk m r = true
    · rw [if_pos hb] at h
      by_cases hi : i = 0
      · rw [if_pos hi] at h
        cases h
        exact ⟨100 * m + r, by omega, rfl⟩
      · rw [if_neg hi] at h
        obtain ⟨q, h1, h2⟩ := fdR_inl d (r + 1) (i - 1) x h
        exact ⟨q, by omega, h2⟩
    · rw [if_neg hb] at h
      obtain ⟨q, h1, h2⟩ := fdR_inl d (r + 1) i x h
      exact ⟨q, by omega, h2⟩
theorem nI_nm1 {q : Nat} (h : q < 2 ^ 31) : nI q ≠ -1 := fun c => by
  have := nI_pos' h
  rw [c] at this
  exact absurd this (by decide)
section FI
variable {σ : St} {Ls : List Ru} {n O F nn : Nat}
theorem fiM_inner {Q : Int32 → St → Prop} {K33 : Int32 → Int32 → St → Prop} {K : Int32 → Int32 → Int32 → St → Prop} {S : St} {m h : Nat} {b : Int32} (hL : LwM S Ls) (hm : m < 7) (hh : h < 240) {v : Nat → Int32} (hv : VrM S (nI m) (nI h) (-1) v) {Bk : Nat → Nat → Bool} (hB : ∀ q x, Ls[q]? = some x → Bk m q = ruB x m (nI (h / 24)) v) {RES : Int32 ⊕ Nat}
    (hin : ∀ x f, RES = .inl x → Q (nI h) (pa S 92 f)) (hgo : ∀ i' f, RES = .inr i' → K b (nI h) (nI (m + 1)) (pa S 92 f)) :
    ∀ (d r : Nat) (f : Nat → Int32), r + d = Ls.length → fdR Bk m d r 0 = RES → wX12_first_54 Q K33 K (d + 1) b (nI h) (nI m) (nI r) (pa S 92 f) := by
  have h30 := hL.2.1
  intro d
  induction d with
  | zero =>
    intro r f hr hR
    refine ⟨fun _ => ?_, fun c => ?_⟩
    · rintro x5 rfl
      rw [nI_1]
      exact hgo 0 f hR.symm
    · rw [pa_92 (by decide), hL.1, ← hr] at c
      exact absurd (Int32.le_refl _) c
  | succ d ih =>
    intro r f hr hR
    have hrl : r < Ls.length := by omega
    obtain ⟨x, hx⟩ : ∃ x, Ls[r]? = some x := ⟨_, List.getElem?_eq_getElem hrl⟩
    rw [wX12_first_54]
    refine ⟨fun c => ?_, fun _ => brkM (hL.keep (f := f)) hx hm hh hv.keep (fun f2 => ?_)⟩
    · rw [pa_92 (by decide), hL.1] at c
      exact absurd c (nI_ge hrl (by omega))
    rw [← hB r x hx, pa_pa]
    rw [fdR] at hR
    cases hb : Bk m r with
    | false =>
      rw [hb, if_neg (by decide)] at hR
      refine ⟨fun _ => ?_, fun c => absurd rfl c⟩
      rintro x6 rfl
      rw [nI_1]
      exact ih (r + 1) f2 (by omega) hR
    | true =>
      rw [hb, if_pos rfl, if_pos rfl] at hR
      exact ⟨fun c => absurd c z10, fun _ => hin _ f2 hR.symm⟩
theorem fiM_mid {Q : Int32 → St → Prop} {K33 : Int32 → Int32 → St → Prop} {S0 : St} {h : Nat} {b : Int32} {r : Rw} (hL : LwM S0 Ls) (hn : n ≤ 7) (hh : h < 240) (eN : gv S0 11 43 = nI n) (hr : ∀ i m', i < 10 → m' < n → gv S0 88 (10 * (7 * h + m') + i) = r i m') {RES : Int32} (hin : ∀ f, RES ≠ -1 → Q (nI h) (pa S0 92 f)) (hgo : ∀ f, RES = -1 → K33 b (nI (h + 1)) (pa S0 92 f)) : ∀ (d m : Nat) (f : Nat → Int32), m + d = n → fdM (bkW (cfM S0 Ls) r h) Ls.length d m 0 = RES → wX12_first_42 Q K33 (d + 1) b (nI h) (nI m) (pa S0 92 f) := by
  have h30 := hL.2.1
  intro d
  induction d with
  | zero =>
    intro m f hm hR
    have hR : (-1 : Int32) = RES := hR
    refine ⟨fun _ => ?_, fun c => ?_⟩
    · rintro x4 rfl
      rw [nI_1]
      exact hgo f hR.symm
    · rw [pa_92 (by decide), eN] at c
      exact absurd (nI_le (by omega) (by omega)) c
  | succ d ih =>
    intro m f hm hR
    have hmn : m < n := by omega
    rw [wX12_first_42, pa_92 (by decide), eN]
    refine ⟨fun c => absurd c (nI_ge hmn (by omega)), fun _ => ?_⟩
    have hv := varM_B (Ls := Ls) eN hmn hn hh hr
    refine ⟨Ls.length + 1, fiM_inner (m := m) hL (by omega) hh hv (Bk := bkW (cfM S0 Ls) r h) (fun q x hx => bkW_some (c := cfM S0 Ls) hx) (RES := fdR (bkW (cfM S0 Ls) r h) m Ls.length 0 0) (fun x f1 hx => ?_) (fun i' f1 hx => ?_) Ls.length 0 f (by omega) rfl⟩
    · obtain ⟨q, h1, h2⟩ := fdR_inl _ _ _ _ hx
      rw [fdM, hx] at hR
      have hR : x = RES := hR
      refine hin f1 ?_
      rw [← hR, h2]
      exact nI_nm1 (by omega)
    · have hle := fdR_le _ _ _ _ hx
      have e0 : i' = 0 := by omega
      rw [e0] at hx
      rw [fdM, hx] at hR
      exact ih (m + 1) f1 (by omega) hR
theorem fiM_loop {Q : Int32 → St → Prop} {S0 : St} {b : Nat} {S : Nat → Rw} (hb : b ≤ 240) (hL : LwM S0 Ls) (hn : n ≤ 7) (eN : gv S0 11 43 = nI n) (hr : ∀ h i m', h < 240 → i < 10 → m' < n → gv S0 88 (10 * (7 * h + m') + i) = S (h + 1) i m') {RES : Int32} (hQ : ∀ f, Q RES (pa S0 92 f)) : ∀ (d h : Nat) (f : Nat → Int32), h ≤ 240 → d = b - h → fiW (fun h => fdM (bkW (cfM S0 Ls) (S (h + 1)) h) Ls.length n 0 0) d h = RES → wX12_first_33 Q (d + 1) (nI b) (nI h) (pa S0 92 f) := by
  intro d
  induction d with
  | zero =>
    intro h f hh h1 hR
    have hR : (-1 : Int32) = RES := hR
    exact ⟨fun _ => by rw [hR]; exact hQ f, fun c => absurd (nI_le (by omega) (by omega)) c⟩
  | succ d ih =>
    intro h f hh h1 hR
    rw [wX12_first_33]
    refine ⟨fun c => absurd c (nI_ge (by omega) (by omega)), fun _ => ?_⟩
    refine ⟨n + 1, fiM_mid (h := h) (r := S (h + 1)) hL hn (by omega) eN (fun i m' a c => hr h i m' (by omega) a c) (RES := fdM (bkW (cfM S0 Ls) (S (h + 1)) h) Ls.length n 0 0) (fun f1 hx => ?_) (fun f1 hx => ?_) n 0 f (by omega) rfl⟩
    · rw [fiW, if_neg hx] at hR
      rw [hR]
      exact hQ f1
    · rw [fiW, if_pos hx] at hR
      exact ih (h + 1) f1 (by omega) (by omega) hR
theorem xV_S {k a j : Nat} (q : xS k a j = false) : xV a j = false := by
  unfold xS at q
  simp only [Bool.or_eq_false_iff] at q
  exact q.2
def fiP (σ : St) (Ls : List Ru) (n O nn : Nat) (h : Nat) : Int32 := fdM (bkW (cfD σ Ls) (simD σ Ls O nn (-1) (h + 1)) h) Ls.length n 0 0
theorem fiD_loop {Q : Int32 → St → Prop} {a b : Nat} (ha : a ≤ 240) (hb : b ≤ 240) (B : BsD σ Ls n O) {τ0 : St} {RES : Int32} (hQ : ∀ τ t, RnD σ Ls n O nn (-1) τ 100 t → Fm (xS 100) τ0 τ → Q RES τ) : ∀ (d t : Nat) (τ : St), t + d = b → RnD σ Ls n O nn (-1) τ 100 t → Fm (xS 100) τ0 τ → RES = (if t < a then fiW (fiP σ Ls n O nn) (b - a) a else fiW (fiP σ Ls n O nn) (b - t) t) → wX11_first_42 Q (d + 1) (nI a) (nI b) (nI t) τ := by
  intro d
  induction d with
  | zero =>
    intro t τ ht hS f hR
    have e : t = b := by omega
    subst e
    refine ⟨fun _ => ?_, fun c => absurd (Int32.le_refl _) c⟩
    have e : RES = -1 := by
      rw [hR]
      by_cases q : t < a
      · rw [if_pos q, show t - a = 0 by omega]; rfl
      · rw [if_neg q, Nat.sub_self]; rfl
    rw [← e]
    exact hQ τ t hS f
  | succ d ih =>
    intro t τ ht hS f hR
    rw [wX11_first_42]
    refine ⟨fun c => absurd c (nI_ge (by omega) (by omega)), fun _ => stepR B stg_100 (by omega) hS (fun τ1 h1 f1 => ⟨fun c => ?_, fun c => ?_⟩)⟩
    · have hta : t < a := (nI_ltI (by omega) (by omega)).mp c
      rintro x4 rfl
      rw [nI_1]
      refine ih (t + 1) τ1 (by omega) h1 (f.tr f1) ?_
      rw [if_pos hta] at hR
      rw [hR]
      by_cases q : t + 1 < a
      · rw [if_pos q]
      · rw [if_neg q, show t + 1 = a by omega]
    · have hta : ¬ t < a := fun q => c ((nI_ltI (by omega) (by omega)).mpr q)
      rw [if_neg hta, show b - t = d + 1 by omega, fiW] at hR
      refine breachD (I := 0) B stg_100 (h := t) (by omega) h1.1 (by rw [hour_m1 h1.2.2.1]; exact nI_pred t) (r := simD σ Ls O nn (-1) (t + 1)) h1.2.2.2.2.2.1 (by decide) (fun τ2 f2 => ?_)
      have r2 := h1.far (by decide) f2
      have f02 := (f.tr f1).tr (f2.mono (fun _ _ q => xV_S q))
      refine ⟨fun c => ?_, fun c => ?_⟩
      · have c : fiP σ Ls n O nn t = -1 := c
        rw [if_pos c] at hR
        rintro x4 rfl
        rw [nI_1]
        refine ih (t + 1) τ2 (by omega) r2 f02 ?_
        rw [if_neg (by omega), show b - (t + 1) = d by omega]
        exact hR
      · have c : fiP σ Ls n O nn t ≠ -1 := c
        rw [if_neg c] at hR
        rw [← hR]
        exact hQ τ2 (t + 1) r2 f02
theorem both_first {Z : Int32 → St → Prop} (hI : Inv σ) (x1 x2 x3 : Int32) (hZ : ∀ r σ1, (∀ Z2 : Int32 → St → Prop, (∀ σ2, Inv σ2 → Z2 r σ2) → wX12_first x1 x2 x3 σ1 Z2) → Z r σ1) : wX11_first x1 x2 x3 σ Z := by
  obtain ⟨Ls, hL⟩ := Inv_iff.mp hI
  obtain ⟨n, O, F, Bn⟩ := InvB hL
  obtain ⟨hF, hn, hO⟩ := BunF Bn
  have eF := Bn.2.1.2.1
  have eFM := Bn.2.2.2.2.2.2.2.2.1
  by_cases hb : (∃ h, h ≤ 240 ∧ x1 = nI h) ∧ (∃ h, h ≤ 240 ∧ x2 = nI h) ∧ ∃ k, k ≤ F ∧ x3 = nI k
  · obtain ⟨⟨a, ha, rfl⟩, ⟨b, hb, rfl⟩, ⟨nn, hnn, rfl⟩⟩ := hb
    refine endD (fun _ _ _ => ⟨z11, fun _ => endD (fun _ _ _ => ⟨z11, fun _ => knD hF eF (fun _ _ _ => ⟨z11, fun _ => ?_⟩) (fun g => absurd rfl (g nn hnn))⟩) (fun g => absurd rfl (g b hb))⟩) (fun g => absurd rfl (g a ha))
    refine beginQ Bn stg_100 hnn (fun τ1 r1 k1 => ?_)
    refine ⟨b + 1, fiD_loop (τ0 := τ1) (RES := fiW (fiP σ Ls n O nn) (b - a) a) ha hb Bn.1 (fun τ t r f => ?_) b 0 τ1 (by omega) r1 Fm.rf ?_⟩
    · have h34 : gv τ 3 4 = nI nn := (f.2 3 4 (xS_34 stg_100)).trans k1
      have hI2 := RnD.inv hL Bn hnn r h34
      have B2 := BunE Bn hI2 r.1
      refine hZ _ _ (fun Z2 h2 => endM (fun _ _ _ => ⟨z11, fun _ => endM (fun _ _ _ => ⟨z11, fun _ => knM hF B2.2.2.2.2.2.2.2.2.1 (fun _ _ _ => ⟨z11, fun _ => ?_⟩) (fun g => absurd rfl (g nn hnn))⟩) (fun g => absurd rfl (g b hb))⟩) (fun g => absurd rfl (g a ha)))
      refine worksQ B2 hnn (fun τ4 f4 n4 => ?_)
      have B4 := B2.2.2.1.fm f4
      have ec : cfM τ4 Ls = cfD σ Ls := by rw [cfM_R f4, B2.2.2.2.1, cfD_fm r.1]
      have key := fiM_loop (Q := Z2) (S0 := τ4) (S := simD σ Ls O nn (-1)) hb B4.1 hn B4.2.2.1 (fun h i m' h0 h1 h3 => by rw [n4.2.2.1 h m' i h0 h3 h1, sim_M B2 r.1]) (RES := fiW (fiP σ Ls n O nn) (b - a) a) (fun f5 => h2 _ (Inv_iff.mpr ⟨Ls, ?_⟩)) (b - a) a (gr τ4 92) ha rfl (by rw [ec]; rfl)
      · rw [pa_self] at key
        exact ⟨b - a + 1, key⟩
      · have fp : Fm xR τ4 (pa τ4 92 f5) := Fm_pa (fun j => rfl)
        exact InvW hI2 B2 hnn (f4.tr fp) (NowM_92 n4)
    · by_cases q : 0 < a
      · rw [if_pos q]
      · rw [if_neg q, show a = 0 by omega]
  · have hz : Z (-1) σ := hZ _ _ (fun Z2 h2 => by
      have hz := h2 _ hI
      exact endM (fun a ha e1 => ⟨z11, fun _ => endM (fun b hb2 e2 => ⟨z11, fun _ => knM hF eFM (fun nn hnn e3 => absurd ⟨⟨a, ha, e1⟩, ⟨b, hb2, e2⟩, ⟨nn, hnn, e3⟩⟩ hb) (fun _ => ⟨fun _ => hz, fun c => absurd rfl c⟩)⟩) (fun _ => ⟨fun _ => hz, fun c => absurd rfl c⟩)⟩) (fun _ => ⟨fun _ => hz, fun c => absurd rfl c⟩))
    exact endD (fun a ha e1 => ⟨z11, fun _ => endD (fun b hb2 e2 => ⟨z11, fun _ => knD hF eF (fun nn hnn e3 => absurd ⟨⟨a, ha, e1⟩, ⟨b, hb2, e2⟩, ⟨nn, hnn, e3⟩⟩ hb) (fun _ => ⟨fun _ => hz, fun c => absurd rfl c⟩)⟩) (fun _ => ⟨fun _ => hz, fun c => absurd rfl c⟩)⟩) (fun _ => ⟨fun _ => hz, fun c => absurd rfl c⟩)
end FI
