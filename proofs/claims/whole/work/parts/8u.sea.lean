/-! sea, broken. -/
def seaS (S : Nat → Rw) (m : Nat) : Nat → Int32
  | 0 => 0
  | d + 1 => seaS S m d + S (d + 1) 9 m
section SE
variable {σ : St} {Ls : List Ru} {n O F nn : Nat}
theorem seaD_loop {Q : Int32 → St → Prop} {h : Nat} (hh : h ≤ 240) (B : BsD σ Ls n O) (hn0 : 0 < n) {τ0 : St} (hQ : ∀ τ, RnD σ Ls n O nn (-1) τ 100 h → Fm (xS 100) τ0 τ → Q (seaS (simD σ Ls O nn (-1)) (n - 1) h) τ) : ∀ (d t : Nat) (τ : St), t + d = h → RnD σ Ls n O nn (-1) τ 100 t → Fm (xS 100) τ0 τ → wX11_sea_50 Q (d + 1) (nI h) (nI (n - 1)) (seaS (simD σ Ls O nn (-1)) (n - 1) t) (nI t) τ := by
  have hn := B.2.1
  intro d
  induction d with
  | zero =>
    intro t τ ht hS f
    have e : t = h := by omega
    subst e
    exact ⟨fun _ => hQ τ hS f, fun c => absurd (Int32.le_refl _) c⟩
  | succ d ih =>
    intro t τ ht hS f
    rw [wX11_sea_50]
    refine ⟨fun c => absurd c (nI_ge (by omega) (by omega)), fun _ => ⟨fun c => absurd c (nI_pos (by omega)), fun _ => stepR B stg_100 (by omega) hS (fun τ1 h1 f1 => ⟨vp_in_nI (by omega) (by decide), ?_⟩)⟩⟩
    have e9 : gv τ1 112 (nI (n - 1)).toNatClampNeg = simD σ Ls O nn (-1) (t + 1) 9 (n - 1) := by
      rw [nI_clamp (by omega)]
      exact h1.2.2.2.2.2.1 9 (n - 1) (by decide) (by omega)
    rw [e9]
    rintro x4 rfl x5 rfl
    rw [nI_1]
    exact ih (t + 1) τ1 (by omega) h1 (f.tr f1)
theorem seaM_loop {Q : Int32 → St → Prop} {h : Nat} (hh : h ≤ 240) (hn : n ≤ 7) (hn0 : 0 < n) {τ : St} {S : Nat → Rw} (eN : gv τ 11 43 = nI n) (hr : ∀ k, k < 240 → gv τ 88 (10 * (7 * k + (n - 1)) + 9) = S (k + 1) 9 (n - 1)) (hQ : Q (seaS S (n - 1) h) τ) : ∀ (d t : Nat), t + d = h → wX12_sea_37 Q (d + 1) (nI h) (seaS S (n - 1) t) (nI t) τ := by
  intro d
  induction d with
  | zero =>
    intro t ht
    have e : t = h := by omega
    subst e
    exact ⟨fun _ => hQ, fun c => absurd (Int32.le_refl _) c⟩
  | succ d ih =>
    intro t ht
    have eix : (10 : Int32) * ((7 : Int32) * nI t + nI n - 1) + 9 = nI (10 * (7 * t + (n - 1)) + 9) := by
      rw [show (10 : Int32) = nI 10 from rfl, show (7 : Int32) = nI 7 from rfl, show (9 : Int32) = nI 9 from rfl, show (1 : Int32) = nI 1 from rfl, pk_mul, nI_add, pk_sub (by omega), pk_mul, nI_add]
      congr 1
      omega
    rw [wX12_sea_37, eN, eix, nI_clamp (by omega), hr t (by omega)]
    refine ⟨fun c => absurd c (nI_ge (by omega) (by omega)), fun _ => ⟨vp_in_nI (by omega) (by decide), ?_⟩⟩
    rintro x3 rfl x4 rfl
    rw [nI_1]
    exact ih (t + 1) (by omega)
theorem both_sea {Z : Int32 → St → Prop} (hI : Inv σ) (x1 x2 : Int32) (hZ : ∀ r σ1, (∀ Z2 : Int32 → St → Prop, (∀ σ2, Inv σ2 → Z2 r σ2) → wX12_sea x1 x2 σ1 Z2) → Z r σ1) : wX11_sea x1 x2 σ Z := by
  obtain ⟨Ls, hL⟩ := Inv_iff.mp hI
  obtain ⟨n, O, F, Bn⟩ := InvB hL
  obtain ⟨hF, hn, hO⟩ := BunF Bn
  have eN := Bn.1.2.2.1
  have eF := Bn.2.1.2.1
  have eFM := Bn.2.2.2.2.2.2.2.2.1
  by_cases hb : (∃ h, h ≤ 240 ∧ x1 = nI h) ∧ ∃ k, k ≤ F ∧ x2 = nI k
  · obtain ⟨⟨h, hh, rfl⟩, ⟨nn, hnn, rfl⟩⟩ := hb
    refine endD (fun _ _ _ => ⟨z11, fun _ => knD hF eF (fun _ _ _ => ⟨z11, fun _ => ?_⟩) (fun g => absurd rfl (g nn hnn))⟩) (fun g => absurd rfl (g h hh))
    rw [eN]
    rintro x3 rfl
    refine beginQ Bn stg_100 hnn (fun τ1 r1 k1 => ?_)
    -- the reference's half
    have half : ∀ (τ : St) (t : Nat), RnD σ Ls n O nn (-1) τ 100 t → gv τ 3 4 = nI nn → Z (if n = 0 then 0 else seaS (simD σ Ls O nn (-1)) (n - 1) h) τ := by
      intro τ t hr h34
      have hI2 := RnD.inv hL Bn hnn hr h34
      have B2 := BunE Bn hI2 hr.1
      refine hZ _ _ (fun Z2 h2 => endM (fun _ _ _ => ⟨z11, fun _ => knM hF B2.2.2.2.2.2.2.2.2.1 (fun _ _ _ => ⟨z11, fun _ => ?_⟩) (fun g => absurd rfl (g nn hnn))⟩) (fun g => absurd rfl (g h hh)))
      rw [B2.2.2.1.2.2.1]
      refine ⟨fun c => ?_, fun c => worksQ B2 hnn (fun τ3 f3 n3 => ?_)⟩
      · have hn0 : n = 0 := (nI_eq (a := n) (b := 0) (by omega) (by decide)).mp c
        rw [if_pos hn0] at h2
        exact h2 _ (Inv_iff.mpr ⟨Ls, hI2⟩)
      · have hn0 : ¬ n = 0 := fun q => c (by rw [q]; decide)
        rw [if_neg hn0] at h2
        refine ⟨h + 1, seaM_loop (S := simD σ Ls O nn (-1)) hh hn (by omega) ((f3.2 11 43 rfl).trans B2.2.2.1.2.2.1) (fun k hk => ?_) (h2 _ (Inv_iff.mpr ⟨Ls, InvW hI2 B2 hnn f3 n3⟩)) h 0 (by omega)⟩
        rw [n3.2.2.1 k (n - 1) 9 hk (by omega) (by decide), sim_M B2 hr.1]
    by_cases hn0 : n = 0
    · have hz := half τ1 0 r1 k1
      rw [if_pos hn0] at hz
      refine ⟨1, fun _ => hz, fun _ => ⟨fun _ => hz, fun c => ?_⟩⟩
      rw [hn0] at c
      exact absurd (by decide) c
    · have e1 : nI n - 1 = nI (n - 1) := pk_sub (b := 1) (by omega)
      rw [e1]
      refine ⟨h + 1, seaD_loop (τ0 := τ1) hh Bn.1 (by omega) (fun τ r f => ?_) h 0 τ1 (by omega) r1 Fm.rf⟩
      have hz := half τ h r ((f.2 3 4 (xS_34 stg_100)).trans k1)
      rwa [if_neg hn0] at hz
  · have hz : Z (-1) σ := hZ _ _ (fun Z2 h2 => by
      have hz := h2 _ hI
      refine endM (fun h hh e1 => ⟨z11, fun _ => knM hF eFM (fun nn hnn e3 => absurd ⟨⟨h, hh, e1⟩, ⟨nn, hnn, e3⟩⟩ hb) (fun _ => ⟨fun _ => hz, fun c => absurd rfl c⟩)⟩) (fun _ => ⟨fun _ => hz, fun c => absurd rfl c⟩))
    exact endD (fun h hh e1 => ⟨z11, fun _ => knD hF eF (fun nn hnn e3 => absurd ⟨⟨h, hh, e1⟩, ⟨nn, hnn, e3⟩⟩ hb) (fun _ => ⟨fun _ => hz, fun c => absurd rfl c⟩)⟩) (fun _ => ⟨fun _ => hz, fun c => absurd rfl c⟩)
end SE
section BK
theorem pa_92 {τ : St} {f : Nat → Int32} {a b : Nat} (h : a ≠ 92) : gv (pa τ 92 f) a b = gv τ a b := by
  rw [gv_pa, if_neg h]
theorem NowM_92 {σ τ : St} {Ls : List Ru} {n O N : Nat} {w : Int32} {cl am f : Nat → Int32} (hN : NowM σ Ls n O N w cl am τ) : NowM σ Ls n O N w cl am (pa τ 92 f) := by
  unfold NowM at hN ⊢
  rw [pa_92 (by decide), pa_92 (by decide)]
  refine ⟨hN.1, hN.2.1, fun h m i a b c => ?_, fun i hi => ?_, fun h i a b => ?_⟩
  · rw [pa_92 (by decide)]; exact hN.2.2.1 h m i a b c
  · rw [pa_92 (by decide)]; exact hN.2.2.2.1 i hi
  · rw [pa_92 (by decide)]; exact hN.2.2.2.2 h i a b
variable {σ : St} {Ls : List Ru} {n O F nn : Nat}
/-- the reference's inner look for a broken must -/
theorem bkM_inner {Q : Int32 → St → Prop} {K : Int32 → Int32 → Int32 → St → Prop} {S : St} {m h : Nat} (hL : LwM S Ls) (hm : m < 7) (hh : h < 240) {v : Nat → Int32} (hv : VrM S (nI m) (nI h) (-1) v) {I : Nat} (hI : I < 2 ^ 31) {Bk : Nat → Nat → Bool} (hB : ∀ q x, Ls[q]? = some x → Bk m q = ruB x m (nI (h / 24)) v) {RES : Int32 ⊕ Nat}
    (hin : ∀ x f, RES = .inl x → Q x (pa S 92 f)) (hgo : ∀ i' f, RES = .inr i' → K (nI h) (nI i') (nI (m + 1)) (pa S 92 f)) :
    ∀ (d r i : Nat) (f : Nat → Int32), r + d = Ls.length → i ≤ I → fdR Bk m d r i = RES → wX12_broken_49 Q K (d + 1) (nI h) (nI i) (nI m) (nI r) (pa S 92 f) := by
  have h30 := hL.2.1
  intro d
  induction d with
  | zero =>
    intro r i f hr hi hR
    refine ⟨fun _ => ?_, fun c => ?_⟩
    · rintro x5 rfl
      rw [nI_1]
      exact hgo i f hR.symm
    · rw [gv_pa, if_neg (by decide), hL.1, ← hr] at c
      exact absurd (Int32.le_refl _) c
  | succ d ih =>
    intro r i f hr hi hR
    have hrl : r < Ls.length := by omega
    obtain ⟨x, hx⟩ : ∃ x, Ls[r]? = some x := ⟨_, List.getElem?_eq_getElem hrl⟩
    rw [wX12_broken_49]
    refine ⟨fun c => ?_, fun _ => brkM (hL.keep (f := f)) hx hm hh hv.keep (fun f2 => ?_)⟩
    · rw [gv_pa, if_neg (by decide), hL.1] at c
      exact absurd c (nI_ge hrl (by omega))
    rw [← hB r x hx, pa_pa]
    rw [fdR] at hR
    cases hb : Bk m r with
    | false =>
      rw [hb, if_neg (by decide)] at hR
      refine ⟨fun _ => ?_, fun c => absurd rfl c⟩
      rintro x6 rfl
      rw [nI_1]
      exact ih (r + 1) i f2 (by omega) hi hR
    | true =>
      rw [hb, if_pos rfl] at hR
      refine ⟨fun c => absurd c z10, fun _ => ⟨fun c => ?_, fun c => ?_⟩⟩
      · have e : i = 0 := (nI_eq (a := i) (b := 0) (by omega) (by decide)).mp c
        rw [if_pos e] at hR
        have e2 : (100 : Int32) * nI m + nI r = nI (100 * m + r) := by rw [show (100 : Int32) = nI 100 from rfl, pk_mul, nI_add]
        rw [e2]
        exact hin _ f2 hR.symm
      · have e : i ≠ 0 := fun q => c (by rw [q]; decide)
        rw [if_neg e] at hR
        have em : nI i + (-1) = nI (i - 1) := by
          have := pk_m1 (i - 1)
          rwa [show i - 1 + 1 = i by omega] at this
        rintro x4 rfl x6 rfl
        rw [nI_1, em]
        exact ih (r + 1) (i - 1) f2 (by omega) (by omega) hR
theorem bkM_loop {Q : Int32 → St → Prop} {S0 : St} {h : Nat} {r : Rw} (hL : LwM S0 Ls) (hn : n ≤ 7) (hh : h < 240) (eN : gv S0 11 43 = nI n) (hr : ∀ i m', i < 10 → m' < n → gv S0 88 (10 * (7 * h + m') + i) = r i m') {I : Nat} (hI : I < 2 ^ 31) {RES : Int32} (hQ : ∀ f, Q RES (pa S0 92 f)) : ∀ (d m i : Nat) (f : Nat → Int32), m + d = n → i ≤ I → fdM (bkW (cfM S0 Ls) r h) Ls.length d m i = RES → wX12_broken_37 Q (d + 1) (nI h) (nI i) (nI m) (pa S0 92 f) := by
  intro d
  induction d with
  | zero =>
    intro m i f hm hi hR
    have hR : (-1 : Int32) = RES := hR
    refine ⟨fun _ => by rw [hR]; exact hQ f, fun c => ?_⟩
    rw [gv_pa, if_neg (by decide), eN] at c
    exact absurd (nI_le (by omega) (by omega)) c
  | succ d ih =>
    intro m i f hm hi hR
    have hmn : m < n := by omega
    rw [wX12_broken_37, gv_pa, if_neg (by decide), eN]
    refine ⟨fun c => absurd c (nI_ge hmn (by omega)), fun _ => ?_⟩
    have hv := varM_B (Ls := Ls) eN hmn hn hh hr
    refine ⟨Ls.length + 1, bkM_inner (m := m) hL (by omega) hh hv hI (Bk := bkW (cfM S0 Ls) r h) (fun q x hx => bkW_some (c := cfM S0 Ls) hx) (RES := fdR (bkW (cfM S0 Ls) r h) m Ls.length 0 i) (fun x f1 hx => ?_) (fun i' f1 hx => ?_) Ls.length 0 i f (by omega) hi rfl⟩
    · rw [fdM, hx] at hR
      have hR : x = RES := hR
      rw [hR]
      exact hQ f1
    · have hle := fdR_le _ _ _ _ hx
      rw [fdM, hx] at hR
      exact ih (m + 1) i' f1 (by omega) (by omega) hR
theorem both_broken {Z : Int32 → St → Prop} (hI : Inv σ) (x1 x2 x3 : Int32) (hZ : ∀ r σ1, (∀ Z2 : Int32 → St → Prop, (∀ σ2, Inv σ2 → Z2 r σ2) → wX12_broken x1 x2 x3 σ1 Z2) → Z r σ1) : wX11_broken x1 x2 x3 σ Z := by
  obtain ⟨Ls, hL⟩ := Inv_iff.mp hI
  obtain ⟨n, O, F, Bn⟩ := InvB hL
  obtain ⟨hF, hn, hO⟩ := BunF Bn
  have eF := Bn.2.1.2.1
  have eFM := Bn.2.2.2.2.2.2.2.2.1
  by_cases hb : (∃ h, h < 240 ∧ x1 = nI h) ∧ (∃ k, k ≤ F ∧ x2 = nI k) ∧ ∃ i, i < 2 ^ 31 ∧ x3 = nI i
  · obtain ⟨⟨h, hh, rfl⟩, ⟨nn, hnn, rfl⟩, ⟨i, hi, rfl⟩⟩ := hb
    refine hourD (fun _ _ _ => ⟨z11, fun _ => knD hF eF (fun _ _ _ => ⟨z11, fun _ => ⟨fun _ => ?_, fun c => absurd (nI_pos' hi) c⟩⟩) (fun g => absurd rfl (g nn hnn))⟩) (fun g => absurd rfl (g h hh))
    refine beginQ Bn stg_100 hnn (fun τ1 r1 k1 => ?_)
    have eh : nI h = nI (h + 1) - 1 := (nI_pred h).symm
    rw [eh]
    refine runR Bn.1 stg_100 (by omega) (Nat.zero_le _) r1 (fun τ2 r2 f2 => ?_)
    have h34 : gv τ2 3 4 = nI nn := (f2.2 3 4 (xS_34 stg_100)).trans k1
    refine breachD Bn.1 stg_100 hh r2.1 (by rw [hour_m1 r2.2.2.1]; exact nI_pred h) (r := simD σ Ls O nn (-1) (h + 1)) r2.2.2.2.2.2.1 hi (fun τ3 f3 => ?_)
    have f03 : Fm xG σ τ3 := r2.1.tr (f3.mono (fun a j q => by unfold xG at q; simp only [Bool.or_eq_false_iff] at q; exact q.1.1.2))
    have hI3 : InvL Ls τ3 := InvR hL Bn hnn f03 (fun j hj => (f3.2 19 j rfl).trans (r2.2.1 j hj)) ((f3.2 3 4 rfl).trans h34)
    have B3 := BunE Bn hI3 f03
    refine hZ _ _ (fun Z2 h2 => ?_)
    refine ⟨fun c => absurd c (nI_pos (by omega)), fun _ => ⟨fun c => absurd c (nI_ge hh (by decide)), fun _ => knM hF B3.2.2.2.2.2.2.2.2.1 (fun _ _ _ => ⟨z11, fun _ => ⟨fun _ => ?_, fun c => absurd (nI_pos' hi) c⟩⟩) (fun g => absurd rfl (g nn hnn))⟩⟩
    refine worksQ B3 hnn (fun τ4 f4 n4 => ?_)
    have hIW := InvW hI3 B3 hnn f4 n4
    have B4 := B3.2.2.1.fm f4
    have ec : cfM τ4 Ls = cfD σ Ls := by rw [cfM_R f4, B3.2.2.2.1, cfD_fm f03]
    have key := bkM_loop (Q := Z2) (S0 := τ4) (r := simD σ Ls O nn (-1) (h + 1)) B4.1 hn hh B4.2.2.1 (fun i m' h1 h3 => by rw [n4.2.2.1 h m' i hh h3 h1, sim_M B3 f03]) hi (RES := fdM (bkW (cfD σ Ls) (simD σ Ls O nn (-1) (h + 1)) h) Ls.length n 0 i) (fun f5 => h2 _ (Inv_iff.mpr ⟨Ls, ?_⟩)) n 0 i (gr τ4 92) (by omega) (Nat.le_refl _) (by rw [ec])
    · rw [pa_self] at key
      exact ⟨n + 1, key⟩
    · have fp : Fm xR τ4 (pa τ4 92 f5) := Fm_pa (fun j => rfl)
      exact InvW hI3 B3 hnn (f4.tr fp) (NowM_92 n4)
  · have hz : Z (-1) σ := hZ _ _ (fun Z2 h2 => by
      have hz := h2 _ hI
      refine ⟨fun _ => hz, fun c1 => ⟨fun _ => hz, fun c2 => knM hF eFM (fun nn hnn e3 => ⟨z11, fun _ => ⟨fun c3 => ?_, fun _ => hz⟩⟩) (fun _ => ⟨fun _ => hz, fun c => absurd rfl c⟩)⟩⟩
      exfalso
      obtain ⟨h, hh, e1⟩ := nI_of c1
      obtain ⟨i, hi, e4⟩ := nI_of (i32_lt.mpr c3)
      refine hb ⟨⟨h, Nat.not_le.mp (fun q => c2 ?_), e1⟩, ⟨nn, hnn, e3⟩, ⟨i, hi, e4⟩⟩
      rw [e1]
      exact nI_le (a := 240) q hh)
    refine hourD (fun h hh e1 => ⟨z11, fun _ => knD hF eF (fun nn hnn e3 => ⟨z11, fun _ => ⟨fun c3 => ?_, fun _ => hz⟩⟩) (fun _ => ⟨fun _ => hz, fun c => absurd rfl c⟩)⟩) (fun _ => ⟨fun _ => hz, fun c => absurd rfl c⟩)
    exfalso
    obtain ⟨i, hi, e4⟩ := nI_of (i32_lt.mpr c3)
    exact hb ⟨⟨h, hh, e1⟩, ⟨nn, hnn, e3⟩, ⟨i, hi, e4⟩⟩
end BK
