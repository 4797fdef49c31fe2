/-! culprit. -/
def cuG (mi : Nat → Int32) (m : Int32) (wl : Nat → Int32) (tot : Int32) : Nat → Nat → Int32 → Int32 → Int32
  | 0, _, fd, _ => fd
  | c + 1, j, fd, df => if mi j ≠ m ∧ df < wl j - tot then cuG mi m wl tot c (j + 1) (nI j) (wl j - tot) else cuG mi m wl tot c (j + 1) fd df
theorem cuG_id {mi : Nat → Int32} {m : Int32} {wl : Nat → Int32} {tot : Int32} : ∀ c j fd (df : Int32), 0 ≤ df → (∀ i, j ≤ i → i < j + c → wl i = tot) → cuG mi m wl tot c j fd df = fd
  | 0, _, _, _, _, _ => rfl
  | c + 1, j, fd, df, h0, h => by
    rw [cuG, if_neg (fun q => ?_), cuG_id c (j + 1) fd df h0 (fun i h1 h2 => h i (by omega) (by omega))]
    rw [h j (by omega) (by omega), Int32.sub_self] at q
    exact i32_lt.mpr h0 q.2
section CU
variable {σ : St} {Ls : List Ru} {n O F nn m a b : Nat}
theorem culD_loop {Q : Int32 → St → Prop} {RES : Int32} (hI : InvL Ls σ) (B : Bun σ Ls n O F) (hnn : nn ≤ F) (hm : m < n) (ha : a ≤ 240) (hb : b ≤ 240) (hQ : ∀ t τ, RnD σ Ls n O nn (-1) τ 100 t → gv τ 3 4 = nI nn → Q RES τ) :
    ∀ (c j t : Nat) (fd df : Int32) (τ : St), j + c = O → RnD σ Ls n O nn (-1) τ 100 t → gv τ 3 4 = nI nn → t ≤ 240 → (∀ i, j ≤ i → i < O → nI t ≤ gr σ 20 i) → 0 ≤ df.toInt → df.toInt ≤ 400000 →
    cuG (gr σ 21) (nI m) (fun j => wkS (simD σ Ls O nn (nI j)) m a (b - a)) (wkS (simD σ Ls O nn (-1)) m a (b - a)) c j fd df = RES →
    wX11_culprit_97 Q (c + 1) (nI m) (nI a) (nI b) (wkS (simD σ Ls O nn (-1)) m a (b - a) + df) fd (wkT (simD σ Ls O nn (-1)) m a 0 t) (nI j) τ := by
  obtain ⟨hF, hn, hO⟩ := BunF B
  obtain ⟨oc, ck, hck, eck⟩ := hI.2.2.2.2.1
  obtain ⟨o1, o2, o3, o4, o5, O', hO', eO', o6, hs⟩ := hI.2.2.2.2.2.2.1
  have eO := B.1.2.2.2.2.2.1
  have e : O' = O := (nI_eq (by omega) (by omega)).mp (eO'.symm.trans eO)
  subst e
  have hs : ∀ i j, i ≤ j → j < O' → gr σ 20 i ≤ gr σ 20 j := hs
  have hmi : ∀ j, j < O' → ∃ m, m < 7 ∧ gr σ 21 j = nI m := B.1.2.2.2.2.2.2
  have hgt : ∀ j, j < O' → gr σ 22 j = 0 ∨ gr σ 22 j = 1 := fun j hj => by
    obtain ⟨h, m, v, q1, q2, q3, q4, q5, q6, q7⟩ := o6 j hj
    exact q6
  have hhr : ∀ j, j < O' → ∃ h, h < 240 ∧ gr σ 20 j = nI h := fun j hj => by
    obtain ⟨h, m, v, q1, q2, q3, q4, q5, q6, q7⟩ := o6 j hj
    rw [eck, nI_clamp (by omega)] at q1
    exact ⟨h, by omega, q4⟩
  have hSb : ∀ w d, d ≤ 240 → -192000 ≤ (wkS (simD σ Ls O' nn w) m a d).toInt ∧ (wkS (simD σ Ls O' nn w) m a d).toInt ≤ 192000 := fun w d hd => by
    have := wkSB (a := a) (simD_wk hI B hnn w hm) d (by omega)
    omega
  have late : ∀ j hj, j < O' → gr σ 20 j = nI hj → hj < 240 → b ≤ hj → wkS (simD σ Ls O' nn (nI j)) m a (b - a) = wkS (simD σ Ls O' nn (-1)) m a (b - a) := fun j hj q1 q2 q3 q4 => by
    by_cases hab : b ≤ a
    · rw [show b - a = 0 by omega]
      rfl
    · exact wkS_ext _ (fun t ht => simD_bf hO' q1 q2 (by omega) (by omega))
  intro c
  induction c with
  | zero =>
    intro j t fd df τ hj r k ht hh h0 h1 hR
    have hR : fd = RES := hR
    refine ⟨fun _ => by rw [hR]; exact hQ t τ r k, fun c => ?_⟩
    rw [r.1.2 4 4 rfl, eO] at c
    exact absurd (nI_le (by omega) (by omega)) c
  | succ c ih =>
    intro j t fd df τ hj r k ht hh h0 h1 hR
    have hjO : j < O' := by omega
    obtain ⟨hj1, hj2, ej⟩ := hhr j hjO
    have vj : vp_in (nI j) 200 := vp_in_nI (by omega) (by decide)
    have g20 : gr τ 20 = gr σ 20 := r.1.gr (fun _ => rfl)
    have g21 : gr τ 21 = gr σ 21 := r.1.gr (fun _ => rfl)
    have g22 : gr τ 22 = gr σ 22 := r.1.gr (fun _ => rfl)
    have g23 : gr τ 23 = gr σ 23 := r.1.gr (fun _ => rfl)
    have eOt : gv τ 4 4 = nI O' := (r.1.2 4 4 rfl).trans eO
    have dpos : (0 : Int32) ≤ df := by rw [Int32.le_iff_toInt_le]; exact h0
    rw [wX11_culprit_97, eOt, nI_clamp (show j < 2 ^ 31 by omega), show gv τ 20 j = nI hj1 from (congrFun g20 j).trans ej, show gv τ 21 j = gr σ 21 j from congrFun g21 j]
    refine ⟨fun c => absurd c (nI_ge (by omega) (by omega)), fun _ => ⟨vj, fun c1 => ?_, fun c1 => ⟨vj, fun c2 => ?_, fun c2 => ?_⟩⟩⟩
    · have hbj := (nI_leI (by omega) (by omega)).mp c1
      have e2 : fd = RES := by
        rw [← hR, cuG_id (c + 1) j fd df dpos (fun i hi1 hi2 => ?_)]
        obtain ⟨hi3, hi4, ei⟩ := hhr i (by omega)
        have := hs j i hi1 (by omega)
        rw [ej, ei] at this
        have := (nI_leI (by omega) (by omega)).mp this
        exact late i hi3 (by omega) ei hi4 (by omega)
      rw [e2]
      exact hQ t τ r k
    · rintro x9 rfl
      rw [nI_1]
      rw [cuG, if_neg (fun q => q.1 c2)] at hR
      exact ih (j + 1) t fd df τ (by omega) r k ht (fun i h1 h2 => hh i (by omega) h2) h0 h1 hR
    · have hbj : hj1 < b := Nat.not_le.mp (fun q => c1 (nI_le q (by omega)))
      have htj : t ≤ hj1 := by
        have := hh j (by omega) hjO
        rw [ej] at this
        exact (nI_leI (by omega) (by omega)).mp this
      refine mattersD (O := O') hO' hjO eOt (by rw [g21]; exact hmi) (by rw [g22]; exact hgt) ⟨z11, fun _ => ⟨vj, ?_⟩⟩ (fun q => ⟨fun _ => ?_, fun c => absurd rfl c⟩)
      · rw [show gv τ 20 j = nI hj1 from (congrFun g20 j).trans ej]
        refine workedR B.1 stg_100 hm ha (by omega) htj r (fun τ1 r1 f1 => ?_)
        rintro x8 rfl
        rw [wkT_add, show t + (hj1 - t) = hj1 by omega]
        refine copyD stg_113 (Or.inr (by decide)) (fun τ2 f2 cc cr => ?_)
        rintro σ15 rfl
        have hgv : gvT (gr σ 20) O' hj1 ≤ j := gvT_bf ej (by omega) (Nat.le_refl _)
        have hsim : ∀ i, i ≤ hj1 → simD σ Ls O' nn (nI j) i = simD σ Ls O' nn (-1) i := fun i hi => simD_bf hO' hjO ej (by omega) hi
        have r3 : RnD σ Ls n O' nn (nI j) (pv τ2 113 4 (nI j)) 113 hj1 := by
          obtain ⟨rf, r19, s1, s2, s3, s4, s5, s6⟩ := r1
          refine ⟨(rf.tr (f2.mono (fun _ _ q => xS_G (by decide) q))).tr (Fm_pv rfl), fun i hi => ?_, ?_, ?_, ?_, fun i m' hi hm' => ?_, fun m' _ hm' => ?_, fun m' hm' => ?_⟩
          · rw [gv_pv, if_neg (by omega), f2.2 19 i (by simp [xS, xV])]
            exact r19 i hi
          · rw [gv_pv, if_neg (by omega), cc 2 (Or.inl rfl)]
            exact s1
          · rw [gv_pv, if_neg (by omega), cc 3 (Or.inr (Or.inl rfl))]
            exact s2
          · rw [gv_pv, if_pos ⟨rfl, rfl⟩]
          · rw [gv_pv, if_neg (by omega), show 113 + 3 + i = 113 + 2 + (i + 1) by omega, cr (i + 1) m' (by omega), hsim _ (Nat.le_refl _), show 100 + 2 + (i + 1) = 100 + 3 + i by omega]
            exact s4 i m' hi hm'
          · rw [gv_pv, if_neg (by omega), hdO_lt (by omega) _ hgv]
            exact (cr 3 m' (by decide)).trans (s5 m' trivial hm')
          · rw [gv_pv, if_neg (by omega), hdO_lt (by omega) _ hgv]
            exact (cr 0 m' (by decide)).trans (s6 m' hm')
        refine workedR B.1 stg_113 hm ha hb (by omega) r3 (fun τ4 r4 f4 => ?_)
        have f24 : Fm (xS 113) τ1 τ4 := (f2.tr (Fm_pv rfl)).tr f4
        have r5 : RnD σ Ls n O' nn (-1) τ4 100 hj1 := r1.oth (by decide) (Or.inl (by decide)) r4.1 f24 (by decide)
        have k5 : gv τ4 3 4 = nI nn := (f24.2 3 4 (xS_34 stg_113)).trans ((f1.2 3 4 (xS_34 stg_100)).trans k)
        have hhn : ∀ i, j + 1 ≤ i → i < O' → nI hj1 ≤ gr σ 20 i := fun i h1 h2 => by
          rw [← ej]
          exact hs j i (by omega) h2
        rintro x10 rfl
        have esum : wkT (simD σ Ls O' nn (-1)) m a 0 hj1 + wkT (simD σ Ls O' nn (nI j)) m a hj1 (b - hj1) = wkS (simD σ Ls O' nn (nI j)) m a (b - a) := by
          rw [← wkT_ext (S := simD σ Ls O' nn (nI j)) hj1 (fun i hi => hsim i (by omega)), wkT_add, show hj1 + (b - hj1) = b by omega, wkT_S]
        rw [esum]
        have b1 := hSb (nI j) (b - a) (by omega)
        have b2 := hSb (-1) (b - a) (by omega)
        rw [cuG] at hR
        generalize wkS (simD σ Ls O' nn (nI j)) m a (b - a) = wj at hR b1 ⊢
        refine ⟨fun c3 => ?_, fun c3 => ?_⟩
        · rw [Int32.le_iff_toInt_le, i_add rfl rfl (by omega) (by omega)] at c3
          rw [if_neg (fun q => by
            have := q.2
            rw [Int32.lt_iff_toInt_lt, i_sub rfl rfl (by omega) (by omega)] at this
            omega)] at hR
          rintro x9 rfl
          rw [nI_1]
          exact ih (j + 1) hj1 fd df τ4 (by omega) r5 k5 (by omega) hhn h0 h1 hR
        · rw [Int32.le_iff_toInt_le, i_add rfl rfl (by omega) (by omega)] at c3
          have es : (wj - wkS (simD σ Ls O' nn (-1)) m a (b - a)).toInt = wj.toInt - (wkS (simD σ Ls O' nn (-1)) m a (b - a)).toInt := i_sub rfl rfl (by omega) (by omega)
          rw [if_pos ⟨c2, by rw [Int32.lt_iff_toInt_lt, es]; omega⟩] at hR
          rintro x9 rfl
          rw [nI_1]
          have := ih (j + 1) hj1 (nI j) (wj - wkS (simD σ Ls O' nn (-1)) m a (b - a)) τ4 (by omega) r5 k5 (by omega) hhn (by rw [es]; omega) (by rw [es]; omega) hR
          rw [Int32.add_comm, Int32.sub_add_cancel] at this
          exact this
      · rw [g20, g21, g22, g23] at q
        have ew : wkS (simD σ Ls O' nn (nI j)) m a (b - a) = wkS (simD σ Ls O' nn (-1)) m a (b - a) := wkS_ext _ (fun t ht => simD_nm hO' hjO (by omega) hs q)
        rw [cuG] at hR
        rw [ew, if_neg (fun q => by
          have := q.2
          rw [Int32.sub_self] at this
          exact i32_lt.mpr dpos this)] at hR
        rintro x9 rfl
        rw [nI_1]
        exact ih (j + 1) t fd df τ (by omega) r k ht (fun i h1 h2 => hh i (by omega) h2) h0 h1 hR
theorem culM_loop {Q : Int32 → St → Prop} {RES tot : Int32} (hI : InvL Ls σ) (B : Bun σ Ls n O F) (hnn : nn ≤ F) (hm : m < n) (ha : a ≤ 240) (hb : b ≤ 240) (hQ : ∀ τ, InvL Ls τ → Q RES τ) :
    ∀ (c j : Nat) (fd df : Int32) (τ : St), j + c = O → Fm xR σ τ → InvL Ls τ → Bun τ Ls n O F →
    cuG (gr σ 21) (nI m) (fun j => wkS (simD σ Ls O nn (nI j)) m a (b - a)) tot c j fd df = RES →
    wX12_culprit_54 Q (c + 1) (nI m) (nI a) (nI b) (nI nn) tot fd df (nI j) τ := by
  obtain ⟨hF, hn, hO⟩ := BunF B
  intro c
  induction c with
  | zero =>
    intro j fd df τ hj f hI1 B1 hR
    have hR : fd = RES := hR
    refine ⟨fun _ => by rw [hR]; exact hQ τ hI1, fun c => ?_⟩
    rw [B1.2.2.1.2.2.2.2.2.2.2.1] at c
    exact absurd (nI_le (by omega) (by omega)) c
  | succ c ih =>
    intro j fd df τ hj f hI1 B1 hR
    have g : gv τ 82 j = gr σ 21 j := by
      rw [gv_gr, B1.2.2.2.2.2.1, f.gr (k := 21) (fun _ => rfl)]
    rw [wX12_culprit_54, B1.2.2.1.2.2.2.2.2.2.2.1, nI_clamp (show j < 2 ^ 31 by omega), g]
    rw [cuG] at hR
    refine ⟨fun c => absurd c (nI_ge (by omega) (by omega)), fun _ => ⟨vp_in_nI (by omega) (by decide), fun c1 => ?_, fun c1 => ?_⟩⟩
    · rintro x8 rfl
      rw [nI_1]
      rw [if_neg (fun q => q.1 c1)] at hR
      exact ih (j + 1) fd df τ (by omega) f hI1 B1 hR
    · refine workM B1 hI1 hnn ha hb hm (fun τ1 f1 hI2 B2 => ?_)
      rw [simD_R f]
      rintro x9 rfl
      refine ⟨fun c2 => ?_, fun c2 => ?_⟩
      · rintro x8 rfl
        rw [nI_1]
        rw [if_pos ⟨c1, c2⟩] at hR
        exact ih (j + 1) _ _ τ1 (by omega) (f.tr f1) hI2 B2 hR
      · rintro x8 rfl
        rw [nI_1]
        rw [if_neg (fun q => c2 q.2)] at hR
        exact ih (j + 1) fd df τ1 (by omega) (f.tr f1) hI2 B2 hR
theorem both_culprit {Z : Int32 → St → Prop} (hI : Inv σ) (x1 x2 x3 x4 : Int32) (hZ : ∀ r σ1, (∀ Z2 : Int32 → St → Prop, (∀ σ2, Inv σ2 → Z2 r σ2) → wX12_culprit x1 x2 x3 x4 σ1 Z2) → Z r σ1) : wX11_culprit x1 x2 x3 x4 σ Z := by
  obtain ⟨Ls, hL⟩ := Inv_iff.mp hI
  obtain ⟨n, O, F, Bn⟩ := InvB hL
  obtain ⟨hF, hn, hO⟩ := BunF Bn
  have eN := Bn.1.2.2.1
  have eF := Bn.2.1.2.1
  have eNM := Bn.2.2.1.2.2.1
  have eFM := Bn.2.2.2.2.2.2.2.2.1
  by_cases hb : (∃ m, m < n ∧ x1 = nI m) ∧ (∃ h, h ≤ 240 ∧ x2 = nI h) ∧ (∃ h, h ≤ 240 ∧ x3 = nI h) ∧ ∃ k, k ≤ F ∧ x4 = nI k
  · obtain ⟨⟨m, hm, rfl⟩, ⟨a, ha, rfl⟩, ⟨b, hb, rfl⟩, ⟨nn, hnn, rfl⟩⟩ := hb
    refine isMillD n (by omega) eN (fun _ _ _ => ⟨z11, fun _ => endD (fun _ _ _ => ⟨z11, fun _ => endD (fun _ _ _ => ⟨z11, fun _ => knD hF eF (fun _ _ _ => ⟨z11, fun _ => ?_⟩) (fun g => absurd rfl (g nn hnn))⟩) (fun g => absurd rfl (g b hb))⟩) (fun g => absurd rfl (g a ha))⟩) (fun g => absurd rfl (g m hm))
    refine beginQ Bn stg_100 hnn (fun τ1 r1 k1 => ?_)
    refine workedR Bn.1 stg_100 hm ha hb (Nat.zero_le _) r1 (fun τ2 r2 f2 => ?_)
    have k2 : gv τ2 3 4 = nI nn := (f2.2 3 4 (xS_34 stg_100)).trans k1
    have hI2 := RnD.inv hL Bn hnn r2 k2
    have B2 := BunE Bn hI2 r2.1
    rw [Nat.sub_zero, wkT_S]
    refine beginD (σ0 := σ) (Ls := Ls) (n := n) (O := O) (w := -1) stg_100 r2.1 B2.2.1 hnn (r2.1.gr (fun _ => rfl)) (r2.1.gr (fun _ => rfl)) (fun τ3 r3 k3 _ => ?_)
    refine ⟨O + 1, ?_⟩
    have fin : ∀ t τ, RnD σ Ls n O nn (-1) τ 100 t → gv τ 3 4 = nI nn → Z (cuG (gr σ 21) (nI m) (fun j => wkS (simD σ Ls O nn (nI j)) m a (b - a)) (wkS (simD σ Ls O nn (-1)) m a (b - a)) O 0 (-1) 0) τ := by
      intro t τ r k
      have hI4 := RnD.inv hL Bn hnn r k
      have B4 := BunE Bn hI4 r.1
      refine hZ _ _ (fun Z2 h2 => isMillM n (by omega) B4.2.2.1.2.2.1 (fun _ _ _ => ⟨z11, fun _ => endM (fun _ _ _ => ⟨z11, fun _ => endM (fun _ _ _ => ⟨z11, fun _ => knM hF B4.2.2.2.2.2.2.2.2.1 (fun _ _ _ => ⟨z11, fun _ => ?_⟩) (fun g => absurd rfl (g nn hnn))⟩) (fun g => absurd rfl (g b hb))⟩) (fun g => absurd rfl (g a ha))⟩) (fun g => absurd rfl (g m hm)))
      refine workM B4 hI4 hnn ha hb hm (fun τ5 f5 hI5 B5 => ⟨O + 1, ?_⟩)
      rw [simD_fm r.1]
      refine culM_loop hI5 B5 hnn hm ha hb (fun τ6 hI6 => h2 _ (Inv_iff.mpr ⟨Ls, hI6⟩)) O 0 (-1) 0 τ5 (by omega) Fm.rf hI5 B5 ?_
      rw [f5.gr (k := 21) (fun _ => rfl), r.1.gr (k := 21) (fun _ => rfl)]
      have e : ∀ w, simD τ5 Ls O nn w = simD σ Ls O nn w := fun w => (simD_R f5).trans (simD_fm r.1)
      simp only [e]
    have key := culD_loop (Q := Z) hL Bn hnn hm ha hb fin O 0 0 (-1) 0 τ3 (by omega) r3 k3 (by omega) (fun i _ hi => ?_) (by decide) (by decide) rfl
    · rw [Int32.add_zero] at key
      exact key
    · obtain ⟨o1, o2, o3, o4, o5, O', hO', eO', o6, hs⟩ := hL.2.2.2.2.2.2.1
      have e : O' = O := (nI_eq (by omega) (by omega)).mp (eO'.symm.trans Bn.1.2.2.2.2.2.1)
      subst e
      obtain ⟨oc, ck, hck, eck⟩ := hL.2.2.2.2.1
      obtain ⟨h, m, v, q1, q2, q3, q4, q5, q6, q7⟩ := o6 i hi
      rw [eck, nI_clamp (by omega)] at q1
      rw [q4]
      exact nI_le (by omega) (by omega)
  · have hz : Z (-1) σ := hZ _ _ (fun Z2 h2 => by
      have hz := h2 _ hI
      exact isMillM n (by omega) eNM (fun m hm e1 => ⟨z11, fun _ => endM (fun a ha e2 => ⟨z11, fun _ => endM (fun b hb2 e4 => ⟨z11, fun _ => knM hF eFM (fun nn hnn e3 => absurd ⟨⟨m, hm, e1⟩, ⟨a, ha, e2⟩, ⟨b, hb2, e4⟩, ⟨nn, hnn, e3⟩⟩ hb) (fun _ => ⟨fun _ => hz, fun c => absurd rfl c⟩)⟩) (fun _ => ⟨fun _ => hz, fun c => absurd rfl c⟩)⟩) (fun _ => ⟨fun _ => hz, fun c => absurd rfl c⟩)⟩) (fun _ => ⟨fun _ => hz, fun c => absurd rfl c⟩))
    exact isMillD n (by omega) eN (fun m hm e1 => ⟨z11, fun _ => endD (fun a ha e2 => ⟨z11, fun _ => endD (fun b hb2 e4 => ⟨z11, fun _ => knD hF eF (fun nn hnn e3 => absurd ⟨⟨m, hm, e1⟩, ⟨a, ha, e2⟩, ⟨b, hb2, e4⟩, ⟨nn, hnn, e3⟩⟩ hb) (fun _ => ⟨fun _ => hz, fun c => absurd rfl c⟩)⟩) (fun _ => ⟨fun _ => hz, fun c => absurd rfl c⟩)⟩) (fun _ => ⟨fun _ => hz, fun c => absurd rfl c⟩)⟩) (fun _ => ⟨fun _ => hz, fun c => absurd rfl c⟩)
end CU
