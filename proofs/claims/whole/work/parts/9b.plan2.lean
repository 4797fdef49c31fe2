/-! plan. -/
section MW
variable {σ : St} {Q : Int32 → St → Prop}
theorem mwk_loop {N m mw : Nat} (hN : N ≤ 20) (eN : gv σ 2 6 = nI N) (hm : m < 7) (e14 : gv σ 14 m = nI mw) (hf : ∀ i, i < N → -100 ≤ gr σ 16 i ∧ gr σ 16 i ≤ 100) (hQ : ∀ bb : Nat, bb ≤ 100 → (∀ i, i < N → (gr σ 16 i).toInt ≤ bb) → Q (nI (2 * mw * bb)) σ) : ∀ (c i bb : Nat), i + c = N → bb ≤ 100 → (∀ j, j < i → (gr σ 16 j).toInt ≤ bb) → wX3_mostWork_16 Q (c + 1) (nI m) (nI bb) (nI i) σ := by
  intro c
  induction c with
  | zero =>
    intro i bb hi hb h
    rw [wX3_mostWork_16, eN, nI_clamp (show m < 2 ^ 31 by omega), e14]
    refine ⟨fun _ => ⟨vp_in_nI hm (by decide), ?_⟩, fun c => absurd (nI_le (by omega) (by omega)) c⟩
    rw [show (2 : Int32) = nI 2 from rfl, pk_mul, pk_mul]
    exact hQ bb hb (fun j hj => h j (by omega))
  | succ c ih =>
    intro i bb hi hb h
    rw [wX3_mostWork_16, eN, nI_clamp (show i < 2 ^ 31 by omega)]
    refine ⟨fun c => absurd c (nI_ge (by omega) (by omega)), fun _ => ⟨vp_in_nI (by omega) (by decide), ?_⟩⟩
    obtain ⟨q1, q2⟩ := hf i (by omega)
    rw [Int32.le_iff_toInt_le] at q1 q2
    rw [show (-100 : Int32).toInt = -100 by decide] at q1
    rw [show (100 : Int32).toInt = 100 by decide] at q2
    have e : ∃ b', jmax (nI bb) (gv σ 16 i) = nI b' ∧ b' ≤ 100 ∧ bb ≤ b' ∧ (gr σ 16 i).toInt ≤ b' := by
      rw [gv_gr]
      simp only [jmax]
      by_cases z : nI bb < gr σ 16 i
      · rw [if_pos z]
        rw [Int32.lt_iff_toInt_lt, nI_toInt (by omega)] at z
        obtain ⟨y, hy, ey⟩ := nI_of (x := gr σ 16 i) (fun q => by
          rw [Int32.lt_iff_toInt_lt, show (0 : Int32).toInt = 0 by decide] at q
          omega)
        rw [ey] at z q2 ⊢
        rw [nI_toInt hy] at z q2 ⊢
        exact ⟨y, rfl, by omega, by omega, by omega⟩
      · rw [if_neg z]
        rw [Int32.lt_iff_toInt_lt, nI_toInt (by omega)] at z
        exact ⟨bb, rfl, hb, Nat.le_refl _, by omega⟩
    obtain ⟨b', e1, e2, e3, e4⟩ := e
    rintro x2 rfl x3 rfl
    rw [e1, nI_1]
    refine ih (i + 1) b' (by omega) e2 (fun j hj => ?_)
    by_cases z : j = i
    · rw [z]; exact e4
    · have := h j (by omega)
      omega
/-- the most that a mill works in an hour -/
theorem mostD {m mw : Nat} (hF : IvF (gv σ 2 6) (gv σ 11 49) (gr σ 16) (gr σ 77)) (hm : m < 7) (e14 : gv σ 14 m = nI mw) (hmw : mw ≤ 4) (hQ : ∀ M : Nat, M ≤ 800 → (∀ (u : Nat) x, u ≤ 2 * mw → (u : Int) * (fcW (gv σ 2 6) (gr σ 16) x).toInt ≤ M) → Q (nI M) σ) : wX3_mostWork (nI m) σ Q := by
  have q : gv σ 2 6 = -1 ∨ ∃ n, 1 ≤ n ∧ n ≤ 20 ∧ gv σ 2 6 = nI n ∧ ∀ i, i < n → -100 ≤ gr σ 16 i ∧ gr σ 16 i ≤ 100 := by
    rcases hF.2 with q | ⟨k, q1, q2, q3, q4⟩
    · exact Or.inl q
    · exact Or.inr ⟨k, q1, q2, q3, fun i hi => (q4 i hi).2⟩
  have fin : ∀ bb : Nat, bb ≤ 100 → (∀ x, (fcW (gv σ 2 6) (gr σ 16) x).toInt ≤ bb) → Q (nI (2 * mw * bb)) σ := by
    intro bb hb hx
    have h8 : 2 * mw * bb ≤ 800 := Nat.le_trans (Nat.mul_le_mul (show 2 * mw ≤ 8 by omega) hb) (by decide)
    refine hQ _ h8 (fun u x hu => ?_)
    have s1 : (u : Int) * (fcW (gv σ 2 6) (gr σ 16) x).toInt ≤ (u : Int) * bb := Int.mul_le_mul_of_nonneg_left (hx x) (by omega)
    have s2 : (u : Int) * bb ≤ ((2 * mw : Nat) : Int) * bb := Int.mul_le_mul_of_nonneg_right (by omega) (by omega)
    rw [Int.natCast_mul]
    omega
  rcases q with q | ⟨N, q1, q2, q3, q4⟩
  · refine ⟨fun _ => ⟨1, ?_⟩, fun c => absurd q c⟩
    rw [wX3_mostWork_16, q, nI_clamp (show m < 2 ^ 31 by omega), e14]
    refine ⟨fun _ => ⟨vp_in_nI hm (by decide), ?_⟩, fun c => absurd (by decide) c⟩
    have := fin 1 (by decide) (fun x => (fcWB (Or.inl q) (B := 1) (by decide) (fun _ => by decide) (fun n' e' hn' => by rw [q] at e'; exact absurd e'.symm (nI_neg1 (by omega))) x).2.2)
    rw [show (2 : Int32) = nI 2 from rfl, show (1 : Int32) = nI 1 from rfl, pk_mul, pk_mul]
    exact this
  · refine ⟨fun c => absurd (q3.symm.trans c) (nI_neg1 (by omega)), fun _ => ⟨N + 1, ?_⟩⟩
    refine mwk_loop q2 q3 hm e14 q4 (fun bb hb hx => fin bb hb (fun x => (fcWB (Or.inr ⟨N, q1, q2, q3, q4⟩) (B := bb) (by omega) (fun z => absurd (q3.symm.trans z) (nI_neg1 (by omega))) (fun n' e' hn' i hi => ?_) x).2.2)) N 0 0 (by omega) (by omega) (fun j hj => absurd hj (by omega))
    have : N = n' := (nI_eq (by omega) (by omega)).mp (q3.symm.trans e')
    exact hx i (by omega)
end MW
section PZ
variable {σ : St} {Ls : List Ru} {n O F : Nat}
theorem StB_of {mm mw M : Nat} (hI : InvL Ls σ) (B : Bun σ Ls n O F) (hmm : mm < n) (hmw : mw ≤ 4) (hf : ∀ (u : Nat) x, u ≤ 2 * mw → (u : Int) * (fcW (gv σ 2 6) (gr σ 16) x).toInt ≤ M) : StB (stP σ Ls O F mm) mm mw M (WtOk (cfD σ Ls)) := by
  intro h w r hw hr
  have hc := cfOk hI B
  have en := cfD_n B
  have g1 : ∀ m, m < (cfD σ Ls).1 → ∃ x, x ≤ 1000 ∧ rtW (gr σ 17) (gr σ 18) F (7 * h + m) = nI x := fun m _ => rnOk hI B (Nat.le_refl _) _
  have g2 : ∀ m, m < (cfD σ Ls).1 → ∃ x, x ≤ 9 ∧ hdO (gr σ 21) (gr σ 22) (gr σ 23) (-1) (gvO (gr σ 20) O h) (m + 7) = nI x ∧ hdO (gr σ 21) (gr σ 22) (gr σ 23) (-1) (gvO (gr σ 20) O h) (m + 7) ≤ (cfD σ Ls).2.2.2.1 m := fun m hm => by rw [en] at hm; exact gtOk hI B (-1) (gvT_le (h + 1)) hm
  have g3 : ∀ m, m < (cfD σ Ls).1 → ∃ x, x ≤ 4 ∧ (if m = mm then nI w else hdO (gr σ 21) (gr σ 22) (gr σ 23) (-1) (gvO (gr σ 20) O h) m) = nI x := fun m hm => by
    by_cases c : m = mm
    · rw [if_pos c]
      exact ⟨w, by omega, rfl⟩
    · rw [if_neg c]
      rw [en] at hm
      exact whOk B (-1) (gvT_le (h + 1)) hm
  refine ⟨wt_step hc hr g1 g2 g3, ?_⟩
  obtain ⟨u, y, th, sp, hu, e6, e7, h7, e8, h8⟩ := wt_work (h := h) hc hr g1 g2 (m := mm) (by rw [en]; exact hmm) (x := w) (W := fun m => if m = mm then nI w else hdO (gr σ 21) (gr σ 22) (gr σ 23) (-1) (gvO (gr σ 20) O h) m) (by omega) (if_pos rfl)
  refine ⟨th, sp, e7, h7, e8, h8, ?_, ?_⟩
  · have e6 : (stP σ Ls O F mm h w r 6 mm).toInt = _ := e6
    rw [e6]
    obtain ⟨z1, z2⟩ := hc.2.2.2.2 y
    rcases (show u = 0 ∨ u = 1 ∨ u = 2 ∨ u = 3 ∨ u = 4 ∨ u = 5 ∨ u = 6 ∨ u = 7 ∨ u = 8 by omega) with rfl | rfl | rfl | rfl | rfl | rfl | rfl | rfl | rfl <;> omega
  · have e6 : (stP σ Ls O F mm h w r 6 mm).toInt = _ := e6
    rw [e6]
    exact hf u y (by omega)
theorem cfD_pk {τ : St} (f : Fm xPk σ τ) : cfD τ Ls = cfD σ Ls := by
  unfold cfD
  rw [f.2 2 4 rfl, f.gr (k := 12) (fun _ => rfl), f.gr (k := 13) (fun _ => rfl), f.gr (k := 15) (fun _ => rfl), f.2 2 5 rfl, f.2 2 6 rfl, f.gr (k := 16) (fun _ => rfl)]
theorem stP_pk {τ : St} {mm : Nat} (f : Fm xPk σ τ) : stP τ Ls O F mm = stP σ Ls O F mm := by
  funext h w r
  unfold stP
  rw [cfD_pk f, f.gr (k := 17) (fun _ => rfl), f.gr (k := 18) (fun _ => rfl), f.gr (k := 20) (fun _ => rfl), f.gr (k := 21) (fun _ => rfl), f.gr (k := 22) (fun _ => rfl), f.gr (k := 23) (fun _ => rfl)]
theorem gdP_pk {τ : St} (f : Fm xPk σ τ) : gdP τ Ls n = gdP σ Ls n := by
  funext h r
  unfold gdP
  rw [cfD_pk f]
theorem simD_pk {τ : St} {nn : Nat} {w : Int32} (f : Fm xPk σ τ) : simD τ Ls O nn w = simD σ Ls O nn w := by
  unfold simD
  rw [cfD_pk f, f.gr (k := 17) (fun _ => rfl), f.gr (k := 18) (fun _ => rfl), f.gr (k := 20) (fun _ => rfl), f.gr (k := 21) (fun _ => rfl), f.gr (k := 22) (fun _ => rfl), f.gr (k := 23) (fun _ => rfl)]
theorem xPl_Pk {a j : Nat} (h : xPk a j = false) : xPl a j = false := by
  unfold xPk at h
  simp only [Bool.or_eq_false_iff] at h
  exact h.1.1
/-- what the class has planned -/
def PnD (σ : St) (k : Nat) (ans : Int32) (υ : St) : PB → Prop
  | none => ans = -1 ∧ gv υ 10 1 = gv σ 10 1 ∧ gr υ 44 = gr σ 44
  | some b => ans = b.1 ∧ gv υ 10 1 = nI k ∧ ∀ i, i < k → gv υ 44 i = b.2 i
theorem planD {Q : Int32 → St → Prop} {mm k H mw : Nat} {need : Int32} (hI : InvL Ls σ) (Bn : Bun σ Ls n O F) (hmm : mm < n) (hk : k ≤ 6) (hk1 : 1 ≤ k) (eH : gv σ 0 5 = nI H) (hH : H + k ≤ 240) (hn0 : 0 ≤ need.toInt) (e14 : gv σ 14 mm = nI mw) (hmw : mw ≤ 4)
    (hQ : ∀ M υ ans, M ≤ 800 → StB (stP σ Ls O F mm) mm mw M (WtOk (cfD σ Ls)) → Fm xPk σ υ → gv υ 3 4 = nI F → (∀ i, i < 1680 → gv υ 19 i = rtW (gr σ 17) (gr σ 18) F i) → PnD σ k ans υ (plE (stP σ Ls O F mm) (gdP σ Ls n) mm mw need k 0 H (simD σ Ls O F (-1) H) 0 0 (fun _ => 0) none).2 → Q ans υ) :
    wX5_ask (nI mm) (nI k) need σ (fun (σ10 : St) => wX10_begin 100 (gv σ10 3 0) (-1 : Int32) σ10 (fun (σ12 : St) => wX10_run 100 ((gv σ12 0 5) - (1 : Int32)) σ12 (fun (σ14 : St) => wX5_find 100 σ14 (fun (r15 : Int32) (σ16 : St) => Q r15 σ16)))) := by
  obtain ⟨hF, hn, hO⟩ := BunF Bn
  have x10 : ∀ j, 5 ≤ j → xPl 10 j = true := fun j hj => by simp [xPl, hj]
  intro σ1 e1 σ2 e2 σ3 e3
  have f1 : Fm xPl σ σ1 := by rw [e1]; exact Fm_pv (x10 6 (by decide))
  have f2 : Fm xPl σ1 σ2 := by rw [e2]; exact Fm_pv (x10 7 (by decide))
  have f3 : Fm xPl σ2 σ3 := by rw [e3]; exact Fm_pv (x10 8 (by decide))
  have f03 := (f1.tr f2).tr f3
  have eF3 : IvF (gv σ3 2 6) (gv σ3 11 49) (gr σ3 16) (gr σ3 77) := by
    rw [f03.2 2 6 rfl, f03.2 11 49 rfl, f03.gr (k := 16) (fun _ => rfl), f03.gr (k := 77) (fun _ => rfl)]
    exact hI.2.2.2.1
  refine mostD (mw := mw) eF3 (by omega) ((f03.2 14 mm rfl).trans e14) hmw (fun M hM hf => ?_)
  rw [f03.2 2 6 rfl, f03.gr (k := 16) (fun _ => rfl)] at hf
  have hB := StB_of hI Bn hmm hmw hf
  intro σ6 e6
  refine ⟨vp_in_nI (by omega) (by decide), ?_⟩
  rw [nI_clamp (by omega)]
  have f6 : Fm xPl σ3 σ6 := by rw [e6]; exact Fm_pv (x10 9 (by decide))
  intro σ8 e8 σ9 e9
  have f8 : Fm xPl σ6 σ8 := by rw [e8]; exact Fm_pv (x10 10 (by decide))
  have f9 : Fm xPl σ8 σ9 := by rw [e9]; exact Fm_pv (x10 5 (by decide))
  have f09 := ((f03.tr f6).tr f8).tr f9
  have g14 : gv σ6 14 mm = nI mw := ((f03.tr f6).2 14 mm rfl).trans e14
  rw [g14] at e8
  have c6 : gv σ9 10 6 = nI mm := by simp only [e9, e8, e6, e3, e2, e1, gv_pv]; rfl
  have c7 : gv σ9 10 7 = nI k := by simp only [e9, e8, e6, e3, e2, gv_pv]; rfl
  have c8 : gv σ9 10 8 = need := by simp only [e9, e8, e6, e3, gv_pv]; rfl
  have c9 : gv σ9 10 9 = nI M := by simp only [e9, e8, e6, gv_pv]; rfl
  have c10 : gv σ9 10 10 = nI mw := by simp only [e9, e8, gv_pv]; rfl
  have c5 : gv σ9 10 5 = 2147483647 := by simp only [e9, gv_pv]; rfl
  have B9 := Bn.1.pl f09
  have R9 : RaD σ9 F := by
    obtain ⟨r1, r2, r3, r4⟩ := Bn.2.1
    exact ⟨r1, (f09.2 3 0 rfl).trans r2, fun j hj => by rw [f09.2 17 j rfl]; exact r3 j hj, by
      obtain ⟨K, k1, k2, k3⟩ := r4
      have h34 : gv σ9 3 4 = gv σ 3 4 := by simp only [e9, e8, e6, e3, e2, e1, gv_pv]; rfl
      have h19 : gr σ9 19 = gr σ 19 := by rw [e9, e8, e6, e3, e2, e1]; rfl
      rw [h34, f09.2 3 0 rfl, f09.gr (k := 17) (fun _ => rfl), f09.gr (k := 18) (fun _ => rfl), h19]
      exact ⟨K, k1, k2, k3⟩⟩
  have eF9 : gv σ9 3 0 = nI F := R9.2.1
  rw [eF9]
  refine beginD (σ0 := σ9) (Ls := Ls) (n := n) (O := O) stg_100 Fm.rf R9 (Nat.le_refl _) rfl rfl (fun τ r k4 _ => ?_)
  have e05 : gv τ 0 5 = nI H := (r.1.2 0 5 rfl).trans ((f09.2 0 5 rfl).trans eH)
  rw [e05]
  refine runR B9 stg_100 (by omega) (Nat.zero_le _) r (fun τ1 r1 g1 => ?_)
  have fk9 : Fm xPk σ σ9 := f09.mono (fun _ _ q => xPl_Pk q)
  have f1x : Fm xPl σ9 τ1 := r1.1.mono (fun _ _ q => xG_Pl q)
  have P : PdOk σ F mm k M mw need τ1 := by
    refine ⟨f09.tr f1x, fun i hi => ?_, (r1.1.2 10 6 rfl).trans c6, (r1.1.2 10 7 rfl).trans c7, (r1.1.2 10 8 rfl).trans c8, (r1.1.2 10 9 rfl).trans c9, (r1.1.2 10 10 rfl).trans c10⟩
    rw [r1.2.1 i hi, f09.gr (k := 17) (fun _ => rfl), f09.gr (k := 18) (fun _ => rfl)]
  have hS : StAt σ τ1 100 n (H + 0) (simD σ Ls O F (-1) H) (-1) (gvT (gr σ 20) O (H + 0)) (fun m => m ≠ mm) := by
    obtain ⟨s1, s2, s3, s4, s5, s6⟩ := r1.2.2
    rw [f09.gr (k := 20) (fun _ => rfl)] at s2 s5 s6
    rw [f09.gr (k := 21) (fun _ => rfl), f09.gr (k := 22) (fun _ => rfl), f09.gr (k := 23) (fun _ => rfl)] at s5 s6
    rw [simD_pk fk9] at s4
    exact ⟨s1, s2, s3, s4, fun m _ hm => s5 m trivial hm, s6⟩
  have E0 : EnD k τ1 none := (r1.1.2 10 5 rfl).trans c5
  unfold wX5_find
  refine srD (M := M) Bn.1 hmm hk hM hH hn0 hB hmw k 8 0 100 _ 0 0 (fun _ => 0) none τ1 _ (by omega) (by omega) stg_100 (by decide) P hS (simD_wt hI Bn (Nat.le_refl _) (-1) H) (by decide) (by decide) (by decide) (by decide) (fun i hi => absurd hi (by omega)) E0 (fun z => absurd z (by omega)) (fun τ2 f2 E2 => ?_)
  have E2 : EnD k τ2 (plE (stP σ Ls O F mm) (gdP σ Ls n) mm mw need k 0 H (simD σ Ls O F (-1) H) 0 0 (fun _ => 0) none).2 := E2
  have P2 := P.dp f2
  have h34 : gv τ2 3 4 = nI F := by
    rw [f2.2 3 4 (by simp [xDp, xV]), g1.2 3 4 (xS_34 stg_100)]
    exact k4
  have fk2 : Fm xPk σ τ2 := P2.1.mono (fun _ _ q => xPl_Pk q)
  have hQ' := hQ M
  generalize (plE (stP σ Ls O F mm) (gdP σ Ls n) mm mw need k 0 H (simD σ Ls O F (-1) H) 0 0 (fun _ => 0) none).2 = RES at E2 hQ'
  cases RES with
  | none =>
    have E2 : gv τ2 10 5 = 2147483647 := E2
    refine ⟨fun _ => hQ' τ2 (-1) hM hB fk2 h34 P2.2.1 ⟨rfl, P2.1.2 10 1 rfl, P2.1.gr (fun _ => rfl)⟩, fun c => absurd E2 c⟩
  | some b =>
    obtain ⟨q1, q2, q3, q4⟩ := E2
    refine ⟨fun c => ?_, fun _ => ?_⟩
    · exfalso
      rw [c] at q1
      rw [← q1] at q3
      exact absurd q3 (by decide)
    · rintro σ2' rfl σ3' rfl
      have e7 : gv (pa τ2 44 (gr τ2 47)) 10 7 = nI k := by rw [gv_pa, if_neg (by decide)]; exact P2.2.2.2.1
      rw [e7]
      refine hQ' _ _ hM hB ((fk2.tr (Fm_pa (fun _ => by simp [xPk]))).tr (Fm_pv (by simp [xPk]))) ?_ (fun i hi => ?_) ⟨?_, ?_, fun i hi => ?_⟩
      · rw [gv_pv, if_neg (by decide), gv_pa, if_neg (by decide)]
        exact h34
      · rw [gv_pv, if_neg (by omega), gv_pa, if_neg (by decide)]
        exact P2.2.1 i hi
      · rw [gv_pv, if_neg (by decide), gv_pa, if_neg (by decide)]
        exact q1
      · rw [gv_pv, if_pos ⟨rfl, rfl⟩]
      · rw [gv_pv, if_neg (by omega), gv_pa, if_pos rfl]
        exact q4 i hi
/-- the reference, from what it held -/
theorem planM {Q : Int32 → St → Prop} {mm k H mw M : Nat} {need : Int32} (hI : InvX Ls σ) (Bn : Bun σ Ls n O F) (hmm : mm < n) (hk : k ≤ 6) (hk1 : 1 ≤ k) (eH : gv σ 11 51 = nI H) (hH : H + k ≤ 240) (e75 : gv σ 75 mm = nI mw) (hmw : mw ≤ 4) (hM : M ≤ 800) (hB : StB (stP σ Ls O F mm) mm mw M (WtOk (cfD σ Ls))) (hwt : WtOk (cfD σ Ls) (simD σ Ls O F (-1) H))
    (hQ : ∀ τ ans, Fm xQ σ τ → gv τ 11 66 = -1 → EnM σ k ans τ (plE (stP σ Ls O F mm) (gdP σ Ls n) mm mw need k 0 H (simD σ Ls O F (-1) H) 0 0 (fun _ => 0) none).2 → Q ans τ) :
    wX12_works (gv σ 11 52) (-1 : Int32) σ (fun (σ10 : St) => wX12_changes σ10 (fun (σ12 : St) => vp_in (0 : Int32) 6 ∧ ∀ σ14 : St, σ14 = pv σ12 94 (0 : Int32).toNatClampNeg (-1 : Int32) → ∃ j : Nat, wX12_plan_71 Q j (nI mm) (nI k) need (-1 : Int32) (0 : Int32) σ14)) := by
  obtain ⟨hF, hn, hO⟩ := BunF Bn
  rw [Bn.2.2.2.2.2.2.2.2.1]
  refine worksQ Bn (Nat.le_refl _) (fun τ f nw => ?_)
  rintro σ1 rfl
  refine ⟨(vp_in_nI (show 0 < 6 by decide) (by decide) : vp_in (nI 0) 6), ?_⟩
  rintro σ14 rfl
  have fx : Fm (fun a j => (a == 11 && j == 66) || a == 94) τ (pv (pv τ 11 66 (-1)) 94 (0 : Int32).toNatClampNeg (-1)) := (Fm_pv (by simp)).tr (Fm_pv (by simp))
  have fq : Fm xQ σ (pv (pv τ 11 66 (-1)) 94 (0 : Int32).toNatClampNeg (-1)) := (f.mono (fun a j q => by
    unfold xQ at q
    simp only [Bool.or_eq_false_iff] at q
    exact q.1.1.1.1.1)).tr ((Fm_pv rfl).tr (Fm_pv rfl))
  obtain ⟨w1, w2, w3, w4, w5⟩ := nw
  have g88 : ∀ j, gv (pv (pv τ 11 66 (-1)) 94 (0 : Int32).toNatClampNeg (-1)) 88 j = gv τ 88 j := fun j => fx.2 88 j rfl
  have hrow : ∀ h m i, h < 240 → m < n → i < 10 → gv τ 88 (10 * (7 * h + m) + i) = simD σ Ls O F (-1) (h + 1) i m := fun h m i a b c => by rw [w3 h m i a b c, sim_D Bn]
  have P : PmOk σ O F (pv (pv τ 11 66 (-1)) 94 (0 : Int32).toNatClampNeg (-1)) := by
    refine ⟨fq, fun i hi => ?_, fun h i a b => ?_, ?_⟩
    · rw [fx.2 89 i rfl]
      exact w4 i hi
    · rw [fx.2 90 _ rfl, w5 h i a b, Bn.2.2.2.2.1, Bn.2.2.2.2.2.1, Bn.2.2.2.2.2.2.1, Bn.2.2.2.2.2.2.2.1]
    · rw [gv_pv, if_neg (by decide), gv_pv, if_pos ⟨rfl, rfl⟩]
  have L : LvM n (H + 0) (simD σ Ls O F (-1) H) (pv (pv τ 11 66 (-1)) 94 (0 : Int32).toNatClampNeg (-1)) := by
    refine ⟨fun m hm => ?_, fun z m hm => ?_, fun z m => ?_⟩
    · rw [g88]
      exact hrow H m 0 (by omega) hm (by decide)
    · rw [g88, hrow (H + 0 - 1) m 9 (by omega) hm (by decide), show H + 0 - 1 + 1 = H by omega]
    · rw [show H = 0 by omega]
      rfl
  have z96 : gv (pv (pv τ 11 66 (-1)) 94 (0 : Int32).toNatClampNeg (-1)) 96 0 = 0 := (fq.2 96 0 rfl).trans hI.2.2.2.2.2.2.2.2.2.2.2.2.2.2.1
  have z97 : gv (pv (pv τ 11 66 (-1)) 94 (0 : Int32).toNatClampNeg (-1)) 97 0 = 0 := (fq.2 97 0 rfl).trans hI.2.2.2.2.2.2.2.2.2.2.2.2.2.2.2
  have E : EnM σ k (-1) (pv (pv τ 11 66 (-1)) 94 (0 : Int32).toNatClampNeg (-1)) none := by
    refine ⟨rfl, ?_, ?_⟩
    · rw [fx.2 11 75 rfl, f.2 11 75 rfl]
    · rw [fx.gr (k := 95) (fun _ => rfl), f.gr (k := 95) (fun _ => rfl)]
  refine ⟨_, plM (Q := Q) (M := M) (need := need) hI.2.1.2.2.2.2.1 Bn hmm hk hH hM hB hmw e75 eH k 0 (simD σ Ls O F (-1) H) 0 0 (fun _ => 0) none (-1) _ 1 (by omega) (by omega) P L hwt (by decide) (by decide) (by decide) (by decide) (fun i hi => absurd hi (by omega)) ?_ z96 z97 E (fun τ' best' f' _ E' => ?_)⟩
  · rw [gv_pv, if_pos ⟨rfl, rfl⟩]
  · refine ⟨fun _ => hQ τ' best' (fq.tr (f'.mono (fun _ _ q => xMp_Q q))) ((P.mp f').2.2.2) E', fun c => absurd (by decide) c⟩
end PZ
