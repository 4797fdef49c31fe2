/-! steps, whole. -/
section S1
variable {σ : St} {Q : St → Prop} {Ls : List Ru} {h n : Nat} {r : Rw} {rn W G : Nat → Int32} {pm pw : Int32}
theorem st1_loop (hn : n ≤ 7) (eN : gv σ 11 43 = nI n) (hh : h < 240) (hprev : h ≠ 0 → ∀ m, m < n → gv σ 88 (10 * (7 * (h - 1) + m) + 9) = r 9 m) (h0 : h = 0 → ∀ m, r 9 m = 0) (hrn : ∀ m, m < n → gv σ 89 (7 * h + m) = rn m) (hset : ∀ m, m < n → (if nI m = pm then pw else gv σ 90 (14 * h + m)) = W m)
    (hQ : ∀ τ, Fm (fun a _ => a == 88) σ τ → (∀ m, m < n → gv τ 88 (10 * (7 * h + m) + 1) = rn m + (if m = 0 then gv σ 11 48 else r 9 (m - 1)) ∧ gv τ 88 (10 * (7 * h + m) + 2) = W m) → (∀ j, (∀ m, m < n → j ≠ 10 * (7 * h + m) + 1 ∧ j ≠ 10 * (7 * h + m) + 2) → gv τ 88 j = gv σ 88 j) → ∃ j : Nat, wX12_steps_123 Q j (nI h) (0 : Int32) τ) :
    ∀ (d m : Nat) (τ : St), m + d = n → Fm (fun a _ => a == 88) σ τ → (∀ m', m' < m → gv τ 88 (10 * (7 * h + m') + 1) = rn m' + (if m' = 0 then gv σ 11 48 else r 9 (m' - 1)) ∧ gv τ 88 (10 * (7 * h + m') + 2) = W m') → (∀ j, (∀ m', m' < m → j ≠ 10 * (7 * h + m') + 1 ∧ j ≠ 10 * (7 * h + m') + 2) → gv τ 88 j = gv σ 88 j) → wX12_steps_3 Q (d + 1) (nI h) pm pw (nI m) τ := by
  intro d
  induction d with
  | zero =>
    intro m τ hm f ha hb
    have hmn : m = n := by omega
    subst hmn
    refine ⟨fun _ => hQ τ f ha hb, fun c => ?_⟩
    rw [f.2 11 43 rfl, eN] at c
    exact absurd (Int32.le_refl _) c
  | succ d ih =>
    intro m τ hm f ha hb
    have hmn : m < n := by omega
    have nx : ∀ (j : Nat) (y : Int32), y = nI j → nI (10 * (7 * h + m)) + y = nI (10 * (7 * h + m) + j) := fun j y hy => by rw [hy, nI_add]
    have e7 : (7 : Int32) * nI h + nI m = nI (7 * h + m) := by rw [show (7 : Int32) = nI 7 from rfl, pk_mul, nI_add]
    have e14 : (14 : Int32) * nI h + nI m = nI (14 * h + m) := by rw [show (14 : Int32) = nI 14 from rfl, pk_mul, nI_add]
    rw [wX12_steps_3, f.2 11 43 rfl, eN]
    refine ⟨fun c => absurd c (nI_ge hmn (by omega)), fun _ => ?_⟩
    intro x5 e5
    rw [ixN] at e5
    subst e5
    have fin : ∀ y : Int32, y = (if m = 0 then gv σ 11 48 else r 9 (m - 1)) → wX12_steps_57 Q (fun x1' x2' x3' x4' σ' => wX12_steps_3 Q (d + 1) x1' x2' x3' x4' σ') (nI h) pm pw (nI m) (nI (10 * (7 * h + m))) y τ := by
      intro y hy
      unfold wX12_steps_57
      rw [e7, nx 1 1 rfl, nx 2 2 rfl, nI_clamp (by omega), nI_clamp (by omega), f.2 89 _ rfl, hrn m hmn, e14, nI_clamp (by omega)]
      refine ⟨vp_in_nI (by omega) (by decide), vp_in_nI (by omega) (by decide), ?_⟩
      rintro σ3 rfl
      have g90 : ∀ b, gv (pv τ 88 (10 * (7 * h + m) + 1) (y + rn m)) 90 b = gv σ 90 b := fun b => by rw [gv_pv, if_neg (by omega)]; exact f.2 90 b rfl
      have l113 : ∀ z : Int32, z = W m → wX12_steps_113 Q (fun x1' x2' x3' x4' σ' => wX12_steps_3 Q (d + 1) x1' x2' x3' x4' σ') (nI h) pm pw (nI m) (nI (10 * (7 * h + m) + 2)) z (pv τ 88 (10 * (7 * h + m) + 1) (y + rn m)) := by
        intro z hz
        refine ⟨vp_in_nI (by omega) (by decide), ?_⟩
        rw [nI_clamp (by omega)]
        rintro σ2 rfl x4 rfl
        rw [nI_1]
        refine ih (m + 1) _ (by omega) ((f.tr (Fm_pv rfl)).tr (Fm_pv rfl)) (fun m' hm' => ?_) (fun j hj => ?_)
        · by_cases hmm : m' = m
          · subst hmm
            refine ⟨?_, ?_⟩
            · rw [gv_pv, if_neg (by omega), gv_pv, if_pos ⟨rfl, rfl⟩, hy, Int32.add_comm]
            · rw [gv_pv, if_pos ⟨rfl, rfl⟩, hz]
          · obtain ⟨q1, q2⟩ := ha m' (by omega)
            refine ⟨?_, ?_⟩
            · rw [gv_pv, if_neg (by omega), gv_pv, if_neg (by omega)]
              exact q1
            · rw [gv_pv, if_neg (by omega), gv_pv, if_neg (by omega)]
              exact q2
        · have hjm := hj m (by omega)
          rw [gv_pv, if_neg (fun q => hjm.2 q.2), gv_pv, if_neg (fun q => hjm.1 q.2)]
          exact hb j (fun m' hm' => hj m' (by omega))
      have hs := hset m hmn
      refine ⟨fun c => l113 _ ?_, fun c => ⟨vp_in_nI (by omega) (by decide), l113 _ ?_⟩⟩
      · rwa [if_pos c] at hs
      · rw [if_neg c] at hs
        rw [g90]
        exact hs
    refine ⟨fun c => fin _ ?_, fun c => ⟨fun c2 => fin _ ?_, fun c2 => ?_⟩⟩
    · have hm0 : m = 0 := (nI_eq (a := m) (b := 0) (by omega) (by decide)).mp c
      rw [if_pos hm0, f.2 11 48 rfl]
    · have hm0 : ¬ m = 0 := fun q => c (by rw [q]; decide)
      have hh0 : h = 0 := (nI_eq (a := h) (b := 0) (by omega) (by decide)).mp c2
      rw [if_neg hm0, h0 hh0]
    · have hm0 : ¬ m = 0 := fun q => c (by rw [q]; decide)
      have hh0 : h ≠ 0 := fun q => c2 (by rw [q]; decide)
      have e80 : nI (10 * (7 * h + m)) - 80 + 9 = nI (10 * (7 * (h - 1) + (m - 1)) + 9) := by
        rw [show (80 : Int32) = nI 80 from rfl, pk_sub (by omega), show (9 : Int32) = nI 9 from rfl, nI_add]
        congr 1
        omega
      rw [e80, nI_clamp (by omega)]
      refine ⟨vp_in_nI (by omega) (by decide), fin _ ?_⟩
      rw [if_neg hm0, hb _ (fun m' _ => by omega)]
      exact hprev hh0 (m - 1) (by omega)
theorem stepsM (hL : LwM σ Ls) (hn : n ≤ 7) (eN : gv σ 11 43 = nI n) (hh : h < 240) (hF : FcOk (gv σ 11 49)) (hcap : ∀ m, m < n → ∃ c, c ≤ 1000 ∧ gv σ 73 m = nI c) (hmg : ∀ m, m < n → ∃ g, g ≤ 9 ∧ gv σ 76 m = nI g) (hlev : ∀ m, m < n → gv σ 88 (10 * (7 * h + m)) = r 0 m + (r 1 m - r 9 m)) (hprev : h ≠ 0 → ∀ m, m < n → gv σ 88 (10 * (7 * (h - 1) + m) + 9) = r 9 m) (h0 : h = 0 → ∀ m, r 9 m = 0) (hrn : ∀ m, m < n → gv σ 89 (7 * h + m) = rn m) (hset : ∀ m, m < n → (if nI m = pm then pw else gv σ 90 (14 * h + m)) = W m) (hGs : ∀ m, m < n → gv σ 90 (14 * h + 7 + m) = G m) (hG : ∀ m, m < n → ∃ g, g ≤ 9 ∧ G m = nI g ∧ G m ≤ gv σ 76 m) (hW : ∀ m, m < n → ∃ w, w ≤ 4 ∧ W m = nI w)
    (hQ : ∀ τ, Fm xP σ τ → (∀ i m, i < 10 → m < n → gv τ 88 (10 * (7 * h + m) + i) = setW (cfM σ Ls) G h (entW (cfM σ Ls) rn W r) i m) → (h + 1 < 240 → ∀ m, m < n → gv τ 88 (10 * (7 * (h + 1) + m)) = setW (cfM σ Ls) G h (entW (cfM σ Ls) rn W r) 0 m + (setW (cfM σ Ls) G h (entW (cfM σ Ls) rn W r) 1 m - setW (cfM σ Ls) G h (entW (cfM σ Ls) rn W r) 9 m)) → (∀ j, j < 70 * h → gv τ 88 j = gv σ 88 j) → Q τ) : wX12_steps (nI h) pm pw σ Q := by
  refine ⟨n + 1, st1_loop hn eN hh hprev h0 hrn hset (fun τ f ha hb => ?_) n 0 σ (by omega) Fm.rf (fun _ q => absurd q (by omega)) (fun _ _ => rfl)⟩
  have fP : Fm xP σ τ := f.mono (fun a j q => by unfold xP at q; simp only [Bool.or_eq_false_iff] at q; exact q.1.1)
  have ecf : cfM τ Ls = cfM σ Ls := cfM_fm f (fun j hj => by rcases hj with rfl | rfl | rfl <;> rfl) (fun a j h1 h2 => by simp; omega)
  have hLτ : LwM τ Ls := hL.fm f rfl (fun a j h1 h2 => by simp; omega)
  have eNτ : gv τ 11 43 = nI n := (f.2 11 43 rfl).trans eN
  refine ⟨n + 1, st2_loop (σ := τ) (e := entW (cfM σ Ls) rn W r) (G := G) hLτ hn eNτ hh (by rw [f.2 11 49 rfl]; exact hF) (fun m hm => by rw [f.2 73 m rfl]; exact hcap m hm) (fun m hm => by rw [f.2 76 m rfl]; exact hmg m hm) (fun i m hi hm => ?_) (fun m hm => by rw [f.2 90 _ rfl]; exact hGs m hm) (fun m hm => by rw [f.2 76 m rfl]; exact hG m hm) (fun m hm => hW m hm) (fun τ2 f2 h2 h93 hj2 => ?_) n 0 τ (by omega) Fm.rf (fun _ _ _ _ q => absurd q (by omega)) (fun _ q => absurd q (by omega)) (fun _ _ => rfl)⟩
  · rcases (show i = 0 ∨ i = 1 ∨ i = 2 by omega) with rfl | rfl | rfl
    · rw [hb _ (fun m' _ => by omega)]
      exact hlev m hm
    · exact (ha m hm).1
    · exact (ha m hm).2
  · rw [ecf] at h2 h93
    have ejj : ∀ j, j < 70 * h → gv τ2 88 j = gv σ 88 j := fun j hj => (hj2 j hj).trans (hb j (fun m' _ => by omega))
    have e1 : nI h + 1 = nI (h + 1) := nI_1 h
    rw [e1]
    refine ⟨fun c => ?_, fun c => ?_⟩
    · have := (nI_leI (a := 240) (by decide) (by omega)).mp c
      exact hQ τ2 (fP.tr f2) h2 (fun q => absurd q (by omega)) ejj
    · have hlt : h + 1 < 240 := Nat.not_le.mp (fun q => c ((nI_leI (a := 240) (by decide) (by omega)).mpr q))
      refine ⟨n + 1, st3_loop (σ := τ2) hn ((f2.2 11 43 rfl).trans eNτ) hlt (fun τ3 f3 hl3 hj3 => ?_) n 0 τ2 (by omega) Fm.rf (fun _ q => absurd q (by omega)) (fun _ _ => rfl)⟩
      refine hQ τ3 ((fP.tr f2).tr f3) (fun i m hi hm => ?_) (fun _ m hm => ?_) (fun j hj => ?_)
      · rw [hj3 _ (by omega)]
        exact h2 i m hi hm
      · rw [hl3 m hm]
        exact h93 m hm
      · rw [hj3 j (by omega)]
        exact ejj j hj
end S1
