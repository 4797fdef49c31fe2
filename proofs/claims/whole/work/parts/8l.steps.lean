/-! A mill's hour in the reference. -/
section SM
variable {τ : St} {Q : St → Prop} {K : Int32 → Int32 → St → Prop} {Ls : List Ru} {h m n : Nat}
theorem opnM_loop (hL : LwM τ Ls) (hm : m < 7) (hh : h < 240) {og x5 mg RES : Int32} {v : Nat → Int32} (hv : VrM τ (nI m) (nI h) og v) (hmg : gv τ 76 m = mg) (hK : ∀ f, wX12_steps_267 Q K (nI h) (nI m) x5 RES (pa τ 92 f)) : ∀ (l : List Ru) (i : Nat) (x : Int32) (f : Nat → Int32), i + l.length = Ls.length → (∀ j, l[j]? = Ls[i + j]?) → opG l mg m (nI (h / 24)) v (clI x mg) = RES → wX12_steps_168 Q K (l.length + 1) (nI h) (nI m) x5 og x (nI i) (pa τ 92 f) := by
  have h30 := hL.2.1
  have cm : (nI m).toNatClampNeg = m := nI_clamp (by omega)
  have vm : vp_in (nI m) 7 := vp_in_nI hm (by decide)
  have rd : ∀ f a b, a ≠ 92 → gv (pa τ 92 f) a b = gv τ a b := fun f a b ha => by rw [gv_pa, if_neg ha]
  intro l
  induction l with
  | nil =>
    intro i x f hi _ hR
    simp only [List.length_nil, Nat.add_zero] at hi
    rw [opG_nil] at hR
    rw [List.length_nil, wX12_steps_168, rd f 11 23 (by decide), hL.1, cm, rd f 76 m (by decide), hmg, hi]
    refine ⟨fun _ => ⟨vm, fun c => ?_, fun c => ⟨vm, ?_⟩⟩, fun c => absurd (Int32.le_refl _) c⟩
    · rw [clI, if_pos c] at hR
      rw [hR]
      exact hK f
    · rintro x7 rfl
      rw [clI, if_neg c] at hR
      rw [hR]
      exact hK f
  | cons r l ih =>
    intro i x f hi hl hR
    simp only [List.length_cons] at hi ⊢
    have hr : Ls[i]? = some r := (hl 0).symm
    have ci : (nI i).toNatClampNeg = i := nI_clamp (by omega)
    have vi : vp_in (nI i) 31 := vp_in_nI (by omega) (by decide)
    have hl' : ∀ j, l[j]? = Ls[i + 1 + j]? := fun j => by
      have := hl (j + 1)
      rw [show i + 1 + j = i + (j + 1) by omega, ← this]
      rfl
    have nxt : ∀ (x' : Int32) (f' : Nat → Int32), opG l mg m (nI (h / 24)) v (clI x' mg) = RES → wX12_steps_240 Q K (fun x1' x4' x5' x6' x7' x8' σ' => wX12_steps_168 Q K (l.length + 1) x1' x4' x5' x6' x7' x8' σ') (nI h) (nI m) x5 og x' (nI i) (pa τ 92 f') := by
      intro x' f' hx x8 e8
      rw [e8, nI_1]
      exact ih (i + 1) x' f' (by omega) hl' hx
    rw [opG_cons] at hR
    rw [wX12_steps_168, rd f 11 23 (by decide), hL.1, ci, opn01M (hL.keep (f := f)) hr]
    refine ⟨fun c => absurd c (nI_ge (by omega) (by omega)), fun _ => ⟨vi, ?_⟩⟩
    cases ho : r.1 with
    | false =>
      rw [opS_no (by rw [ho, Bool.false_and])] at hR
      exact ⟨fun _ => nxt _ _ hR, fun c => absurd rfl c⟩
    | true =>
      refine ⟨fun c => absurd c z10, fun _ => cntM (hL.keep (f := f)) hr hm hh hv.keep (fun f2 => ?_)⟩
      rw [pa_pa]
      cases hF : ruF r m (nI (h / 24)) v with
      | false =>
        rw [opS_no (by rw [hF, Bool.and_false])] at hR
        exact ⟨fun _ => nxt _ _ hR, fun c => absurd rfl c⟩
      | true =>
        rw [opS_yes (by rw [hF, ho, Bool.true_and]), clI_step] at hR
        refine ⟨fun c => absurd c z10, fun _ => ⟨vi, vi, opvM hL hr ho hv f2 (fun f3 => ⟨fun c => ?_, fun c => ?_⟩)⟩⟩
        · rw [if_pos c] at hR
          exact nxt _ _ hR
        · rw [if_neg c] at hR
          exact nxt _ _ hR
/-- from the gate to the mill's end -/
theorem milM {e : Rw} (hm : m < n) (hn : n ≤ 7) (hh : h < 240) (eN : gv τ 11 43 = nI n) (hF : FcOk (gv τ 11 49)) (hc : ∃ c, c ≤ 1000 ∧ gv τ 73 m = nI c) (hr : ∀ i m', i < 3 → m' < n → gv τ 88 (10 * (7 * h + m') + i) = e i m') {Gt : Int32} (hG : ∃ g, g ≤ 9 ∧ Gt = nI g) (hW : ∃ w, w ≤ 4 ∧ e 2 m = nI w)
    (hK : ∀ υ, Fm (fun a _ => a == 88 || a == 93) τ υ → (∀ j, (∀ i, 3 ≤ i → i < 10 → j ≠ 10 * (7 * h + m) + i) → gv υ 88 j = gv τ 88 j) → (∀ j, j ≠ m → gv υ 93 j = gv τ 93 j) →
      gv υ 88 (10 * (7 * h + m) + 3) = Gt → gv υ 88 (10 * (7 * h + m) + 4) = hdW (cfM τ Ls) e m → gv υ 88 (10 * (7 * h + m) + 5) = usW e m → gv υ 88 (10 * (7 * h + m) + 6) = usW e m * fcW (gv τ 11 49) (gr τ 77) (hdW (cfM τ Ls) e m) → gv υ 88 (10 * (7 * h + m) + 7) = jmin (3 * Gt) (e 0 m + e 1 m - usW e m) → gv υ 88 (10 * (7 * h + m) + 8) = jmax (e 0 m + e 1 m - usW e m - jmin (3 * Gt) (e 0 m + e 1 m - usW e m) - gv τ 73 m) 0 →
      gv υ 88 (10 * (7 * h + m) + 9) = usW e m + jmin (3 * Gt) (e 0 m + e 1 m - usW e m) + jmax (e 0 m + e 1 m - usW e m - jmin (3 * Gt) (e 0 m + e 1 m - usW e m) - gv τ 73 m) 0 → gv υ 93 m = e 0 m + e 1 m - usW e m - jmin (3 * Gt) (e 0 m + e 1 m - usW e m) - jmax (e 0 m + e 1 m - usW e m - jmin (3 * Gt) (e 0 m + e 1 m - usW e m) - gv τ 73 m) 0 → K (nI h) (nI (m + 1)) υ) :
    wX12_steps_267 Q K (nI h) (nI m) (nI (10 * (7 * h + m))) Gt τ := by
  have cm : (nI m).toNatClampNeg = m := nI_clamp (by omega)
  have vm : vp_in (nI m) 7 := vp_in_nI (by omega) (by decide)
  have hcl : (gv τ 11 43).toNatClampNeg = n := by rw [eN]; exact nI_clamp (by omega)
  have cx : (nI (10 * (7 * h + m))).toNatClampNeg = 10 * (7 * h + m) := nI_clamp (by omega)
  have vx : ∀ j, j < 10 → vp_in (nI (10 * (7 * h + m) + j)) 16800 := fun j hj => vp_in_nI (by omega) (by decide)
  have nx : ∀ (j : Nat) (y : Int32), y = nI j → nI (10 * (7 * h + m)) + y = nI (10 * (7 * h + m) + j) := fun j y hy => by rw [hy, nI_add]
  have r0 : gv τ 88 (10 * (7 * h + m)) = e 0 m := hr 0 m (by decide) hm
  obtain ⟨cc, hcc, ecc⟩ := hc
  obtain ⟨gg, hgg, egg⟩ := hG
  obtain ⟨ww, hww, eww⟩ := hW
  -- the last piece
  have l438 : ∀ (Hd Us Th Sp Lf : Int32), Hd = hdW (cfM τ Ls) e m → Us = usW e m → Th = jmin (3 * Gt) (e 0 m + e 1 m - usW e m) → Sp = jmax (e 0 m + e 1 m - usW e m - jmin (3 * Gt) (e 0 m + e 1 m - usW e m) - gv τ 73 m) 0 → Lf = e 0 m + e 1 m - usW e m - jmin (3 * Gt) (e 0 m + e 1 m - usW e m) → wX12_steps_438 Q K (nI h) (nI m) (nI (10 * (7 * h + m))) Gt Hd Lf Us Th Sp τ := by
    intro Hd Us Th Sp Lf h1 h2 h3 h4 h5
    rw [← h3] at h4 h5 hK
    rw [← h2] at h4 h5 hK
    rw [← h5] at h4 hK
    rw [← h4, ← h1] at hK
    clear h1 h2 h3 h4 h5
    rintro x10 rfl
    rw [nx 3 3 rfl, nx 4 4 rfl, nx 5 5 rfl, nx 6 6 rfl, nx 7 7 rfl, nx 8 8 rfl, nx 9 9 rfl]
    refine ⟨vx 3 (by decide), ?_⟩
    rintro σ3 rfl
    refine ⟨vx 4 (by decide), ?_⟩
    rintro σ5 rfl
    refine ⟨vx 5 (by decide), ?_⟩
    rintro σ7 rfl
    simp only [nI_clamp (show 10 * (7 * h + m) + 3 < 2 ^ 31 by omega), nI_clamp (show 10 * (7 * h + m) + 4 < 2 ^ 31 by omega), nI_clamp (show 10 * (7 * h + m) + 5 < 2 ^ 31 by omega), nI_clamp (show 10 * (7 * h + m) + 6 < 2 ^ 31 by omega), nI_clamp (show 10 * (7 * h + m) + 7 < 2 ^ 31 by omega), nI_clamp (show 10 * (7 * h + m) + 8 < 2 ^ 31 by omega), nI_clamp (show 10 * (7 * h + m) + 9 < 2 ^ 31 by omega), cm]
    obtain ⟨τ2, e2⟩ : ∃ τ2, τ2 = pv (pv (pv τ 88 (10 * (7 * h + m) + 3) Gt) 88 (10 * (7 * h + m) + 4) Hd) 88 (10 * (7 * h + m) + 5) Us := ⟨_, rfl⟩
    rw [← e2]
    have f2 : Fm (fun a _ => a == 88 || a == 93) τ τ2 := by
      rw [e2]
      exact ((Fm_pv rfl).tr (Fm_pv rfl)).tr (Fm_pv rfl)
    have g49 : gv τ2 11 49 = gv τ 11 49 := f2.2 11 49 rfl
    have g77 : gr τ2 77 = gr τ 77 := f2.gr (fun _ => rfl)
    refine facM (by rw [g49]; exact hF) ⟨vx 6 (by decide), ?_⟩
    rw [g49, g77]
    rintro σ11 rfl
    refine ⟨vx 7 (by decide), ?_⟩
    rintro σ13 rfl
    refine ⟨vx 8 (by decide), ?_⟩
    rintro σ15 rfl
    refine ⟨vx 9 (by decide), ?_⟩
    rintro σ17 rfl
    refine ⟨vm, ?_⟩
    rintro σ19 rfl x4 rfl
    rw [nI_1]
    refine hK _ ((((((f2.tr (Fm_pv rfl)).tr (Fm_pv rfl)).tr (Fm_pv rfl)).tr (Fm_pv rfl)).tr (Fm_pv rfl))) (fun j hj => ?_) (fun j hj => ?_) ?_ ?_ ?_ ?_ ?_ ?_ ?_ ?_
    · rw [e2]
      simp only [gv_pv, Nat.reduceEqDiff, false_and, if_false, true_and, hj 3 (by decide) (by decide), hj 4 (by decide) (by decide), hj 5 (by decide) (by decide), hj 6 (by decide) (by decide), hj 7 (by decide) (by decide), hj 8 (by decide) (by decide), hj 9 (by decide) (by decide)]
    · rw [e2]
      simp only [gv_pv, Nat.reduceEqDiff, false_and, if_false, hj, and_false]
    all_goals (rw [e2]; simp [gv_pv])
  have l403 : ∀ (Hd Us Th L1 : Int32), Hd = hdW (cfM τ Ls) e m → Us = usW e m → Th = jmin (3 * Gt) (e 0 m + e 1 m - usW e m) → L1 = e 0 m + e 1 m - usW e m → wX12_steps_403 Q K (nI h) (nI m) (nI (10 * (7 * h + m))) Gt Hd L1 Us Th τ := by
    intro Hd Us Th L1 h1 h2 h3 h4
    rintro x10 rfl
    rw [cm]
    have hus : (0 : Int32) ≤ 2 * e 2 m := by
      rw [eww, show (2 : Int32) = nI 2 from rfl, pk_mul]
      exact nI_nn (by omega)
    have hth : (0 : Int32) ≤ 3 * Gt := by
      rw [egg, show (3 : Int32) = nI 3 from rfl, pk_mul]
      exact nI_nn (by omega)
    have hl1 : (0 : Int32) ≤ L1 - Th := by
      rw [h3, ← h4]
      exact left_pos hth
    have hsp := spill_eq hl1 hcc
    rw [← ecc] at hsp
    have e5 : L1 - Th = e 0 m + e 1 m - usW e m - jmin (3 * Gt) (e 0 m + e 1 m - usW e m) := by rw [h4, h3]
    refine ⟨vm, fun c => l438 _ _ _ _ _ h1 h2 h3 ?_ e5, fun c => ⟨vm, l438 _ _ _ _ _ h1 h2 h3 ?_ e5⟩⟩
    · rw [← e5, hsp, if_pos c]
    · rw [← e5, hsp, if_neg c]
  have l376 : ∀ (Hd Us : Int32), Hd = hdW (cfM τ Ls) e m → Us = usW e m → wX12_steps_376 Q K (nI h) (nI m) (nI (10 * (7 * h + m))) Gt Hd (e 0 m + e 1 m) Us τ := by
    intro Hd Us h1 h2
    rintro x10 rfl
    rw [h2]
    refine ⟨fun c => l403 _ _ _ _ h1 rfl ?_ rfl, fun c => l403 _ _ _ _ h1 rfl ?_ rfl⟩
    · rw [← min_le, if_pos c]
    · rw [← min_le, if_neg c]
  have l322 : ∀ (x y : Int32), x - y = hdW (cfM τ Ls) e m → wX12_steps_322 Q K (nI h) (nI m) (nI (10 * (7 * h + m))) Gt x y τ := by
    intro x y hxy x9 e9
    rw [hxy] at e9
    rw [e9, nx 1 1 rfl, nx 2 2 rfl, cx, nI_clamp (by omega), nI_clamp (by omega), r0, hr 1 m (by decide) hm, hr 2 m (by decide) hm]
    refine ⟨vx 0 (by decide), vx 1 (by decide), ?_⟩
    rintro x10 rfl
    refine ⟨vx 2 (by decide), fun c => l376 _ _ rfl ?_, fun c => ⟨vx 2 (by decide), l376 _ _ rfl ?_⟩⟩
    · rw [usW, ← min_le, if_pos c]
    · rw [usW, ← min_le, if_neg c]
  have l302 : ∀ a : Int32, e 0 m - jmax a 0 = hdW (cfM τ Ls) e m → wX12_steps_302 Q K (nI h) (nI m) (nI (10 * (7 * h + m))) Gt a τ := by
    intro a ha
    unfold wX12_steps_302
    rw [cx, r0]
    refine ⟨vx 0 (by decide), fun c => l322 _ _ ?_, fun c => l322 _ _ ?_⟩
    · rw [← ha, ← max_le, if_pos c]
    · rw [← ha, ← max_le, if_neg c]
  unfold wX12_steps_267
  rw [eN, nI_1]
  have hd : hdW (cfM τ Ls) e m = e 0 m - (if m + 1 < n then jmax (e 0 (m + 1) - gv τ 74 (m + 1)) 0 else 0) := by
    unfold hdW cfM
    rw [hcl]
    rfl
  refine ⟨fun c => l302 _ ?_, fun c => ?_⟩
  · have := (nI_leI (by omega) (by omega)).mp c
    rw [hd, if_neg (by omega)]
    rfl
  · have q : m + 1 < n := Nat.not_le.mp (fun q => c ((nI_leI (by omega) (by omega)).mpr q))
    have ex := hr 0 (m + 1) (by decide) q
    rw [show 10 * (7 * h + (m + 1)) + 0 = 10 * (7 * h + m) + 10 by omega] at ex
    rw [nx 10 10 rfl, nI_clamp (by omega), nI_clamp (by omega), ex]
    refine ⟨vp_in_nI (by omega) (by decide), vp_in_nI (by omega) (by decide), l302 _ ?_⟩
    rw [hd, if_pos q]
end SM
