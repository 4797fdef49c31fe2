/-! An hour's water in the class. -/
def cfD (σ : St) (Ls : List Ru) : Cf := ((gv σ 2 4).toNatClampNeg, gr σ 12, gr σ 13, gr σ 15, gv σ 2 5, fcW (gv σ 2 6) (gr σ 16), Ls)
def rwD (σ : St) (k : Nat) : Rw := fun i m => gv σ (k + 3 + i) m
def xT (k a j : Nat) : Bool := (decide (k + 6 ≤ a) && decide (a ≤ k + 12)) || xV a j
def FcOk (fm : Int32) : Prop := fm = -1 ∨ ∃ n, 1 ≤ n ∧ n ≤ 20 ∧ fm = nI n
theorem xT_no {k a j : Nat} (hk : 100 ≤ k) (h1 : a < k + 6) (h2 : a ≠ 37) (h3 : a ≠ 38) (h4 : a ≠ 8) : xT k a j = false := by
  unfold xT xV
  have e1 : decide (k + 6 ≤ a) = false := decide_eq_false (by omega)
  simp [e1, h2, h3, h4]
theorem xT_in {k a j : Nat} (h1 : k + 6 ≤ a) (h2 : a ≤ k + 12) : xT k a j = true := by
  unfold xT
  simp [h1, h2]
theorem xV_T {k a j : Nat} (h : xT k a j = false) : xV a j = false := by
  unfold xT at h
  rw [Bool.or_eq_false_iff] at h
  exact h.2
theorem LwD.fm {X : Nat → Nat → Bool} {σ τ : St} {Ls : List Ru} (h : LwD σ Ls) (f : Fm X σ τ) (h8 : X 8 1 = false) (hx : ∀ a j, 27 ≤ a → a ≤ 36 → X a j = false) : LwD τ Ls := by
  unfold LwD at h ⊢
  rw [f.gn, f.2 8 1 h8, f.gr (fun j => hx 27 j (by decide) (by decide)), f.gr (fun j => hx 28 j (by decide) (by decide)), f.gr (fun j => hx 29 j (by decide) (by decide)), f.gr (fun j => hx 30 j (by decide) (by decide)), f.gr (fun j => hx 31 j (by decide) (by decide)), f.gr (fun j => hx 32 j (by decide) (by decide)), f.gr (fun j => hx 34 j (by decide) (by decide)), f.gr (fun j => hx 35 j (by decide) (by decide)), f.gr (fun j => hx 36 j (by decide) (by decide))]
  exact h
theorem env_lk {σ : St} {Ls : List Ru} {k h m n : Nat} (hn : (gv σ 2 4).toNatClampNeg = n) : ∀ j, j < 12 → lkE σ k h m n j = envO (cfD σ Ls) (rwD σ k) h m (gv σ (k + 2) m) j := by
  intro j hj
  rcases (show j = 0 ∨ j = 1 ∨ j = 2 ∨ j = 3 ∨ j = 4 ∨ j = 5 ∨ j = 6 ∨ j = 7 ∨ j = 8 ∨ j = 9 ∨ j = 10 ∨ j = 11 by omega) with rfl | rfl | rfl | rfl | rfl | rfl | rfl | rfl | rfl | rfl | rfl | rfl
  all_goals first | rfl | (subst hn; rfl)
theorem facD {σ : St} {Q : Int32 → St → Prop} {x : Int32} (hF : FcOk (gv σ 2 6)) (hQ : Q (fcW (gv σ 2 6) (gr σ 16) x) σ) : wX3_factorOf x σ Q := by
  unfold fcW at hQ
  refine ⟨fun c => ?_, fun c => ?_⟩
  · rw [if_neg (i32_le.mpr c)] at hQ
    refine ⟨fun c2 => ?_, fun c2 => ⟨?_, ?_⟩⟩
    · rwa [if_pos c2] at hQ
    · rcases hF with hF | ⟨n, h1, h2, e⟩
      · exact absurd hF c2
      · obtain ⟨y, hy, rfl⟩ := nI_of (x := x) (i32_lt.mpr (Int32.le_of_lt c))
        have e10 : nI y / 10 = nI (y / 10) := pk_div (d := 10) hy (by decide) (by decide)
        have e1 : nI n - 1 = nI (n - 1) := pk_sub (b := 1) h1
        rw [e, e10, e1]
        by_cases g : nI (n - 1) < nI (y / 10)
        · rw [jmin, if_pos g]
          exact vp_in_nI (by omega) (by decide)
        · rw [jmin, if_neg g]
          have := Nat.not_lt.mp (fun q => g ((nI_ltI (by omega) (by omega)).mpr q))
          exact vp_in_nI (by omega) (by decide)
    · rwa [if_neg c2] at hQ
  · rwa [if_pos (i32_lt.mp c)] at hQ
section WD
variable {σ : St} {Q : St → Prop} {Ls : List Ru} {k h n : Nat}
theorem set_loop (hL : LwD σ Ls) (hk : Stg k) (hn : n ≤ 7) (eN : gv σ 2 4 = nI n) (eH : gv σ k 2 = nI h) (hh : h < 240) (hF : FcOk (gv σ 2 6)) (hQ : ∀ τ, Fm (xT k) σ τ → (∀ i m, i < 10 → m < n → gv τ (k + 3 + i) m = setW (cfD σ Ls) (gr σ (k + 2)) h (rwD σ k) i m) → Q τ) : ∀ (d m : Nat) (τ : St), m + d = n → Fm (xT k) σ τ → (∀ i m', 3 ≤ i → i < 10 → m' < m → gv τ (k + 3 + i) m' = setW (cfD σ Ls) (gr σ (k + 2)) h (rwD σ k) i m') → wX10_settle_2 k Q (d + 1) (nI m) τ := by
  have hk1 := (stg_ge hk).1
  intro d
  induction d with
  | zero =>
    intro m τ hm f hr
    refine ⟨fun _ => hQ τ f (fun i m' hi hm' => ?_), fun c => ?_⟩
    · by_cases h3 : 3 ≤ i
      · exact hr i m' h3 hi (by omega)
      · rw [f.2 _ _ (xT_no hk1 (by omega) (by omega) (by omega) (by omega))]
        rcases (show i = 0 ∨ i = 1 ∨ i = 2 by omega) with rfl | rfl | rfl <;> rfl
    · rw [f.2 2 4 (xT_no hk1 (by omega) (by decide) (by decide) (by decide)), eN] at c
      exact absurd (nI_le (by omega) (by omega)) c
  | succ d ih =>
    intro m τ hm f hr
    have hmn : m < n := by omega
    have cm : (nI m).toNatClampNeg = m := nI_clamp (by omega)
    have vm : vp_in (nI m) 7 := vp_in_nI (by omega) (by decide)
    have lo : ∀ a b, a < k + 6 → a ≠ 37 → a ≠ 38 → a ≠ 8 → gv τ a b = gv σ a b := fun a b h1 h2 h3 h4 => f.2 a b (xT_no hk1 h1 h2 h3 h4)
    have eNτ : gv τ 2 4 = nI n := by rw [lo 2 4 (by omega) (by decide) (by decide) (by decide)]; exact eN
    have eHτ : gv τ k 2 = nI h := by rw [lo k 2 (by omega) (by omega) (by omega) (by omega)]; exact eH
    have hLτ : LwD τ Ls := hL.fm f (by unfold xT xV; simp; omega) (fun a j h1 h2 => xT_no hk1 (by omega) (by omega) (by omega) (by omega))
    have hclN : (gv σ 2 4).toNatClampNeg = n := by rw [eN]; exact nI_clamp (by omega)
    have hclNτ : (gv τ 2 4).toNatClampNeg = n := by rw [eNτ]; exact nI_clamp (by omega)
    refine ⟨fun c => ?_, fun _ => ⟨vm, ?_⟩⟩
    · rw [eNτ] at c
      exact absurd c (nI_ge hmn (by omega))
    rw [cm, lo (k + 3) m (by omega) (by omega) (by omega) (by omega), lo (k + 4) m (by omega) (by omega) (by omega) (by omega)]
    rintro x3 rfl
    refine ⟨vm, ?_⟩
    rintro x4 rfl
    refine opnD hLτ hk hmn hn eNτ eHτ hh (fun τ1 f1 => ?_)
    have ft1 : Fm (xT k) σ τ1 := f.tr (f1.mono (fun a j q => xV_T q))
    have lo1 : ∀ a b, a < k + 6 → a ≠ 37 → a ≠ 38 → a ≠ 8 → gv τ1 a b = gv σ a b := fun a b h1 h2 h3 h4 => ft1.2 a b (xT_no hk1 h1 h2 h3 h4)
    have eG : opG Ls (gv τ 15 m) m (nI (h / 24)) (lkE τ k h m n) (gv τ (k + 2) m) = gtW (cfD σ Ls) (gr σ (k + 2)) h (rwD σ k) m := by
      rw [lo 15 m (by omega) (by decide) (by decide) (by decide), lo (k + 2) m (by omega) (by omega) (by omega) (by omega)]
      refine opG_congr (fun j hj => ?_) _ _ _ _ hL.2.2.2.1 _
      show lkE τ k h m n j = envO (cfD σ Ls) (rwD σ k) h m (gv σ (k + 2) m) j
      rw [← env_lk (Ls := Ls) hclN j hj]
      unfold lkE
      rcases (show j = 0 ∨ j = 1 ∨ j = 2 ∨ j = 3 ∨ j = 4 ∨ j = 5 ∨ j = 6 ∨ j = 7 ∨ j = 8 ∨ j = 9 ∨ j = 10 ∨ j = 11 by omega) with rfl | rfl | rfl | rfl | rfl | rfl | rfl | rfl | rfl | rfl | rfl | rfl
      all_goals simp only []
      · exact lo (k + 3) m (by omega) (by omega) (by omega) (by omega)
      · exact lo 13 m (by omega) (by decide) (by decide) (by decide)
      · exact lo 12 m (by omega) (by decide) (by decide) (by decide)
      · rw [lo (k + 3) (m + 1) (by omega) (by omega) (by omega) (by omega)]
      · rw [lo (k + 3) (m - 1) (by omega) (by omega) (by omega) (by omega)]
      · exact lo (k + 4) m (by omega) (by omega) (by omega) (by omega)
      · exact lo (k + 5) m (by omega) (by omega) (by omega) (by omega)
      · exact lo (k + 2) m (by omega) (by omega) (by omega) (by omega)
    rw [eG]
    -- the pond below
    have hdr : ∀ P : Int32 → St → Prop, P (if m + 1 < n then jmax (rwD σ k 0 (m + 1) - gr σ 13 (m + 1)) 0 else 0) τ1 → wX10_drowned k (nI m) τ1 P := by
      intro P hP x3 e3
      rw [nI_1] at e3
      rw [e3, lo1 2 4 (by omega) (by decide) (by decide) (by decide), eN]
      refine ⟨fun c => ?_, fun c => ?_⟩
      · have := (nI_leI (by omega) (by omega)).mp c
        rwa [if_neg (by omega)] at hP
      · have hq : m + 1 < n := Nat.not_le.mp (fun q => c ((nI_leI (by omega) (by omega)).mpr q))
        rw [if_pos hq] at hP
        refine ⟨vp_in_nI (by omega) (by decide), vp_in_nI (by omega) (by decide), ?_⟩
        rw [nI_clamp (by omega), lo1 (k + 3) (m + 1) (by omega) (by omega) (by omega) (by omega), lo1 13 (m + 1) (by omega) (by decide) (by decide) (by decide)]
        exact hP
    refine hdr _ ?_
    rintro x6 rfl
    refine ⟨vm, ?_⟩
    rw [lo1 (k + 5) m (by omega) (by omega) (by omega) (by omega)]
    rintro x7 rfl x8 rfl
    refine ⟨vm, ?_⟩
    rw [lo1 12 m (by omega) (by decide) (by decide) (by decide)]
    have eHd : gv σ (k + 3) m - (if m + 1 < n then jmax (rwD σ k 0 (m + 1) - gr σ 13 (m + 1)) 0 else 0) = hdW (cfD σ Ls) (rwD σ k) m := by
      unfold hdW cfD
      rw [hclN]
      rfl
    have eUs : jmin (2 * gv σ (k + 5) m) (gv σ (k + 3) m + gv σ (k + 4) m) = usW (rwD σ k) m := rfl
    rw [eHd, eUs]
    have eTh : jmin (3 * gtW (cfD σ Ls) (gr σ (k + 2)) h (rwD σ k) m) (gv σ (k + 3) m + gv σ (k + 4) m - usW (rwD σ k) m) = thW (cfD σ Ls) (gr σ (k + 2)) h (rwD σ k) m := by unfold thW; rfl
    rw [eTh]
    have eSp : jmax (gv σ (k + 3) m + gv σ (k + 4) m - usW (rwD σ k) m - thW (cfD σ Ls) (gr σ (k + 2)) h (rwD σ k) m - gv σ 12 m) 0 = spW (cfD σ Ls) (gr σ (k + 2)) h (rwD σ k) m := by unfold spW; rfl
    rw [eSp]
    rintro x9 rfl
    generalize eg : gtW (cfD σ Ls) (gr σ (k + 2)) h (rwD σ k) m = Gt
    generalize eh : hdW (cfD σ Ls) (rwD σ k) m = Hd
    generalize eu : usW (rwD σ k) m = Us
    generalize et : thW (cfD σ Ls) (gr σ (k + 2)) h (rwD σ k) m = Th
    generalize es : spW (cfD σ Ls) (gr σ (k + 2)) h (rwD σ k) m = Sp
    refine ⟨vm, ?_⟩
    rintro σ17 rfl
    refine ⟨vm, ?_⟩
    rintro σ19 rfl
    refine ⟨vm, ?_⟩
    rintro σ21 rfl
    obtain ⟨τ2, e2⟩ : ∃ τ2, τ2 = pv (pv (pv τ1 (k + 6) m Gt) (k + 7) m Hd) (k + 8) m Us := ⟨_, rfl⟩
    have ft2 : Fm (xT k) σ τ2 := by
      rw [e2]
      exact ((ft1.tr (Fm_pv (xT_in (by omega) (by omega)))).tr (Fm_pv (xT_in (by omega) (by omega)))).tr (Fm_pv (xT_in (by omega) (by omega)))
    rw [← e2]
    have c26 : gv τ2 2 6 = gv σ 2 6 := ft2.2 2 6 (xT_no hk1 (by omega) (by decide) (by decide) (by decide))
    have g16 : gr τ2 16 = gr σ 16 := ft2.gr (fun j => xT_no hk1 (by omega) (by decide) (by decide) (by decide))
    refine facD (by rw [c26]; exact hF) ⟨vm, ?_⟩
    rw [c26, g16]
    generalize ef : fcW (gv σ 2 6) (gr σ 16) Hd = Fc
    rintro σ25 rfl
    refine ⟨vm, ?_⟩
    rintro σ27 rfl
    refine ⟨vm, ?_⟩
    rintro σ29 rfl
    refine ⟨vm, ?_⟩
    rintro σ31 rfl x2 e5
    rw [e5, nI_1]
    obtain ⟨τ3, e3⟩ : ∃ τ3, τ3 = pv (pv (pv (pv τ2 (k + 9) m (Us * Fc)) (k + 10) m Th) (k + 11) m Sp) (k + 12) m (Us + Th + Sp) := ⟨_, rfl⟩
    have ft3 : Fm (xT k) σ τ3 := by
      rw [e3]
      exact (((ft2.tr (Fm_pv (xT_in (by omega) (by omega)))).tr (Fm_pv (xT_in (by omega) (by omega)))).tr (Fm_pv (xT_in (by omega) (by omega)))).tr (Fm_pv (xT_in (by omega) (by omega)))
    rw [← e3]
    refine ih (m + 1) τ3 (by omega) ft3 (fun i m' h3 h10 hm' => ?_)
    by_cases hmm : m' = m
    · subst hmm
      rcases (show i = 3 ∨ i = 4 ∨ i = 5 ∨ i = 6 ∨ i = 7 ∨ i = 8 ∨ i = 9 by omega) with rfl | rfl | rfl | rfl | rfl | rfl | rfl
      · rw [e3, e2]; simp only [gv_pv, setW, eg, if_true]; simp
      · rw [e3, e2]; simp only [gv_pv, setW, eh, if_true]; simp
      · rw [e3, e2]; simp only [gv_pv, setW, eu, if_true]; simp
      · rw [e3, e2]; simp only [gv_pv, setW, eu, eh, if_true]; simp [← ef, cfD]
      · rw [e3, e2]; simp only [gv_pv, setW, et, if_true]; simp
      · rw [e3, e2]; simp only [gv_pv, setW, es, if_true]; simp
      · rw [e3, e2]; simp only [gv_pv, setW, es, et, eu, if_true]; simp
    · have e4 : gv τ3 (k + 3 + i) m' = gv τ1 (k + 3 + i) m' := by
        rw [e3, e2]
        simp only [gv_pv, hmm, and_false, if_false]
      have hx : xV (k + 3 + i) m' = false := by
        unfold xV
        have a1 : k + 3 + i ≠ 37 := by omega
        have a2 : k + 3 + i ≠ 38 := by omega
        have a3 : k + 3 + i ≠ 8 := by omega
        simp [a1, a2, a3]
      rw [e4, f1.2 _ _ hx]
      exact hr i m' h3 h10 (by omega)
theorem setD (hL : LwD σ Ls) (hk : Stg k) (hn : n ≤ 7) (eN : gv σ 2 4 = nI n) (eH : gv σ k 2 = nI h) (hh : h < 240) (hF : FcOk (gv σ 2 6)) (hQ : ∀ τ, Fm (xT k) σ τ → (∀ i m, i < 10 → m < n → gv τ (k + 3 + i) m = setW (cfD σ Ls) (gr σ (k + 2)) h (rwD σ k) i m) → Q τ) : wX10_settle k σ Q :=
  ⟨n + 1, set_loop hL hk hn eN eH hh hF hQ n 0 σ (by omega) Fm.rf (fun i m' _ _ q => absurd q (by omega))⟩
end WD
