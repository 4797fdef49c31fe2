/-! What a rule sees of a mill, in the reference. -/
def cfM (σ : St) (Ls : List Ru) : Cf := ((gv σ 11 43).toNatClampNeg, gr σ 73, gr σ 74, gr σ 76, gv σ 11 48, fcW (gv σ 11 49) (gr σ 77), Ls)
theorem ixN {h m : Nat} : (10 : Int32) * ((7 : Int32) * nI h + nI m) = nI (10 * (7 * h + m)) := by
  rw [show (10 : Int32) = nI 10 from rfl, show (7 : Int32) = nI 7 from rfl, pk_mul, nI_add, pk_mul]
section VA
variable {σ : St} {Ls : List Ru} {h m n : Nat} {r : Rw}
theorem varM_O (eN : gv σ 11 43 = nI n) (hm : m < n) (hn : n ≤ 7) (hh : h < 240) (hr : ∀ i m', i < 3 → m' < n → gv σ 88 (10 * (7 * h + m') + i) = r i m') {og : Int32} (hog : og ≠ -1) : VrM σ (nI m) (nI h) og (envO (cfM σ Ls) r h m og) := by
  intro k f Q' hk hq x5 e5
  rw [ixN] at e5
  subst e5
  have vm : vp_in (nI m) 7 := vp_in_nI (by omega) (by decide)
  have cm : (nI m).toNatClampNeg = m := nI_clamp (by omega)
  have hcl : (gv σ 11 43).toNatClampNeg = n := by rw [eN]; exact nI_clamp (by omega)
  have rd : ∀ a b, a ≠ 92 → gv (pa σ 92 f) a b = gv σ a b := fun a b ha => by rw [gv_pa, if_neg ha]
  have e24 : nI h / 24 = nI (h / 24) := pk_div (d := 24) (by omega) (by decide) (by decide)
  have em24 : nI h - nI (h / 24) * 24 = nI (h % 24) := by
    rw [← e24]
    exact pk_rem (d := 24) (by omega) (by decide) (by decide)
  have vix : ∀ j, j < 100 → 10 * (7 * h + m) + j < 16800 → vp_in (nI (10 * (7 * h + m) + j)) 16800 := fun j _ q => vp_in_nI q (by decide)
  have nx : ∀ (j : Nat) (y : Int32), y = nI j → nI (10 * (7 * h + m)) + y = nI (10 * (7 * h + m) + j) := fun j y hy => by rw [hy, nI_add]
  rcases (show k = 0 ∨ k = 1 ∨ k = 2 ∨ k = 3 ∨ k = 4 ∨ k = 5 ∨ k = 6 ∨ k = 7 ∨ k = 8 ∨ k = 9 ∨ k = 10 ∨ k = 11 by omega) with rfl | rfl | rfl | rfl | rfl | rfl | rfl | rfl | rfl | rfl | rfl | rfl
  · refine ⟨fun _ => ?_, fun c => absurd (by decide) c⟩
    rw [nI_clamp (by omega), rd 88 _ (by decide), show gv σ 88 (10 * (7 * h + m)) = r 0 m from hr 0 m (by decide) hm]
    exact ⟨vix 0 (by decide) (by omega), hq⟩
  · refine ⟨fun c => absurd c (by decide), fun _ => ⟨fun _ => ?_, fun c => absurd (by decide) c⟩⟩
    rw [cm, rd 74 _ (by decide)]
    exact ⟨vm, hq⟩
  · refine ⟨fun c => absurd c (by decide), fun _ => ⟨fun c => absurd c (by decide), fun _ => ⟨fun _ => ?_, fun c => absurd (by decide) c⟩⟩⟩
    rw [cm, rd 73 _ (by decide)]
    exact ⟨vm, hq⟩
  · refine ⟨fun c => absurd c (by decide), fun _ => ⟨fun c => absurd c (by decide), fun _ => ⟨fun c => absurd c (by decide), fun _ => ⟨fun _ => ?_, fun c => absurd (by decide) c⟩⟩⟩⟩
    rw [rd 11 43 (by decide), eN, nI_1]
    have hq : Q' (if m + 1 < n then r 0 (m + 1) else 0) (pa σ 92 f) := by rw [← hcl]; exact hq
    refine ⟨fun c => ?_, fun c => ?_⟩
    · have := (nI_leI (by omega) (by omega)).mp c
      rwa [if_neg (by omega)] at hq
    · have q : m + 1 < n := Nat.not_le.mp (fun q => c ((nI_leI (by omega) (by omega)).mpr q))
      rw [if_pos q] at hq
      rw [nx 10 10 rfl, nI_clamp (by omega), rd 88 _ (by decide)]
      refine ⟨vix 10 (by decide) (by omega), ?_⟩
      have e := hr 0 (m + 1) (by decide) q
      rw [show 10 * (7 * h + (m + 1)) + 0 = 10 * (7 * h + m) + 10 by omega] at e
      rw [e]
      exact hq
  · refine ⟨fun c => absurd c (by decide), fun _ => ⟨fun c => absurd c (by decide), fun _ => ⟨fun c => absurd c (by decide), fun _ => ⟨fun c => absurd c (by decide), fun _ => ⟨fun _ => ?_, fun c => absurd (by decide) c⟩⟩⟩⟩⟩
    have hq : Q' (if 0 < m then r 0 (m - 1) else 0) (pa σ 92 f) := hq
    refine ⟨fun c => ?_, fun c => ?_⟩
    · have := (nI_leI (a := m) (b := 0) (by omega) (by decide)).mp c
      rwa [if_neg (by omega)] at hq
    · have q : 0 < m := Nat.pos_of_ne_zero (fun q => c (by rw [q]; decide))
      rw [if_pos q] at hq
      have e1 : nI (10 * (7 * h + m)) - 10 = nI (10 * (7 * h + m) - 10) := pk_sub (b := 10) (by omega)
      rw [e1, nI_clamp (by omega), rd 88 _ (by decide)]
      refine ⟨vp_in_nI (by omega) (by decide), ?_⟩
      have e := hr 0 (m - 1) (by decide) (by omega)
      rw [show 10 * (7 * h + (m - 1)) + 0 = 10 * (7 * h + m) - 10 by omega] at e
      rw [e]
      exact hq
  · refine ⟨fun c => absurd c (by decide), fun _ => ⟨fun c => absurd c (by decide), fun _ => ⟨fun c => absurd c (by decide), fun _ => ⟨fun c => absurd c (by decide), fun _ => ⟨fun c => absurd c (by decide), fun _ => ⟨fun _ => ?_, fun c => absurd (by decide) c⟩⟩⟩⟩⟩⟩
    rw [nx 1 1 rfl, nI_clamp (by omega), rd 88 _ (by decide), hr 1 m (by decide) hm]
    exact ⟨vix 1 (by decide) (by omega), hq⟩
  · refine ⟨fun c => absurd c (by decide), fun _ => ⟨fun c => absurd c (by decide), fun _ => ⟨fun c => absurd c (by decide), fun _ => ⟨fun c => absurd c (by decide), fun _ => ⟨fun c => absurd c (by decide), fun _ => ⟨fun c => absurd c (by decide), fun _ => ⟨fun _ => ?_, fun c => absurd (by decide) c⟩⟩⟩⟩⟩⟩⟩
    rw [nx 2 2 rfl, nI_clamp (by omega), rd 88 _ (by decide), hr 2 m (by decide) hm]
    exact ⟨vix 2 (by decide) (by omega), hq⟩
  · refine ⟨fun c => absurd c (by decide), fun _ => ⟨fun c => absurd c (by decide), fun _ => ⟨fun c => absurd c (by decide), fun _ => ⟨fun c => absurd c (by decide), fun _ => ⟨fun c => absurd c (by decide), fun _ => ⟨fun c => absurd c (by decide), fun _ => ⟨fun c => absurd c (by decide), fun _ => ⟨fun _ => ⟨fun c => absurd c hog, fun _ => hq⟩, fun c => absurd (by decide) c⟩⟩⟩⟩⟩⟩⟩⟩
  · refine ⟨fun c => absurd c (by decide), fun _ => ⟨fun c => absurd c (by decide), fun _ => ⟨fun c => absurd c (by decide), fun _ => ⟨fun c => absurd c (by decide), fun _ => ⟨fun c => absurd c (by decide), fun _ => ⟨fun c => absurd c (by decide), fun _ => ⟨fun c => absurd c (by decide), fun _ => ⟨fun c => absurd c (by decide), fun _ => ⟨fun _ => ?_, fun c => absurd (by decide) c⟩⟩⟩⟩⟩⟩⟩⟩⟩
    rw [e24, em24]
    exact hq
  · refine ⟨fun c => absurd c (by decide), fun _ => ⟨fun c => absurd c (by decide), fun _ => ⟨fun c => absurd c (by decide), fun _ => ⟨fun c => absurd c (by decide), fun _ => ⟨fun c => absurd c (by decide), fun _ => ⟨fun c => absurd c (by decide), fun _ => ⟨fun c => absurd c (by decide), fun _ => ⟨fun c => absurd c (by decide), fun _ => ⟨fun c => absurd c (by decide), fun _ => ⟨fun _ => ?_, fun c => absurd (by decide) c⟩⟩⟩⟩⟩⟩⟩⟩⟩⟩
    rw [e24]
    exact hq
  · refine ⟨fun c => absurd c (by decide), fun _ => ⟨fun c => absurd c (by decide), fun _ => ⟨fun c => absurd c (by decide), fun _ => ⟨fun c => absurd c (by decide), fun _ => ⟨fun c => absurd c (by decide), fun _ => ⟨fun c => absurd c (by decide), fun _ => ⟨fun c => absurd c (by decide), fun _ => ⟨fun c => absurd c (by decide), fun _ => ⟨fun c => absurd c (by decide), fun _ => ⟨fun c => absurd c (by decide), fun _ => ⟨fun _ => ⟨fun c => absurd c hog, fun _ => hq⟩, fun c => absurd (by decide) c⟩⟩⟩⟩⟩⟩⟩⟩⟩⟩⟩
  · refine ⟨fun c => absurd c (by decide), fun _ => ⟨fun c => absurd c (by decide), fun _ => ⟨fun c => absurd c (by decide), fun _ => ⟨fun c => absurd c (by decide), fun _ => ⟨fun c => absurd c (by decide), fun _ => ⟨fun c => absurd c (by decide), fun _ => ⟨fun c => absurd c (by decide), fun _ => ⟨fun c => absurd c (by decide), fun _ => ⟨fun c => absurd c (by decide), fun _ => ⟨fun c => absurd c (by decide), fun _ => ⟨fun c => absurd c (by decide), fun _ => ⟨fun c => absurd c hog, fun _ => hq⟩⟩⟩⟩⟩⟩⟩⟩⟩⟩⟩⟩
theorem varM_B (eN : gv σ 11 43 = nI n) (hm : m < n) (hn : n ≤ 7) (hh : h < 240) (hr : ∀ i m', i < 10 → m' < n → gv σ 88 (10 * (7 * h + m') + i) = r i m') : VrM σ (nI m) (nI h) (-1) (envB (cfM σ Ls) r h m) := by
  intro k f Q' hk hq x5 e5
  rw [ixN] at e5
  subst e5
  have vm : vp_in (nI m) 7 := vp_in_nI (by omega) (by decide)
  have cm : (nI m).toNatClampNeg = m := nI_clamp (by omega)
  have hcl : (gv σ 11 43).toNatClampNeg = n := by rw [eN]; exact nI_clamp (by omega)
  have rd : ∀ a b, a ≠ 92 → gv (pa σ 92 f) a b = gv σ a b := fun a b ha => by rw [gv_pa, if_neg ha]
  have e24 : nI h / 24 = nI (h / 24) := pk_div (d := 24) (by omega) (by decide) (by decide)
  have em24 : nI h - nI (h / 24) * 24 = nI (h % 24) := by
    rw [← e24]
    exact pk_rem (d := 24) (by omega) (by decide) (by decide)
  have vix : ∀ j, j < 100 → 10 * (7 * h + m) + j < 16800 → vp_in (nI (10 * (7 * h + m) + j)) 16800 := fun j _ q => vp_in_nI q (by decide)
  have nx : ∀ (j : Nat) (y : Int32), y = nI j → nI (10 * (7 * h + m)) + y = nI (10 * (7 * h + m) + j) := fun j y hy => by rw [hy, nI_add]
  rcases (show k = 0 ∨ k = 1 ∨ k = 2 ∨ k = 3 ∨ k = 4 ∨ k = 5 ∨ k = 6 ∨ k = 7 ∨ k = 8 ∨ k = 9 ∨ k = 10 ∨ k = 11 by omega) with rfl | rfl | rfl | rfl | rfl | rfl | rfl | rfl | rfl | rfl | rfl | rfl
  · refine ⟨fun _ => ?_, fun c => absurd (by decide) c⟩
    rw [nI_clamp (by omega), rd 88 _ (by decide), show gv σ 88 (10 * (7 * h + m)) = r 0 m from hr 0 m (by decide) hm]
    exact ⟨vix 0 (by decide) (by omega), hq⟩
  · refine ⟨fun c => absurd c (by decide), fun _ => ⟨fun _ => ?_, fun c => absurd (by decide) c⟩⟩
    rw [cm, rd 74 _ (by decide)]
    exact ⟨vm, hq⟩
  · refine ⟨fun c => absurd c (by decide), fun _ => ⟨fun c => absurd c (by decide), fun _ => ⟨fun _ => ?_, fun c => absurd (by decide) c⟩⟩⟩
    rw [cm, rd 73 _ (by decide)]
    exact ⟨vm, hq⟩
  · refine ⟨fun c => absurd c (by decide), fun _ => ⟨fun c => absurd c (by decide), fun _ => ⟨fun c => absurd c (by decide), fun _ => ⟨fun _ => ?_, fun c => absurd (by decide) c⟩⟩⟩⟩
    rw [rd 11 43 (by decide), eN, nI_1]
    have hq : Q' (if m + 1 < n then r 0 (m + 1) else 0) (pa σ 92 f) := by rw [← hcl]; exact hq
    refine ⟨fun c => ?_, fun c => ?_⟩
    · have := (nI_leI (by omega) (by omega)).mp c
      rwa [if_neg (by omega)] at hq
    · have q : m + 1 < n := Nat.not_le.mp (fun q => c ((nI_leI (by omega) (by omega)).mpr q))
      rw [if_pos q] at hq
      rw [nx 10 10 rfl, nI_clamp (by omega), rd 88 _ (by decide)]
      refine ⟨vix 10 (by decide) (by omega), ?_⟩
      have e := hr 0 (m + 1) (by decide) q
      rw [show 10 * (7 * h + (m + 1)) + 0 = 10 * (7 * h + m) + 10 by omega] at e
      rw [e]
      exact hq
  · refine ⟨fun c => absurd c (by decide), fun _ => ⟨fun c => absurd c (by decide), fun _ => ⟨fun c => absurd c (by decide), fun _ => ⟨fun c => absurd c (by decide), fun _ => ⟨fun _ => ?_, fun c => absurd (by decide) c⟩⟩⟩⟩⟩
    have hq : Q' (if 0 < m then r 0 (m - 1) else 0) (pa σ 92 f) := hq
    refine ⟨fun c => ?_, fun c => ?_⟩
    · have := (nI_leI (a := m) (b := 0) (by omega) (by decide)).mp c
      rwa [if_neg (by omega)] at hq
    · have q : 0 < m := Nat.pos_of_ne_zero (fun q => c (by rw [q]; decide))
      rw [if_pos q] at hq
      have e1 : nI (10 * (7 * h + m)) - 10 = nI (10 * (7 * h + m) - 10) := pk_sub (b := 10) (by omega)
      rw [e1, nI_clamp (by omega), rd 88 _ (by decide)]
      refine ⟨vp_in_nI (by omega) (by decide), ?_⟩
      have e := hr 0 (m - 1) (by decide) (by omega)
      rw [show 10 * (7 * h + (m - 1)) + 0 = 10 * (7 * h + m) - 10 by omega] at e
      rw [e]
      exact hq
  · refine ⟨fun c => absurd c (by decide), fun _ => ⟨fun c => absurd c (by decide), fun _ => ⟨fun c => absurd c (by decide), fun _ => ⟨fun c => absurd c (by decide), fun _ => ⟨fun c => absurd c (by decide), fun _ => ⟨fun _ => ?_, fun c => absurd (by decide) c⟩⟩⟩⟩⟩⟩
    rw [nx 1 1 rfl, nI_clamp (by omega), rd 88 _ (by decide), hr 1 m (by decide) hm]
    exact ⟨vix 1 (by decide) (by omega), hq⟩
  · refine ⟨fun c => absurd c (by decide), fun _ => ⟨fun c => absurd c (by decide), fun _ => ⟨fun c => absurd c (by decide), fun _ => ⟨fun c => absurd c (by decide), fun _ => ⟨fun c => absurd c (by decide), fun _ => ⟨fun c => absurd c (by decide), fun _ => ⟨fun _ => ?_, fun c => absurd (by decide) c⟩⟩⟩⟩⟩⟩⟩
    rw [nx 2 2 rfl, nI_clamp (by omega), rd 88 _ (by decide), hr 2 m (by decide) hm]
    exact ⟨vix 2 (by decide) (by omega), hq⟩
  · refine ⟨fun c => absurd c (by decide), fun _ => ⟨fun c => absurd c (by decide), fun _ => ⟨fun c => absurd c (by decide), fun _ => ⟨fun c => absurd c (by decide), fun _ => ⟨fun c => absurd c (by decide), fun _ => ⟨fun c => absurd c (by decide), fun _ => ⟨fun c => absurd c (by decide), fun _ => ⟨fun _ => ⟨fun _ => ?_, fun c => absurd rfl c⟩, fun c => absurd (by decide) c⟩⟩⟩⟩⟩⟩⟩⟩
    rw [nx 3 3 rfl, nI_clamp (by omega), rd 88 _ (by decide), hr 3 m (by decide) hm]
    exact ⟨vix 3 (by decide) (by omega), hq⟩
  · refine ⟨fun c => absurd c (by decide), fun _ => ⟨fun c => absurd c (by decide), fun _ => ⟨fun c => absurd c (by decide), fun _ => ⟨fun c => absurd c (by decide), fun _ => ⟨fun c => absurd c (by decide), fun _ => ⟨fun c => absurd c (by decide), fun _ => ⟨fun c => absurd c (by decide), fun _ => ⟨fun c => absurd c (by decide), fun _ => ⟨fun _ => ?_, fun c => absurd (by decide) c⟩⟩⟩⟩⟩⟩⟩⟩⟩
    rw [e24, em24]
    exact hq
  · refine ⟨fun c => absurd c (by decide), fun _ => ⟨fun c => absurd c (by decide), fun _ => ⟨fun c => absurd c (by decide), fun _ => ⟨fun c => absurd c (by decide), fun _ => ⟨fun c => absurd c (by decide), fun _ => ⟨fun c => absurd c (by decide), fun _ => ⟨fun c => absurd c (by decide), fun _ => ⟨fun c => absurd c (by decide), fun _ => ⟨fun c => absurd c (by decide), fun _ => ⟨fun _ => ?_, fun c => absurd (by decide) c⟩⟩⟩⟩⟩⟩⟩⟩⟩⟩
    rw [e24]
    exact hq
  · refine ⟨fun c => absurd c (by decide), fun _ => ⟨fun c => absurd c (by decide), fun _ => ⟨fun c => absurd c (by decide), fun _ => ⟨fun c => absurd c (by decide), fun _ => ⟨fun c => absurd c (by decide), fun _ => ⟨fun c => absurd c (by decide), fun _ => ⟨fun c => absurd c (by decide), fun _ => ⟨fun c => absurd c (by decide), fun _ => ⟨fun c => absurd c (by decide), fun _ => ⟨fun c => absurd c (by decide), fun _ => ⟨fun _ => ⟨fun _ => ?_, fun c => absurd rfl c⟩, fun c => absurd (by decide) c⟩⟩⟩⟩⟩⟩⟩⟩⟩⟩⟩
    rw [nx 6 6 rfl, nI_clamp (by omega), rd 88 _ (by decide), hr 6 m (by decide) hm]
    exact ⟨vix 6 (by decide) (by omega), hq⟩
  · refine ⟨fun c => absurd c (by decide), fun _ => ⟨fun c => absurd c (by decide), fun _ => ⟨fun c => absurd c (by decide), fun _ => ⟨fun c => absurd c (by decide), fun _ => ⟨fun c => absurd c (by decide), fun _ => ⟨fun c => absurd c (by decide), fun _ => ⟨fun c => absurd c (by decide), fun _ => ⟨fun c => absurd c (by decide), fun _ => ⟨fun c => absurd c (by decide), fun _ => ⟨fun c => absurd c (by decide), fun _ => ⟨fun c => absurd c (by decide), fun _ => ⟨fun _ => ?_, fun c => absurd rfl c⟩⟩⟩⟩⟩⟩⟩⟩⟩⟩⟩⟩
    rw [nx 9 9 rfl, nI_clamp (by omega), rd 88 _ (by decide), hr 9 m (by decide) hm]
    exact ⟨vix 9 (by decide) (by omega), hq⟩
end VA
theorem facM {σ : St} {Q : Int32 → St → Prop} {x : Int32} (hF : FcOk (gv σ 11 49)) (hQ : Q (fcW (gv σ 11 49) (gr σ 77) x) σ) : wX12_factorOf x σ Q := by
  unfold fcW at hQ
  refine ⟨fun c => ?_, fun c => ?_⟩
  · rw [if_neg (i32_le.mpr c)] at hQ
    refine ⟨fun c2 => ?_, fun c2 => ?_⟩
    · rwa [if_pos c2] at hQ
    rw [if_neg c2] at hQ
    rcases hF with hF | ⟨n, h1, h2, e⟩
    · exact absurd hF c2
    obtain ⟨y, hy, rfl⟩ := nI_of (x := x) (i32_lt.mpr (Int32.le_of_lt c))
    have e10 : nI y / 10 = nI (y / 10) := pk_div (d := 10) hy (by decide) (by decide)
    have e1 : nI n - 1 = nI (n - 1) := pk_sub (b := 1) h1
    rw [e, e10, e1] at hQ ⊢
    refine ⟨fun g => ?_, fun g => ?_⟩
    · have := (nI_leI (by omega) (by omega)).mp g
      refine ⟨vp_in_nI (by omega) (by decide), ?_⟩
      by_cases g2 : nI (n - 1) < nI (y / 10)
      · rwa [jmin, if_pos g2] at hQ
      · have g3 := Nat.not_lt.mp (fun q => g2 ((nI_ltI (by omega) (by omega)).mpr q))
        omega
    · have := Nat.not_le.mp (fun q => g ((nI_leI (by omega) (by omega)).mpr q))
      refine ⟨vp_in_nI (by omega) (by decide), ?_⟩
      rwa [jmin, if_neg (nI_nlt (by omega) (by omega))] at hQ
  · rwa [if_pos (i32_lt.mp c)] at hQ
