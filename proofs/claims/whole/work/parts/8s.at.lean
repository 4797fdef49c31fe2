/-! Questions: at. -/
section QH
variable {σ : St} {Q : Int32 → St → Prop} {x : Int32}
theorem z11 {A : Prop} : ((1 : Int32) = 0 → A) := fun c => absurd c z10
theorem hourD (h1 : ∀ h, h < 240 → x = nI h → Q 1 σ) (h0 : (∀ h, h < 240 → x ≠ nI h) → Q 0 σ) : wX11_isHour x σ Q := by
  refine ⟨fun c => h0 (fun h hh e => ?_), fun c => ⟨fun c2 => h0 (fun h hh e => ?_), fun c2 => ?_⟩⟩
  · rw [e] at c
    exact nI_pos (by omega) c
  · rw [e] at c2
    exact absurd c2 (nI_ge hh (by decide))
  · obtain ⟨j, hj, rfl⟩ := nI_of c
    exact h1 j (Nat.not_le.mp (fun q => c2 ((nI_leI (a := 240) (by decide) hj).mpr q))) rfl
theorem endD (h1 : ∀ h, h ≤ 240 → x = nI h → Q 1 σ) (h0 : (∀ h, h ≤ 240 → x ≠ nI h) → Q 0 σ) : wX11_isEnd x σ Q := by
  refine ⟨fun c => h0 (fun h hh e => ?_), fun c => ⟨fun c2 => h0 (fun h hh e => ?_), fun c2 => ?_⟩⟩
  · rw [e] at c
    exact nI_pos (by omega) c
  · rw [e] at c2
    exact absurd c2 (nI_nlt hh (by decide))
  · obtain ⟨j, hj, rfl⟩ := nI_of c
    exact h1 j (Nat.not_lt.mp (fun q => c2 ((nI_ltI (a := 240) (by decide) hj).mpr q))) rfl
theorem endM (h1 : ∀ h, h ≤ 240 → x = nI h → Q 1 σ) (h0 : (∀ h, h ≤ 240 → x ≠ nI h) → Q 0 σ) : wX12_isEnd x σ Q := endD h1 h0
theorem knD {F : Nat} (hF : F ≤ 400) (eF : gv σ 3 0 = nI F) (h1 : ∀ h, h ≤ F → x = nI h → Q 1 σ) (h0 : (∀ h, h ≤ F → x ≠ nI h) → Q 0 σ) : wX11_isKnown x σ Q := by
  unfold wX11_isKnown
  rw [eF]
  refine ⟨fun c => h0 (fun h hh e => ?_), fun c => ⟨fun c2 => h0 (fun h hh e => ?_), fun c2 => ?_⟩⟩
  · rw [e] at c
    exact nI_pos (by omega) c
  · rw [e] at c2
    exact absurd c2 (nI_nlt hh (by omega))
  · obtain ⟨j, hj, rfl⟩ := nI_of c
    exact h1 j (Nat.not_lt.mp (fun q => c2 ((nI_ltI (by omega) hj).mpr q))) rfl
theorem knM {F : Nat} (hF : F ≤ 400) (eF : gv σ 11 52 = nI F) (h1 : ∀ h, h ≤ F → x = nI h → Q 1 σ) (h0 : (∀ h, h ≤ F → x ≠ nI h) → Q 0 σ) : wX12_isKnown x σ Q := by
  unfold wX12_isKnown
  rw [eF]
  refine ⟨fun c => h0 (fun h hh e => ?_), fun c => ⟨fun c2 => h0 (fun h hh e => ?_), fun c2 => ?_⟩⟩
  · rw [e] at c
    exact nI_pos (by omega) c
  · rw [e] at c2
    exact absurd c2 (nI_nlt hh (by omega))
  · obtain ⟨j, hj, rfl⟩ := nI_of c
    exact h1 j (Nat.not_lt.mp (fun q => c2 ((nI_ltI (by omega) hj).mpr q))) rfl
end QH
section QB
variable {σ τ : St} {Ls : List Ru} {n O F nn k t : Nat} {w : Int32}
/-- begin, from what is held between calls -/
theorem beginQ {Q : St → Prop} (Bn : Bun σ Ls n O F) (hk : Stg k) (hnn : nn ≤ F) (hQ : ∀ τ, RnD σ Ls n O nn w τ k 0 → gv τ 3 4 = nI nn → Q τ) : wX10_begin k (nI nn) w σ Q :=
  beginD (σ0 := σ) hk Fm.rf Bn.2.1 hnn rfl rfl (fun τ h1 h2 _ => hQ τ h1 h2)
theorem xS_34 {k : Nat} (hk : Stg k) : xS k 3 4 = false := by
  have := (stg_ge hk).1
  simp [xS, xV]; omega
/-- the water's end leaves what is held -/
theorem InvR (hI : InvL Ls σ) (Bn : Bun σ Ls n O F) (hnn : nn ≤ F) (f : Fm xG σ τ) (h19 : ∀ i, i < 1680 → gv τ 19 i = rtW (gr σ 17) (gr σ 18) nn i) (h34 : gv τ 3 4 = nI nn) : InvL Ls τ := by
  have hF := Bn.2.1.1
  have eF := Bn.2.1.2.1
  refine InvD hI f ⟨nn, h34, by rw [eF, nI_clamp (by omega)]; exact hnn, h19⟩
theorem BunF (Bn : Bun σ Ls n O F) : F ≤ 400 ∧ n ≤ 7 ∧ O ≤ 200 := ⟨Bn.2.1.1, Bn.1.2.1, Bn.1.2.2.2.2.1⟩
/-- works, from what is held between calls -/
theorem worksQ {Q : St → Prop} (Bn : Bun σ Ls n O F) (hnn : nn ≤ F) (hQ : ∀ τ, Fm xR σ τ → NowM σ Ls n O nn w (gr σ 17) (gr σ 18) τ → Q τ) : wX12_works (nI nn) w σ Q := by
  obtain ⟨hF, hn, hO⟩ := BunF Bn
  obtain ⟨B1, B2, B3, B4, B5, B6, B7, B8, B9, B10, B11⟩ := Bn
  exact worksM B3 (by omega) (fun j hj => B10 j (by omega)) (fun h1 h2 => B11 nn w hnn h1 h2) hQ
/-- the hours that the reference keeps are what is held -/
theorem InvW (hI : InvL Ls σ) (Bn : Bun σ Ls n O F) (hnn : nn ≤ F) (f : Fm xR σ τ) (hN : NowM σ Ls n O nn w (gr σ 17) (gr σ 18) τ) : InvL Ls τ := by
  obtain ⟨hF, hn, hO⟩ := BunF Bn
  obtain ⟨B1, B2, B3, B4, B5, B6, B7, B8, B9, B10, B11⟩ := Bn
  obtain ⟨q1, q2, q3, q4, q5⟩ := hN
  refine InvM hI f ?_
  refine Or.inr ⟨nn, q1, by rw [B2.2.1, nI_clamp (by omega)]; exact hnn, fun h m i h1 h2 h3 => ?_, q4, ?_⟩
  · rw [B1.2.2.1, nI_clamp (by omega)] at h2
    have := q3 h m i h1 h2 h3
    rw [sim_MD B4 B5 B6 B7 B8] at this
    unfold simO
    rw [q2, B1.2.2.2.2.2.1, nI_clamp (by omega)]
    exact this
  · rw [q2, B1.2.2.2.2.2.1, nI_clamp (by omega)]
    rw [B5, B6, B7, B8] at q5
    exact q5
end QB
