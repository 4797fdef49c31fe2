/-! What Inv gives to both sides. -/
theorem hdO_bd {mi ga v f14 f15 : Nat → Int32} {w : Int32} {O : Nat} (hb : ∀ j, j < O → ∃ m x, m < 7 ∧ x ≤ 9 ∧ mi j = nI m ∧ v j = nI x ∧ v j ≤ (if ga j = 0 then f14 m else f15 m)) : ∀ (g m : Nat), g ≤ O → m < 7 → 0 ≤ f14 m → 0 ≤ f15 m → (∃ x, x ≤ 9 ∧ hdO mi ga v w g m = nI x ∧ hdO mi ga v w g m ≤ f14 m) ∧ ∃ x, x ≤ 9 ∧ hdO mi ga v w g (m + 7) = nI x ∧ hdO mi ga v w g (m + 7) ≤ f15 m
  | 0, m, _, _, h1, h2 => ⟨⟨0, by omega, rfl, h1⟩, ⟨0, by omega, rfl, h2⟩⟩
  | g + 1, m, hg, hm, h1, h2 => by
    obtain ⟨i1, i2⟩ := hdO_bd hb (w := w) g m (by omega) hm h1 h2
    obtain ⟨mm, x, q1, q2, q3, q4, q5⟩ := hb g (by omega)
    have cm : (mi g).toNatClampNeg = mm := by rw [q3]; exact nI_clamp (by omega)
    rw [hdO, hdO, cm]
    refine ⟨?_, ?_⟩
    · by_cases c : nI g ≠ w ∧ mm + (if ga g = 0 then 0 else 7) = m
      · rw [if_pos c]
        have hz : ga g = 0 := by
          by_cases z : ga g = 0
          · exact z
          · have := c.2
            rw [if_neg z] at this
            omega
        have hmm : mm = m := by
          have := c.2
          rw [if_pos hz] at this
          omega
        rw [if_pos hz, hmm] at q5
        exact ⟨x, q2, q4, q5⟩
      · rw [if_neg c]
        exact i1
    · by_cases c : nI g ≠ w ∧ mm + (if ga g = 0 then 0 else 7) = m + 7
      · rw [if_pos c]
        have hz : ¬ ga g = 0 := fun z => by
          have := c.2
          rw [if_pos z] at this
          omega
        have hmm : mm = m := by
          have := c.2
          rw [if_neg hz] at this
          omega
        rw [if_neg hz, hmm] at q5
        exact ⟨x, q2, q4, q5⟩
      · rw [if_neg c]
        exact i2
theorem fcW_congr {fm : Int32} {f g : Nat → Int32} (h : fm = -1 ∨ ∃ n, 1 ≤ n ∧ n ≤ 20 ∧ fm = nI n ∧ ∀ i, i < n → f i = g i) : fcW fm f = fcW fm g := by
  funext hd
  unfold fcW
  by_cases c1 : hd ≤ 0
  · rw [if_pos c1, if_pos c1]
  rw [if_neg c1, if_neg c1]
  by_cases c2 : fm = -1
  · rw [if_pos c2, if_pos c2]
  rw [if_neg c2, if_neg c2]
  rcases h with h | ⟨n, h1, h2, e, h3⟩
  · exact absurd h c2
  obtain ⟨y, hy, rfl⟩ := nI_of (x := hd) (i32_lt.mpr (Int32.le_of_lt (i32_le.mp c1)))
  have e10 : nI y / 10 = nI (y / 10) := pk_div (d := 10) hy (by decide) (by decide)
  have e1 : nI n - 1 = nI (n - 1) := pk_sub (b := 1) h1
  rw [e, e10, e1]
  by_cases g1 : nI (n - 1) < nI (y / 10)
  · rw [jmin, if_pos g1, nI_clamp (by omega)]
    exact h3 _ (by omega)
  · rw [jmin, if_neg g1, nI_clamp (by omega)]
    have := Nat.not_lt.mp (fun q => g1 ((nI_ltI (by omega) (by omega)).mpr q))
    exact h3 _ (by omega)
def Bun (σ : St) (Ls : List Ru) (n O F : Nat) : Prop := BsD σ Ls n O ∧ RaD σ F ∧ BsM σ Ls n O ∧ cfM σ Ls = cfD σ Ls ∧ gr σ 81 = gr σ 20 ∧ gr σ 82 = gr σ 21 ∧ gr σ 83 = gr σ 22 ∧ gr σ 84 = gr σ 23 ∧ gv σ 11 52 = nI F ∧ (∀ j, j < F → ∃ h m, 7 * h + m < 1680 ∧ h < 240 ∧ m < 7 ∧ gv σ 78 j = nI h ∧ gv σ 79 j = nI m ∧ gr σ 17 j = nI (7 * h + m) ∧ gv σ 80 j = gr σ 18 j) ∧ ∀ N w, N ≤ F → gv σ 11 66 = nI N → gv σ 11 67 = w → NowM σ Ls n O N w (gr σ 17) (gr σ 18) σ
theorem sim_MD {σ : St} {Ls : List Ru} {O N : Nat} {w : Int32} (e : cfM σ Ls = cfD σ Ls) (h1 : gr σ 81 = gr σ 20) (h2 : gr σ 82 = gr σ 21) (h3 : gr σ 83 = gr σ 22) (h4 : gr σ 84 = gr σ 23) : simM σ Ls O N w (gr σ 17) (gr σ 18) = simD σ Ls O N w := by
  unfold simM simD
  rw [e, h1, h2, h3, h4]
theorem IvL_D {σ : St} {Ls : List Ru} (hL : IvL Ls (gv σ 8 0) (gv σ 8 1) (gv σ 8 15) (gv σ 11 18) (gv σ 11 23) (gv σ 11 32) (gv σ 11 38) (gn σ) (gr σ 27) (gr σ 28) (gr σ 29) (gr σ 30) (gr σ 31) (gr σ 32) (gr σ 34) (gr σ 35) (gr σ 36) (gr σ 56) (gr σ 57) (gr σ 58) (gr σ 59) (gr σ 60) (gr σ 61) (gr σ 62) (gr σ 63) (gr σ 64) (gr σ 65) (gr σ 66) (gr σ 67) (gr σ 68) (gr σ 69) (gr σ 70) (gr σ 71) (gw σ 33) (gw σ 55)) : LwD σ Ls ∧ LwM σ Ls := by
  obtain ⟨l1, l2, l3, l4, A, C, NR, CR, nm, a1, a2, a3, a4, a5, a6, a7, a8, a9, a10, a11, a12, a13⟩ := hL
  exact ⟨⟨a9, l3, l2, l1, A, C, a1, fun i r hr => (a13 i r hr).1⟩, ⟨l4, l2, l1, A, NR, CR, a1, by omega, by omega, fun i r hr => (a13 i r hr).2⟩⟩
theorem InvB {σ : St} {Ls : List Ru} (hI : InvL Ls σ) : ∃ n O F, Bun σ Ls n O F := by
  obtain ⟨hT, hM, hS, hF, hC, hR, hO, hG, hP, hp, hK, hN, hL, hk⟩ := hI
  obtain ⟨m1, m2, m3, m4, m5, n, hn, en, hm⟩ := hM
  obtain ⟨o1, o2, o3, o4, o5, O, hO2, eO, o6, o7⟩ := hO
  obtain ⟨r1, r2, F, hF4, eF, r3⟩ := hR
  obtain ⟨hLD, hLM⟩ := IvL_D hL
  have hclN : (gv σ 2 4).toNatClampNeg = n := by rw [en]; exact nI_clamp (by omega)
  have hclO : (gv σ 4 4).toNatClampNeg = O := by rw [eO]; exact nI_clamp (by omega)
  have hFk : FcOk (gv σ 2 6) := by
    rcases hF.2 with q | ⟨k, q1, q2, q3, _⟩
    · exact Or.inl q
    · exact Or.inr ⟨k, q1, q2, q3⟩
  have ecf : cfM σ Ls = cfD σ Ls := by
    unfold cfM cfD
    rw [← m1, ← m2, ← m3, ← m5, ← hS.1, ← hF.1]
    have : fcW (gv σ 2 6) (gr σ 77) = fcW (gv σ 2 6) (gr σ 16) := fcW_congr (by
      rcases hF.2 with q | ⟨k, q1, q2, q3, q4⟩
      · exact Or.inl q
      · exact Or.inr ⟨k, q1, q2, q3, fun i hi => (q4 i hi).1.symm⟩)
    rw [this]
  have hmi : ∀ j, j < O → ∃ m, m < 7 ∧ gv σ 21 j = nI m := fun j hj => by
    obtain ⟨h, m, v, q1, q2, q3, q4, q5, q6⟩ := o6 j hj
    exact ⟨m, by omega, q5⟩
  have hob : ∀ j, j < O → ∃ m x, m < 7 ∧ x ≤ 9 ∧ gr σ 21 j = nI m ∧ gr σ 23 j = nI x ∧ gr σ 23 j ≤ (if gr σ 22 j = 0 then gr σ 14 m else gr σ 15 m) := fun j hj => by
    obtain ⟨h, m, v, q1, q2, q3, q4, q5, q6, q7, q8⟩ := o6 j hj
    exact ⟨m, v, by omega, q3, q5, q7, q8⟩
  have hbd : ∀ w g m, g ≤ O → m < n → (∃ x, x ≤ 9 ∧ hdO (gr σ 21) (gr σ 22) (gr σ 23) w g m = nI x ∧ hdO (gr σ 21) (gr σ 22) (gr σ 23) w g m ≤ gr σ 14 m) ∧ ∃ x, x ≤ 9 ∧ hdO (gr σ 21) (gr σ 22) (gr σ 23) w g (m + 7) = nI x ∧ hdO (gr σ 21) (gr σ 22) (gr σ 23) w g (m + 7) ≤ gr σ 15 m := fun w g m hg hmn => by
    obtain ⟨c, k, ww, gg, b1, b2, b3, b4, b5, b6, b7, b8, b9, b10⟩ := hm m hmn
    exact hdO_bd hob g m hg (by omega) (by rw [b9]; exact nI_nn (by omega)) (by rw [b10]; exact nI_nn (by omega))
  have hfx : ∀ j, j < F → ∃ h m, 7 * h + m < 1680 ∧ h < 240 ∧ m < 7 ∧ gv σ 78 j = nI h ∧ gv σ 79 j = nI m ∧ gr σ 17 j = nI (7 * h + m) ∧ gv σ 80 j = gr σ 18 j := fun j hj => by
    obtain ⟨h, m, v, q1, q2, q3, q4, q5, q6, q7⟩ := r3 j hj
    exact ⟨h, m, by omega, q1, by omega, q4, q5, q6, by rw [r2]; rfl⟩
  refine ⟨n, O, F, ⟨hLD, hn, en, hFk, hO2, eO, hmi⟩, ⟨hF4, eF, fun j hj => ?_, hK⟩, ⟨hLM, hn, m1.symm.trans en, by rw [← hF.1]; exact hFk, fun m hmn => ?_, fun m hmn => ?_, hO2, o1.symm.trans eO, fun j hj => ?_, fun w g m hg hmn => ?_, fun w g m hg hmn => ?_⟩, ecf, o2.symm, o3.symm, o4.symm, o5.symm, r1.symm.trans eF, hfx, fun N w hNF e1 e2 => ?_⟩
  · obtain ⟨h, m, q1, _, _, _, _, q2, _⟩ := hfx j hj
    exact ⟨7 * h + m, q1, q2⟩
  · obtain ⟨c, k, ww, gg, b1, b2, b3, b4, b5, b6, b7, b8, b9, b10⟩ := hm m hmn
    exact ⟨c, b2, by rw [gv_gr, ← m2]; exact b7⟩
  · obtain ⟨c, k, ww, gg, b1, b2, b3, b4, b5, b6, b7, b8, b9, b10⟩ := hm m hmn
    exact ⟨gg, b6, by rw [gv_gr, ← m5]; exact b10⟩
  · obtain ⟨m, q1, q2⟩ := hmi j hj
    exact ⟨m, q1, by rw [gv_gr, ← o3]; exact q2⟩
  · rw [← o3, ← o4, ← o5]
    obtain ⟨⟨x, q1, q2, q3⟩, -⟩ := hbd w g m hg hmn
    obtain ⟨c, k, ww, gg, b1, b2, b3, b4, b5, b6, b7, b8, b9, b10⟩ := hm m hmn
    rw [q2, b9] at q3
    have := (nI_leI (by omega) (by omega)).mp q3
    exact ⟨x, by omega, q2⟩
  · rw [← o3, ← o4, ← o5]
    obtain ⟨-, x, q1, q2, q3⟩ := hbd w g m hg hmn
    exact ⟨x, q1, q2, by rw [gv_gr, ← m5]; exact q3⟩
  · rcases hN with q | ⟨N', q1, q2, q3, q4, q5⟩
    · rw [q] at e1
      exact absurd e1.symm (nI_neg1 (by omega))
    · rw [eF, nI_clamp (by omega)] at q2
      have hNN : N' = N := by
        rw [q1] at e1
        exact (nI_eq (by omega) (by omega)).mp e1
      subst hNN
      rw [e2, hclO] at q5
      rw [e2] at q3
      refine ⟨e1, e2, fun h m i h1 h2 h3 => ?_, q4, ?_⟩
      · rw [sim_MD ecf o2.symm o3.symm o4.symm o5.symm]
        have := q3 h m i h1 (by rw [hclN]; exact h2) h3
        unfold simO at this
        rw [hclO] at this
        exact this
      · rw [← o2, ← o3, ← o4, ← o5]
        exact q5
