/-! The law's code: the reference's pile. -/
theorem eA_p {c : Int32} (h : 0 ≤ c) : eA c = 0 ∧ eB c = c := ⟨if_pos h, if_pos h⟩
theorem eA_v {c : Int32} (h1 : ¬ 0 ≤ c) (h : c ≤ -27) : eA c = 1 ∧ eB c = -c - 27 := ⟨by rw [eA, if_neg h1, if_pos h], by rw [eB, if_neg h1, if_pos h]⟩
section VM
variable {σ : St} {Q : Int32 → St → Prop} {v : Nat → Int32} {x3 x4 x5 : Int32}
theorem valM_loop {cs0 : Ex} {N : Nat} (hN : N ≤ 20000) (hv : ∀ (k : Nat) (f : Nat → Int32) (Q' : Int32 → St → Prop), k < 12 → Q' (v k) (pa σ 92 f) → wX12_variable (nI k) x3 x4 x5 (pa σ 92 f) Q') (h : ∀ f, Q (evX v cs0) (pa σ 92 f)) : ∀ (cs : Ex) (p : Nat) (st : List Int32) (f : Nat → Int32), p + cs.length = N → rpE (gr σ 70) (gr σ 71) p cs → (∀ c ∈ cs, gdE c) → wfx 32 cs st.length 1 → st.length ≤ 32 → pil f st → evS v cs st = evS v cs0 [] → wX12_value_6 Q (cs.length + 1) (nI N) x3 x4 x5 (nI st.length) (nI p) (pa σ 92 f) := by
  intro cs
  induction cs with
  | nil =>
    intro p st f hp _ _ hw _ hpil hev
    simp only [List.length_nil, Nat.add_zero] at hp
    subst hp
    simp only [wX12_value_6]
    have hw : st.length = 1 := hw
    obtain ⟨x, rfl⟩ : ∃ x, st = [x] := by
      match st, hw with
      | [x], _ => exact ⟨x, rfl⟩
    refine ⟨fun _ => ⟨by unfold vp_in; decide, ?_⟩, fun c => absurd (Int32.le_refl _) c⟩
    have e : evX v cs0 = x := by
      unfold evX
      rw [← hev]
      rfl
    have e2 : gv (pa σ 92 f) 92 (Int32.toNatClampNeg 0) = x := by
      rw [gv_pa, if_pos rfl]
      exact hpil.1
    rw [e2, ← e]
    exact h f
  | cons c cs ih =>
    intro p st f hp hs hc hw h32 hpil hev
    simp only [List.length_cons] at hp ⊢
    have hpN : p < N := by omega
    have hs' : rpE (gr σ 70) (gr σ 71) (p + 1) cs := fun j x hj => by
      have := hs (j + 1) x (by simpa using hj)
      rw [show p + 1 + j = p + (j + 1) by omega]
      exact this
    have hc' : ∀ x ∈ cs, gdE x := fun x hx => hc x (List.mem_cons_of_mem _ hx)
    have ek : gv (pa σ 92 f) 70 p = eA c := by
      rw [gv_pa, if_neg (by decide)]
      exact (hs 0 c rfl).1
    have eb : gv (pa σ 92 f) 71 p = eB c := by
      rw [gv_pa, if_neg (by decide)]
      exact (hs 0 c rfl).2
    have hev' : evS v cs (stp v st c) = evS v cs0 [] := hev
    have vi : vp_in (nI p) 20000 := vp_in_nI (by omega) (by decide)
    have nxt : ∀ (st' : List Int32) (f' : Nat → Int32) (x : Int32), x = nI st'.length → wfx 32 cs st'.length 1 → st'.length ≤ 32 → pil f' st' → evS v cs st' = evS v cs0 [] → wX12_value_180 Q (fun x2' x3' x4' x5' x6' x7' σ' => wX12_value_6 Q (cs.length + 1) x2' x3' x4' x5' x6' x7' σ') (nI N) x3 x4 x5 x (nI p) (pa σ 92 f') := by
      intro st' f' x hx h1 h32' h2 h3 x4 e4
      rw [e4, nI_1, hx]
      exact ih (p + 1) st' f' (by omega) hs' hc' h1 h32' h2 h3
    have push : ∀ x : Int32, st.length < 32 → wfx 32 cs (st.length + 1) 1 → evS v cs (x :: st) = evS v cs0 [] → wX12_value_65 Q (fun x2' x3' x4' x5' x6' x7' σ' => wX12_value_6 Q (cs.length + 1) x2' x3' x4' x5' x6' x7' σ') (nI N) x3 x4 x5 (nI st.length) (nI p) (nI st.length) x (pa σ 92 f) := by
      intro x h1 h2 h3
      refine ⟨vp_in_nI (by omega) (by decide), ?_⟩
      rintro σ2 rfl x3 rfl
      rw [pv_pa, nI_clamp (by omega)]
      exact nxt (x :: st) _ _ (by rw [nI_1]; rfl) h2 h1 ⟨upd_same, pil_upd (Nat.le_refl _) hpil⟩ h3
    rw [wX12_value_6]
    refine ⟨fun q => absurd q (nI_ge hpN (by omega)), fun _ => ⟨vi, ?_⟩⟩
    rw [nI_clamp (by omega), ek, eb]
    by_cases c1 : 0 ≤ c
    · obtain ⟨ea, eb2⟩ := eA_p c1
      rw [ea, eb2]
      have hp1 := psh_pos c1
      rw [wfx, if_pos hp1] at hw
      rw [stp_p hp1, vlc, if_pos c1] at hev'
      exact ⟨fun q => absurd q (by decide), fun _ => ⟨vi, fun _ => ⟨vi, push c hw.1 hw.2 hev'⟩, fun q => absurd rfl q⟩⟩
    by_cases c2 : (-27 : Int32) < c
    case neg =>
      obtain ⟨ea, eb2⟩ := eA_v c1 (i32_lt.mp c2)
      rw [ea, eb2]
      have hp1 := psh_neg c2
      rw [wfx, if_pos hp1] at hw
      rw [stp_p hp1, vlc, if_neg c1] at hev'
      have h38 : -38 ≤ c := by
        rcases hc c List.mem_cons_self with g | g | g | g | g | g
        · exact absurd g.1 c1
        · exact g.1
        all_goals exact absurd (show (-27 : Int32) < c by rw [g]; decide) c2
      obtain ⟨k, hk, e9⟩ := var_ix c2 h38
      rw [e9] at hev' ⊢
      rw [nI_clamp (by omega)] at hev'
      exact ⟨fun q => absurd q (by decide), fun _ => ⟨vi, fun q => absurd q (by decide), fun _ => ⟨vi, hv k f _ hk (push _ hw.1 hw.2 hev')⟩⟩⟩
    have hp0 := psh_no c1 c2
    rw [wfx, hp0, if_neg (by decide)] at hw
    by_cases c3 : c = -15
    · rw [if_pos c3] at hw
      obtain ⟨a, r, rfl⟩ : ∃ a r, st = a :: r := by
        match st, hw.1 with
        | a :: r, _ => exact ⟨a, r, rfl⟩
      have hr : r.length < 32 := h32
      rw [stp_n hp0 c3] at hev'
      have em : nI (a :: r).length - 1 = nI r.length := nI_pred r.length
      have ea : eA c = 5 := by rw [c3]; decide
      rw [ea]
      refine ⟨fun _ => ⟨vi, fun _ => ?_, fun q => absurd rfl q⟩, fun q => absurd (by decide) q⟩
      rw [em, nI_clamp (by omega)]
      refine ⟨vp_in_nI (by omega) (by decide), vp_in_nI (by omega) (by decide), ?_⟩
      rintro σ2 rfl
      rw [gv_pa, if_pos rfl, pv_pa, hpil.1]
      exact nxt (-a :: r) _ _ rfl hw.2 h32 ⟨upd_same, pil_upd (Nat.le_refl _) hpil.2⟩ hev'
    rw [if_neg c3] at hw
    obtain ⟨b, a, r, rfl⟩ : ∃ b a r, st = b :: a :: r := by
      match st, hw.1 with
      | b :: a :: r, _ => exact ⟨b, a, r, rfl⟩
    have hr : r.length + 1 < 32 := h32
    rw [stp_b hp0 c3] at hev'
    have e1 : nI (b :: a :: r).length + (-1) = nI (r.length + 1) := pk_m1 (r.length + 1)
    have e2 : nI (r.length + 1) - 1 = nI r.length := nI_pred r.length
    have pop : ∀ x : Int32, x = jnd (-c) a b → wX12_value_179 Q (fun x2' x3' x4' x5' x6' x7' σ' => wX12_value_6 Q (cs.length + 1) x2' x3' x4' x5' x6' x7' σ') (nI N) x3 x4 x5 (nI (r.length + 1)) (nI p) (nI r.length) x (pa σ 92 f) := by
      rintro x rfl
      refine ⟨vp_in_nI (by omega) (by decide), ?_⟩
      rintro σ2 rfl
      rw [pv_pa, nI_clamp (by omega)]
      exact nxt (jnd (-c) a b :: r) _ _ rfl hw.2 (by simp only [List.length_cons]; omega) ⟨upd_same, pil_upd (Nat.le_refl _) hpil.2.2⟩ hev'
    have vals : gv (pa σ 92 f) 92 r.length = a ∧ gv (pa σ 92 f) 92 (r.length + 1) = b := ⟨by rw [gv_pa, if_pos rfl]; exact hpil.2.1, by rw [gv_pa, if_pos rfl]; exact hpil.1⟩
    have hg : c = -8 ∨ c = -9 ∨ c = -10 := by
      rcases hc c List.mem_cons_self with g | g | g | g | g | g
      · exact absurd g.1 c1
      · exact absurd g.2 (i32_le.mpr c2)
      · exact Or.inl g
      · exact Or.inr (Or.inl g)
      · exact Or.inr (Or.inr g)
      · exact absurd g c3
    obtain ⟨E, hE⟩ : ∃ E, E = eA c := ⟨_, rfl⟩
    rw [← hE]
    have hj : (2 : Int32) ≤ E ∧ ¬ E = 5 ∧ (E = 2 → jnd (-c) a b = a + b) ∧ (E = 3 → jnd (-c) a b = a - b) ∧ (¬ E = 2 → ¬ E = 3 → jnd (-c) a b = a * b) := by
      rw [hE]
      rcases hg with rfl | rfl | rfl
      · exact ⟨by decide, by decide, fun _ => rfl, fun q => absurd q (by decide), fun q => absurd (by decide) q⟩
      · exact ⟨by decide, by decide, fun q => absurd q (by decide), fun _ => rfl, fun _ q => absurd (by decide) q⟩
      · exact ⟨by decide, by decide, fun q => absurd q (by decide), fun q => absurd q (by decide), fun _ _ => rfl⟩
    obtain ⟨h2, h5, j2, j3, j4⟩ := hj
    refine ⟨fun _ => ⟨vi, fun q => absurd q h5, fun _ => ?_⟩, fun q => absurd h2 q⟩
    rintro x6 rfl
    rw [e1, e2, nI_clamp (by omega), nI_clamp (by omega), vals.1, vals.2]
    refine ⟨vp_in_nI (by omega) (by decide), ?_⟩
    rintro x8 rfl
    refine ⟨vp_in_nI (by omega) (by decide), ?_⟩
    rintro x9 rfl
    exact ⟨vi, fun q => pop _ (j2 q).symm, fun q2 => ⟨vi, fun q => pop _ (j3 q).symm, fun q => pop _ (j4 q2 q).symm⟩⟩
theorem valM {cs : Ex} {l : Nat} (hE : rpE (gr σ 70) (gr σ 71) l cs) (hl : l + cs.length ≤ 20000) (hg : ∀ c ∈ cs, gdE c) (hw : wfx 32 cs 0 1) (hv : ∀ (k : Nat) (f : Nat → Int32) (Q' : Int32 → St → Prop), k < 12 → Q' (v k) (pa σ 92 f) → wX12_variable (nI k) x3 x4 x5 (pa σ 92 f) Q') (h : ∀ f, Q (evX v cs) (pa σ 92 f)) : wX12_value (nI l) (nI (l + cs.length)) x3 x4 x5 σ Q := by
  refine ⟨cs.length + 1, ?_⟩
  have := valM_loop (σ := σ) hl hv h cs l [] (gr σ 92) rfl hE hg hw (by decide) trivial rfl
  rw [pa_self] at this
  exact this
end VM
