/-! The law's code: the class's pile. -/
def pil (f : Nat → Int32) : List Int32 → Prop
  | [] => True
  | a :: r => f r.length = a ∧ pil f r
theorem pil_upd {f : Nat → Int32} {k : Nat} {x : Int32} : ∀ {st : List Int32}, st.length ≤ k → pil f st → pil (upd f k x) st
  | [], _, _ => trivial
  | a :: r, h, ⟨h1, h2⟩ => ⟨by rw [upd_ne (by simp at h; omega)]; exact h1, pil_upd (by simp at h; omega) h2⟩
theorem jndD {σ : St} {Q : Int32 → St → Prop} {s a b : Int32} (h : Q (jnd s a b) σ) : wX2_joined s a b σ Q := by
  unfold jnd b01 at h
  unfold wX2_joined
  refine ⟨fun c => ?_, fun c => ?_⟩
  · rwa [if_pos c] at h
  rw [if_neg c] at h
  refine ⟨fun c => ?_, fun c => ?_⟩
  · rwa [if_pos c] at h
  rw [if_neg c] at h
  refine ⟨fun c => ?_, fun c => ?_⟩
  · rwa [if_pos c] at h
  rw [if_neg c] at h
  refine ⟨fun c => ?_, fun c => ?_⟩
  · rw [if_pos c] at h
    refine ⟨fun q => ?_, fun q => ?_⟩
    · simpa [q] using h
    · simpa [q] using h
  rw [if_neg c] at h
  refine ⟨fun c => ?_, fun c => ?_⟩
  · rw [if_pos c] at h
    refine ⟨fun q => ?_, fun q => ?_⟩
    · simpa [q] using h
    · simpa [q] using h
  rw [if_neg c] at h
  refine ⟨fun c => ?_, fun c => ?_⟩
  · rw [if_pos c] at h
    refine ⟨fun q => ?_, fun q => ?_⟩
    · simpa [i32_lt.mpr q] using h
    · simpa [i32_le.mp q] using h
  rw [if_neg c] at h
  refine ⟨fun c => ?_, fun c => ?_⟩
  · rw [if_pos c] at h
    refine ⟨fun q => ?_, fun q => ?_⟩
    · simpa [i32_le.mpr q] using h
    · simpa [i32_lt.mp q] using h
  rw [if_neg c] at h
  refine ⟨fun c => ?_, fun c => ?_⟩
  · rwa [if_pos c] at h
  · rwa [if_neg c] at h
theorem psh_pos {c : Int32} (h : 0 ≤ c) : psh c = true := by simp [psh, h]
theorem psh_neg {c : Int32} (h : ¬ (-27 : Int32) < c) : psh c = true := by simp [psh, i32_lt.mp h]
theorem psh_no {c : Int32} (h1 : ¬ 0 ≤ c) (h2 : (-27 : Int32) < c) : psh c = false := by
  simp only [psh, decide_eq_false h1, Bool.false_or]
  exact decide_eq_false (i32_le.mpr h2)
theorem stp_p {v : Nat → Int32} {st : List Int32} {c : Int32} (h : psh c = true) : stp v st c = vlc v c :: st := if_pos h
theorem stp_n {v : Nat → Int32} {r : List Int32} {a c : Int32} (h : psh c = false) (e : c = -15) : stp v (a :: r) c = -a :: r := by
  unfold stp
  rw [if_neg (by rw [h]; decide), if_pos e]
theorem stp_b {v : Nat → Int32} {r : List Int32} {a b c : Int32} (h : psh c = false) (e : ¬ c = -15) : stp v (b :: a :: r) c = jnd (-c) a b :: r := by
  unfold stp
  rw [if_neg (by rw [h]; decide), if_neg e]
theorem var_ix {c : Int32} (h1 : ¬ (-27 : Int32) < c) (h2 : -38 ≤ c) : ∃ k, k < 12 ∧ -c - 27 = nI k := by
  have h3 := i32_lt.mp h1
  have e1 : (-38 : Int32).toInt = -38 := by decide
  have e2 : (-27 : Int32).toInt = -27 := by decide
  rw [Int32.le_iff_toInt_le, e1] at h2
  rw [Int32.le_iff_toInt_le, e2] at h3
  refine ⟨(-c.toInt - 27).toNat, by omega, ?_⟩
  apply Int32.toInt_inj.mp
  rw [nI_toInt (by omega), Int32.toInt_sub, Int32.toInt_neg]
  have e3 : (27 : Int32).toInt = 27 := by decide
  rw [e3]
  have b1 : (-c.toInt).bmod (2 ^ 32) = -c.toInt := by rw [Int.bmod_def]; omega
  rw [b1, Int.bmod_def]
  omega
section VD
variable {σ : St} {Q : Int32 → St → Prop}
theorem valD_loop {cs0 : Ex} {N : Nat} (hN : N ≤ gn σ) (hgn : gn σ ≤ 7000) (h : ∀ f, Q (evX (gr σ 37) cs0) (pa σ 38 f)) : ∀ (cs : Ex) (p : Nat) (st : List Int32) (f : Nat → Int32), p + cs.length = N → seg (gr σ 36) p cs → (∀ c ∈ cs, c ≤ -27 → -38 ≤ c) → wfx 32 cs st.length 1 → st.length ≤ 32 → pil f st → evS (gr σ 37) cs st = evS (gr σ 37) cs0 [] → wX2_valueOf_5 Q (cs.length + 1) (nI N) (nI st.length) (nI p) (pa σ 38 f) := by
  intro cs
  induction cs with
  | nil =>
    intro p st f hp _ _ hw _ hpil hev
    simp only [List.length_nil, Nat.add_zero] at hp
    subst hp
    simp only [wX2_valueOf_5]
    have hw : st.length = 1 := hw
    obtain ⟨x, rfl⟩ : ∃ x, st = [x] := by
      match st, hw with
      | [x], _ => exact ⟨x, rfl⟩
    refine ⟨fun _ => ⟨by unfold vp_in; decide, ?_⟩, fun c => absurd (Int32.le_refl _) c⟩
    have e : evX (gr σ 37) cs0 = x := by
      unfold evX
      rw [← hev]
      rfl
    have e2 : gv (pa σ 38 f) 38 (Int32.toNatClampNeg 0) = x := by
      rw [gv_pa, if_pos rfl]
      exact hpil.1
    rw [e2, ← e]
    exact h f
  | cons c cs ih =>
    intro p st f hp hs hc hw h32 hpil hev
    simp only [List.length_cons] at hp ⊢
    have hpN : p < N := by omega
    have hs' : seg (gr σ 36) (p + 1) cs := fun j x hj => by
      have := hs (j + 1) x (by simpa using hj)
      rw [show p + 1 + j = p + (j + 1) by omega]
      exact this
    have hc' : ∀ x ∈ cs, x ≤ -27 → -38 ≤ x := fun x hx => hc x (List.mem_cons_of_mem _ hx)
    have ec : gv (pa σ 38 f) 36 p = c := by
      rw [gv_pa, if_neg (by decide)]
      exact hs 0 c rfl
    have hev' : evS (gr σ 37) cs (stp (gr σ 37) st c) = evS (gr σ 37) cs0 [] := hev
    have nxt : ∀ (st' : List Int32) (f' : Nat → Int32) (x : Int32), x = nI st'.length → wfx 32 cs st'.length 1 → st'.length ≤ 32 → pil f' st' → evS (gr σ 37) cs st' = evS (gr σ 37) cs0 [] → wX2_valueOf_147 Q (fun x2' x3' x4' σ' => wX2_valueOf_5 Q (cs.length + 1) x2' x3' x4' σ') (nI N) x (nI p) (pa σ 38 f') := by
      intro st' f' x hx h1 h32' h2 h3 x4 e4
      rw [e4, nI_1, hx]
      exact ih (p + 1) st' f' (by omega) hs' hc' h1 h32' h2 h3
    have push : ∀ x : Int32, st.length < 32 → wfx 32 cs (st.length + 1) 1 → evS (gr σ 37) cs (x :: st) = evS (gr σ 37) cs0 [] → wX2_valueOf_73 Q (fun x2' x3' x4' σ' => wX2_valueOf_5 Q (cs.length + 1) x2' x3' x4' σ') (nI N) (nI st.length) (nI p) (nI st.length) x (pa σ 38 f) := by
      intro x h1 h2 h3
      refine ⟨vp_in_nI h1 (by decide), ?_⟩
      rintro σ2 rfl x3 rfl
      rw [pv_pa, nI_clamp (by omega)]
      exact nxt (x :: st) _ _ (by rw [nI_1]; rfl) h2 h1 ⟨upd_same, pil_upd (Nat.le_refl _) hpil⟩ h3
    simp only [wX2_valueOf_5]
    refine ⟨fun q => absurd q (nI_ge hpN (by omega)), fun _ => ⟨fun q => ?_, fun _ => ⟨?_, ?_⟩⟩⟩
    · rw [gn_pa] at q
      exact absurd q (nI_ge (show p < gn σ by omega) (by omega))
    · rw [gn_pa]
      exact vp_in_nI (show p < gn σ by omega) (by omega)
    rintro x5 rfl
    rw [nI_clamp (by omega), ec]
    refine ⟨fun c1 => ?_, fun c1 => ⟨fun c2 => ?_, fun c2 => ?_⟩⟩
    · have hp1 := psh_pos c1
      rw [wfx, if_pos hp1] at hw
      rw [stp_p hp1] at hev'
      refine ⟨fun q => absurd q (nI_ge hw.1 (by decide)), fun _ => ⟨fun q => absurd q (i32_lt.mpr c1), fun _ => ?_⟩⟩
      refine push c hw.1 hw.2 ?_
      rw [vlc, if_pos c1] at hev'
      exact hev'
    · have hp0 := psh_no c1 c2
      rw [wfx, hp0, if_neg (by decide)] at hw
      refine ⟨fun c3 => ?_, fun c3 => ?_⟩
      · rw [if_pos c3] at hw
        obtain ⟨a, r, rfl⟩ : ∃ a r, st = a :: r := by
          match st, hw.1 with
          | a :: r, _ => exact ⟨a, r, rfl⟩
        have hr : r.length < 32 := h32
        rw [stp_n hp0 c3] at hev'
        have em : nI (a :: r).length - 1 = nI r.length := nI_pred r.length
        refine ⟨fun q => absurd q (nI_nle (Nat.succ_pos _) (by simp only [List.length_cons]; omega)), fun _ => ?_⟩
        rw [em, nI_clamp (by omega)]
        refine ⟨vp_in_nI hr (by decide), vp_in_nI hr (by decide), ?_⟩
        rintro σ2 rfl
        rw [gv_pa, if_pos rfl, pv_pa, hpil.1]
        exact nxt (-a :: r) _ _ rfl hw.2 h32 ⟨upd_same, pil_upd (Nat.le_refl _) hpil.2⟩ hev'
      · rw [if_neg c3] at hw
        obtain ⟨b, a, r, rfl⟩ : ∃ b a r, st = b :: a :: r := by
          match st, hw.1 with
          | b :: a :: r, _ => exact ⟨b, a, r, rfl⟩
        have hr : r.length + 1 < 32 := h32
        rw [stp_b hp0 c3] at hev'
        have e1 : nI (b :: a :: r).length + (-1) = nI (r.length + 1) := pk_m1 (r.length + 1)
        have e2 : nI (r.length + 1) - 1 = nI r.length := nI_pred r.length
        refine ⟨fun q => ?_, fun _ => ?_⟩
        · have := (nI_leI (a := (b :: a :: r).length) (b := 1) (by simp only [List.length_cons]; omega) (by decide)).mp q
          simp only [List.length_cons] at this
          omega
        rintro x3 rfl
        rw [e1, e2, nI_clamp (by omega), nI_clamp (by omega)]
        refine ⟨vp_in_nI (by omega) (by decide), vp_in_nI hr (by decide), jndD ⟨vp_in_nI (by omega) (by decide), ?_⟩⟩
        rintro σ2 rfl
        rw [gv_pa, gv_pa, if_pos rfl, if_pos rfl, pv_pa, show f (r.length + 1) = b from hpil.1, hpil.2.1]
        exact nxt (jnd (-c) a b :: r) _ _ rfl hw.2 (by simp only [List.length_cons]; omega) ⟨upd_same, pil_upd (Nat.le_refl _) hpil.2.2⟩ hev'
    · have hp1 := psh_neg c2
      rw [wfx, if_pos hp1] at hw
      rw [stp_p hp1, vlc, if_neg c1] at hev'
      obtain ⟨k, hk, ek⟩ := var_ix c2 (hc c List.mem_cons_self (i32_lt.mp c2))
      rw [ek, nI_clamp (by omega)] at hev'
      refine ⟨fun q => absurd q (nI_ge hw.1 (by decide)), fun _ => ⟨fun _ => ?_, fun q => absurd (i32_le.mp c1) q⟩⟩
      rw [ek]
      refine ⟨fun q => absurd q (nI_ge hk (by decide)), fun _ => ⟨vp_in_nI hk (by decide), ?_⟩⟩
      rw [nI_clamp (by omega), gv_pa, if_neg (by decide)]
      exact push _ hw.1 hw.2 hev'
theorem valD {cs : Ex} {s : Nat} (hseg : seg (gr σ 36) s cs) (hN : s + cs.length ≤ gn σ) (hgn : gn σ ≤ 7000) (hc : ∀ c ∈ cs, c ≤ -27 → -38 ≤ c) (hw : wfx 32 cs 0 1) (h : ∀ f, Q (evX (gr σ 37) cs) (pa σ 38 f)) : wX2_valueOf (nI s) (nI (s + cs.length)) σ Q := by
  refine ⟨cs.length + 1, ?_⟩
  have := valD_loop (σ := σ) hN hgn h cs s [] (gr σ 38) rfl hseg hc hw (by decide) trivial rfl
  rw [pa_self] at this
  exact this
end VD
