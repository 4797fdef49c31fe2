/-! rain, feed. -/
theorem rtW_congr {cl am cl' am' : Nat → Int32} {n : Nat} (h : ∀ j, j < n → cl j = cl' j ∧ am j = am' j) (i : Nat) : rtW cl am n i = rtW cl' am' n i := by
  induction n with
  | zero => rfl
  | succ n ih =>
    simp only [rtW]
    rw [(h n (by omega)).1, (h n (by omega)).2, ih (fun j hj => h j (by omega))]
section EE1
variable {σ : St} {Z : Int32 → St → Prop}
theorem rain_noD {x1 x2 x3 : Int32} {n F : Nat} (hn : n ≤ 7) (hF : F ≤ 400) (en : gv σ 2 4 = nI n) (eF : gv σ 3 0 = nI F) (h : x1 < 0 ∨ 240 ≤ x1 ∨ (∀ m, m < n → x2 ≠ nI m) ∨ x3 < 0 ∨ ¬ x3 ≤ 1000 ∨ F = 400) (hz : Z (-1) σ) : wX11_rain x1 x2 x3 σ Z := by
  refine ⟨fun _ => ⟨fun _ => hz, fun c => absurd rfl c⟩, fun c1 => ⟨fun _ => ⟨fun _ => hz, fun c => absurd rfl c⟩, fun c2 => ⟨fun _ => hz, fun _ => isMillD n (by omega) en (fun m hm e => ⟨fun _ => hz, fun _ => ⟨fun _ => hz, fun c3 => ⟨fun c4 => ⟨fun c5 => ?_, fun _ => hz⟩, fun _ => hz⟩⟩⟩) (fun _ => ⟨fun _ => hz, fun c => absurd rfl c⟩)⟩⟩⟩
  exfalso
  rcases h with h | h | h | h | h | h
  · exact c1 h
  · exact c2 h
  · exact h m hm e
  · exact c3 h
  · exact h c4
  · rw [eF, h] at c5
    exact absurd c5 (by decide)
theorem rain_noM {x1 x2 x3 : Int32} {n F : Nat} (hn : n ≤ 7) (hF : F ≤ 400) (en : gv σ 11 43 = nI n) (eF : gv σ 11 52 = nI F) (h : x1 < 0 ∨ 240 ≤ x1 ∨ (∀ m, m < n → x2 ≠ nI m) ∨ x3 < 0 ∨ ¬ x3 ≤ 1000 ∨ F = 400) (hz : Z (-1) σ) : wX12_rain x1 x2 x3 σ Z := by
  refine ⟨fun _ => hz, fun c0 => ⟨fun _ => hz, fun c1 => ⟨fun _ => hz, fun c2 => isMillM n (by omega) en (fun m hm e => ⟨fun _ => hz, fun _ => ⟨fun _ => hz, fun c3 => ⟨fun c4 => ?_, fun _ => hz⟩⟩⟩) (fun _ => ⟨fun _ => hz, fun c => absurd rfl c⟩)⟩⟩⟩
  exfalso
  rcases h with h | h | h | h | h | h
  · exact c1 h
  · exact c2 h
  · exact h m hm e
  · exact c3 h
  · exact h c4
  · rw [eF, h] at c0
    exact absurd rfl c0
theorem both_rain (hI : Inv σ) (x1 x2 x3 : Int32) (hZ : ∀ r σ1, (∀ Z2 : Int32 → St → Prop, (∀ σ2, Inv σ2 → Z2 r σ2) → wX12_rain x1 x2 x3 σ1 Z2) → Z r σ1) : wX11_rain x1 x2 x3 σ Z := by
  obtain ⟨Ls, hT, hM, hS, hF, hC, hR, hO, hG, hP, hp, hK, hN, hL, hk⟩ := id hI
  obtain ⟨m1, -, -, -, -, n, hn, en, hm⟩ := id hM
  obtain ⟨r1, r2, F, hF6, eF, r3⟩ := id hR
  have en' : gv σ 11 43 = nI n := by rw [← m1]; exact en
  have eF' : gv σ 11 52 = nI F := by rw [← r1]; exact eF
  by_cases hb : x1 < 0 ∨ 240 ≤ x1 ∨ (∀ m, m < n → x2 ≠ nI m) ∨ x3 < 0 ∨ ¬ x3 ≤ 1000 ∨ F = 400
  · exact rain_noD hn hF6 en eF hb (hZ _ _ (fun Z2 h2 => rain_noM hn hF6 en' eF' hb (h2 _ hI)))
  have c1 : ¬ x1 < 0 := fun q => hb (Or.inl q)
  have c2 : ¬ 240 ≤ x1 := fun q => hb (Or.inr (Or.inl q))
  have c3 : ¬ x3 < 0 := fun q => hb (Or.inr (Or.inr (Or.inr (Or.inl q))))
  have c4 : x3 ≤ 1000 := Decidable.of_not_not (fun q => hb (Or.inr (Or.inr (Or.inr (Or.inr (Or.inl q))))))
  have c5 : F < 400 := Nat.lt_of_le_of_ne hF6 (fun q => hb (Or.inr (Or.inr (Or.inr (Or.inr (Or.inr q))))))
  have c6 : ∃ m, m < n ∧ x2 = nI m := Classical.byContradiction (fun q => hb (Or.inr (Or.inr (Or.inl (fun m hm e => q ⟨m, hm, e⟩)))))
  obtain ⟨m, hm1, rfl⟩ := c6
  obtain ⟨h, hh, rfl⟩ := nI_of c1
  have hh2 : h < 240 := Nat.not_le.mp (fun q => c2 ((nI_leI (a := 240) (by decide) hh).mpr q))
  obtain ⟨v, hv1, rfl⟩ := nI_of2 (x := x3) (M := 1000) (n := 1000) (by decide) c3 c4
  have c7 : gv σ 3 0 < 400 := by rw [eF]; exact nI_lt c5 (by decide)
  have hv : vp_in (gv σ 3 0) 400 := by rw [eF]; exact vp_in_nI c5 (by decide)
  have hcl : (gv σ 3 0).toNatClampNeg = F := by rw [eF]; exact nI_clamp (by omega)
  have hp1 : gv σ 3 0 + 1 = nI (F + 1) := by rw [eF]; exact nI_1 F
  have hpm : nI (F + 1) - 1 = nI F := nI_pred F
  have hx : nI h * 7 + nI m = nI (7 * h + m) := by
    rw [show (7 : Int32) = nI 7 from rfl, pk_mul, nI_add, Nat.mul_comm h 7]
  have cd : ¬ gv σ 2 4 ≤ nI m := by rw [en]; exact nI_ge hm1 (by omega)
  have cd' : ¬ gv σ 11 43 ≤ nI m := by rw [en']; exact nI_ge hm1 (by omega)
  have cm : ¬ nI m < 0 := nI_pos (by omega)
  have c8 : ¬ gv σ 11 52 = 400 := by
    rw [eF', show (400 : Int32) = nI 400 from rfl, nI_eq (by omega) (by decide)]
    omega
  simp only [wX11_rain, wX11_isHour, wX11_isMill, wX6_add, z10, c1, c2, c3, c4, c7, cd, cm, hx, forall_eq, gv_pv, true_implies, false_implies, not_true_eq_false, not_false_eq_true, and_true, true_and, Nat.reduceEqDiff, false_and, and_false, if_false, and_self, if_true, hv, hcl, hp1, hpm]
  refine hZ _ _ (fun Z2 h2 => ?_)
  have hv' : vp_in (gv σ 11 52) 400 := by rw [← r1]; exact hv
  have hcl' : (gv σ 11 52).toNatClampNeg = F := by rw [← r1]; exact hcl
  have hp1' : gv σ 11 52 + 1 = nI (F + 1) := by rw [← r1]; exact hp1
  simp only [wX12_rain, wX12_isMill, z10, c1, c2, c3, c4, c8, cd', cm, forall_eq, gv_pv, true_implies, false_implies, not_true_eq_false, not_false_eq_true, and_true, true_and, Nat.reduceEqDiff, false_and, and_false, if_false, and_self, if_true, hv', hcl', hp1', hpm]
  refine h2 _ ⟨Ls, ?_⟩
  have hup : ∀ j, j < F → upd (gr σ 17) F (nI (7 * h + m)) j = gr σ 17 j ∧ upd (gr σ 18) F (nI v) j = gr σ 18 j := fun j hj => ⟨upd_ne (by omega), upd_ne (by omega)⟩
  have hR' : IvR (nI (F + 1)) (nI (F + 1)) (gv σ 2 4) (upd (gr σ 17) F (nI (7 * h + m))) (upd (gr σ 18) F (nI v)) (upd (gr σ 78) F (nI h)) (upd (gr σ 79) F (nI m)) (upd (gr σ 80) F (nI v)) := by
    refine ⟨rfl, by rw [r2], F + 1, by omega, rfl, fun j hj => ?_⟩
    by_cases hjF : j = F
    · subst hjF
      exact ⟨h, m, v, hh2, by rw [en, nI_clamp (by omega)]; exact hm1, hv1, upd_same, upd_same, upd_same, upd_same⟩
    · rw [upd_ne hjF, upd_ne hjF, upd_ne hjF, upd_ne hjF]
      exact r3 j (by omega)
  have hF1 : (nI (F + 1)).toNatClampNeg = F + 1 := nI_clamp (by omega)
  have hK' : IvK (gv σ 3 4) (nI (F + 1)) (upd (gr σ 17) F (nI (7 * h + m))) (upd (gr σ 18) F (nI v)) (gr σ 19) := by
    obtain ⟨K, k1, k2, k3⟩ := hK
    rw [hcl] at k2
    refine ⟨K, k1, by omega, fun i hi => ?_⟩
    rw [k3 i hi]
    exact rtW_congr (fun j hj => ⟨(hup j (by omega)).1.symm, (hup j (by omega)).2.symm⟩) i
  have hN' : IvN Ls (gv σ 11 66) (gv σ 11 67) (nI (F + 1)) (gv σ 2 4) (gv σ 2 5) (gv σ 2 6) (gv σ 4 4) (gr σ 12) (gr σ 13) (gr σ 15) (gr σ 16) (upd (gr σ 17) F (nI (7 * h + m))) (upd (gr σ 18) F (nI v)) (gr σ 20) (gr σ 21) (gr σ 22) (gr σ 23) (gr σ 88) (gr σ 89) (gr σ 90) := by
    rcases hN with q | ⟨N, q1, q2, q3, q4, q5⟩
    · exact Or.inl q
    · rw [hcl] at q2
      have e : ∀ i, rtW (upd (gr σ 17) F (nI (7 * h + m))) (upd (gr σ 18) F (nI v)) N i = rtW (gr σ 17) (gr σ 18) N i := fun i => rtW_congr (fun j hj => hup j (by omega)) i
      refine Or.inr ⟨N, q1, by omega, ?_, fun i hi => by rw [e]; exact q4 i hi, q5⟩
      simp only [simO, e]
      exact q3
  simpa [gv_pv, gr_pv, gw_pv, gn_pv] using ⟨hT, hM, hS, hF, hC, hR', hO, hG, hP, hp, hK', hN', hL, hk⟩
end EE1
/-! feed -/
theorem pv_comm {σ : St} {a i b j : Nat} {x y : Int32} (h : a ≠ b) : pv (pv σ a i x) b j y = pv (pv σ b j y) a i x := by
  refine Prod.ext ?_ rfl
  funext k l
  have e1 : gv (pv (pv σ a i x) b j y) k l = gv (pv (pv σ b j y) a i x) k l := by
    simp only [gv_pv]
    by_cases h1 : k = a ∧ l = i
    · have h2 : ¬ (k = b ∧ l = j) := fun q => h (h1.1.symm.trans q.1)
      rw [if_neg h2, if_pos h1, if_pos h1]
    · rw [if_neg h1, if_neg h1]
  exact e1
theorem pv_same {σ : St} {a i : Nat} {x y : Int32} : pv (pv σ a i x) a i y = pv σ a i y := by
  show pa (pa σ a (upd (gr σ a) i x)) a (upd (gr (pa σ a (upd (gr σ a) i x)) a) i y) = pa σ a (upd (gr σ a) i y)
  rw [pa_pa, gr_pa_eq]
  congr 1
  funext k
  unfold upd
  by_cases h : k = i <;> simp [h]
theorem pv_self {σ : St} {a i : Nat} {x : Int32} (h : gv σ a i = x) : pv σ a i x = σ := by
  show pa σ a (upd (gr σ a) i x) = σ
  have e : upd (gr σ a) i x = gr σ a := by
    funext k
    unfold upd
    by_cases hk : k = i
    · rw [if_pos hk, hk, ← h]
      rfl
    · rw [if_neg hk]
  rw [e, pa_self]
def byF (w x : Int32) : Int32 := vp_nar .byte ((w >>> (x &&& 31)).toInt8.toInt32)
def apF (f : Nat → Int32) (t : Nat) (w : Int32) : Nat → Int32 := upd (upd (upd (upd f t (byF w 24)) (t + 1) (byF w 16)) (t + 2) (byF w 8)) (t + 3) (byF w 0)
section EE2
variable {σ : St} {Q : St → Prop}
theorem ap_stepD {f : Nat → Int32} {s n : Nat} {w x : Int32} (hs : s < 2000) (hx : ¬ x < 0) (h : wX8_append_3 Q n w (x + (-8)) (pv (pa σ 24 (upd f s (byF w x))) 6 0 (nI (s + 1)))) : wX8_append_3 Q (n + 1) w x (pv (pa σ 24 f) 6 0 (nI s)) := by
  have e : gv (pv (pa σ 24 f) 6 0 (nI s)) 6 0 = nI s := by simp [gv_pv]
  refine ⟨fun c => absurd c hx, fun _ => ⟨fun c => ?_, fun _ => ⟨?_, ?_⟩⟩⟩
  · rw [e] at c
    exact absurd c (nI_ge hs (by decide))
  · rw [e]
    exact vp_in_nI hs (by decide)
  rintro σ4 rfl σ5 rfl x2 rfl
  rw [e, nI_clamp (by omega)]
  have e2 : gv (pv (pv (pa σ 24 f) 6 0 (nI s)) 24 s (byF w x)) 6 0 = nI s := by simp [gv_pv]
  show wX8_append_3 Q n w (x + (-8)) (pv (pv (pv (pa σ 24 f) 6 0 (nI s)) 24 s (byF w x)) 6 0 (gv (pv (pv (pa σ 24 f) 6 0 (nI s)) 24 s (byF w x)) 6 0 + 1))
  rw [e2, nI_1, pv_comm (by decide), pv_same, pv_comm (by decide), pv_pa]
  exact h
theorem ap_D {f : Nat → Int32} {s : Nat} {w : Int32} (hs : s + 4 ≤ 2000) (h : Q (pv (pa σ 24 (apF f s w)) 6 0 (nI (s + 4)))) : wX8_append w (pv (pa σ 24 f) 6 0 (nI s)) Q := by
  refine ⟨5, ap_stepD (by omega) (by decide) (ap_stepD (by omega) (by decide) (ap_stepD (by omega) (by decide) (ap_stepD (by omega) (by decide) ⟨fun _ => ?_, fun c => absurd (by decide) c⟩)))⟩
  exact h
theorem ap_stepM {f : Nat → Int32} {s n : Nat} {w x : Int32} (hs : s < 2000) (hx : ¬ x < 0) (h : wX12_put_3 Q n w (x + (-8)) (pv (pa σ 48 (upd f s (byF w x))) 11 2 (nI (s + 1)))) : wX12_put_3 Q (n + 1) w x (pv (pa σ 48 f) 11 2 (nI s)) := by
  have e : gv (pv (pa σ 48 f) 11 2 (nI s)) 11 2 = nI s := by simp [gv_pv]
  refine ⟨fun c => absurd c hx, fun _ => ⟨?_, ?_⟩⟩
  · rw [e]
    exact vp_in_nI hs (by decide)
  rintro σ4 rfl σ5 rfl x2 rfl
  rw [e, nI_clamp (by omega)]
  have e2 : gv (pv (pv (pa σ 48 f) 11 2 (nI s)) 48 s (byF w x)) 11 2 = nI s := by simp [gv_pv]
  show wX12_put_3 Q n w (x + (-8)) (pv (pv (pv (pa σ 48 f) 11 2 (nI s)) 48 s (byF w x)) 11 2 (gv (pv (pv (pa σ 48 f) 11 2 (nI s)) 48 s (byF w x)) 11 2 + 1))
  rw [e2, nI_1, pv_comm (by decide), pv_same, pv_comm (by decide), pv_pa]
  exact h
theorem ap_M {f : Nat → Int32} {s : Nat} {w : Int32} (hs : s + 4 ≤ 2000) (h : Q (pv (pa σ 48 (apF f s w)) 11 2 (nI (s + 4)))) : wX12_put w (pv (pa σ 48 f) 11 2 (nI s)) Q := by
  refine ⟨5, ap_stepM (by omega) (by decide) (ap_stepM (by omega) (by decide) (ap_stepM (by omega) (by decide) (ap_stepM (by omega) (by decide) ⟨fun _ => ?_, fun c => absurd (by decide) c⟩)))⟩
  exact h
end EE2
def fdF (f : Nat → Int32) (t : Nat) (a b c d e : Int32) : Nat → Int32 := apF (apF (apF (apF (apF f t a) (t + 4) b) (t + 8) c) (t + 12) d) (t + 16) e
theorem both_feed {σ : St} {Z : Int32 → St → Prop} (hI : Inv σ) (a b c d e : Int32) (hZ : ∀ r σ1, (∀ Z2 : Int32 → St → Prop, (∀ σ2, Inv σ2 → Z2 r σ2) → wX12_feed a b c d e σ1 Z2) → Z r σ1) : wX11_feed a b c d e σ Z := by
  obtain ⟨Ls, hT, hM, hS, hF, hC, hR, hO, hG, hP, hp, hK, hN, hL, hk⟩ := id hI
  obtain ⟨t1, t2, t, ht, et⟩ := id hT
  have et' : gv σ 11 2 = nI t := by rw [← t1]; exact et
  have z20 : (20 : Int32) = nI 20 := rfl
  have zz : (2000 : Int32) = nI 2000 := rfl
  refine ⟨fun c1 => ?_, fun c1 => hZ _ _ (fun Z2 h2 => ⟨fun c2 => ?_, fun _ => h2 _ hI⟩)⟩
  · have hc := c1
    rw [et, z20, nI_add, zz, nI_leI (by omega) (by decide)] at hc
    have eD : σ = pv (pa σ 24 (gr σ 24)) 6 0 (nI t) := by rw [pa_self, pv_self et]
    rw [eD]
    refine ap_D (by omega) (ap_D (by omega) (ap_D (by omega) (ap_D (by omega) (ap_D (by omega) ?_))))
    obtain ⟨τ, eτ⟩ : ∃ τ, τ = pv (pa σ 24 (fdF (gr σ 24) t a b c d e)) 6 0 (nI (t + 20)) := ⟨_, rfl⟩
    show Z (gv (pv (pa σ 24 (fdF (gr σ 24) t a b c d e)) 6 0 (nI (t + 20))) 6 0) (pv (pa σ 24 (fdF (gr σ 24) t a b c d e)) 6 0 (nI (t + 20)))
    rw [← eτ]
    have e6 : gv τ 6 0 = nI (t + 20) := by rw [eτ]; simp [gv_pv]
    rw [e6]
    refine hZ _ _ (fun Z2 h2 => ?_)
    have g1 : gv τ 11 2 = nI t := by rw [eτ]; simp [gv_pv, gv_pa, et']
    have g2 : gr τ 48 = gr σ 48 := by rw [eτ]; simp [gr_pv, gr_pa]
    have eM : τ = pv (pa τ 48 (gr τ 48)) 11 2 (nI t) := by rw [pa_self, pv_self g1]
    refine ⟨fun _ => ?_, fun c2 => ?_⟩
    · rw [eM]
      refine ap_M (by omega) (ap_M (by omega) (ap_M (by omega) (ap_M (by omega) (ap_M (by omega) ?_))))
      show Z2 (gv (pv (pa τ 48 (fdF (gr τ 48) t a b c d e)) 11 2 (nI (t + 20))) 11 2) (pv (pa τ 48 (fdF (gr τ 48) t a b c d e)) 11 2 (nI (t + 20)))
      have e7 : gv (pv (pa τ 48 (fdF (gr τ 48) t a b c d e)) 11 2 (nI (t + 20))) 11 2 = nI (t + 20) := by simp [gv_pv]
      rw [e7]
      refine h2 _ ⟨Ls, ?_⟩
      rw [g2, eτ]
      have hT' : IvT (nI (t + 20)) (nI (t + 20)) (fdF (gr σ 24) t a b c d e) (fdF (gr σ 48) t a b c d e) := ⟨rfl, by rw [t2], t + 20, by omega, rfl⟩
      simpa [gv_pv, gr_pv, gw_pv, gn_pv, gv_pa, gr_pa, gw_pa, gn_pa] using ⟨hT', hM, hS, hF, hC, hR, hO, hG, hP, hp, hK, hN, hL, hk⟩
    · rw [g1] at c2
      rw [et] at c1
      exact absurd c1 c2
  · rw [et'] at c2
    rw [et] at c1
    exact absurd c2 c1
