/-! plan: the reference's loop. -/
def LpM (σ : St) (O F n H d : Nat) (r : Rw) (tr : Nat → Int32) (ws wk : Int32) (τ0 τ : St) : Prop := Fm (xMp d) τ0 τ ∧ (∀ j, j < 70 * (H + d) → gv τ 88 j = gv τ0 88 j) ∧ PmOk σ O F τ ∧ LvM n (H + d) r τ ∧ (∀ i, i < d → gv τ 94 i = tr i) ∧ gv τ 96 d = wk ∧ gv τ 97 d = ws
section PL
variable {σ : St} {Ls : List Ru} {n O F mm k M mw H : Nat} {need : Int32}
theorem LvM.kp {h : Nat} {r : Rw} {τ τ' : St} (hn : n ≤ 7) (l : LvM n h r τ) (g : ∀ j, j < 70 * (h + 1) → gv τ' 88 j = gv τ 88 j) : LvM n h r τ' := by
  obtain ⟨l1, l2, l3⟩ := l
  exact ⟨fun m hm => (g _ (by omega)).trans (l1 m hm), fun z m hm => (g _ (by omega)).trans (l2 z m hm), l3⟩
theorem LpM.su {d : Nat} {r : Rw} {tr : Nat → Int32} {ws wk : Int32} {τ0 τ τ' : St} (hn : n ≤ 7) (h : LpM σ O F n H d r tr ws wk τ0 τ) (f : Fm (xMp (d + 1)) τ τ') (g : ∀ j, j < 70 * (H + d + 1) → gv τ' 88 j = gv τ 88 j) : LpM σ O F n H d r tr ws wk τ0 τ' ∧ gv τ' 94 d = gv τ 94 d := by
  obtain ⟨h1, h2, h3, h4, h5, h6, h7⟩ := h
  refine ⟨⟨h1.tr (f.mono (fun _ _ q => ?_)), fun j hj => (g j (by omega)).trans (h2 j hj), h3.mp f, h4.kp hn (fun j hj => g j hj), fun i hi => ?_, ?_, ?_⟩, ?_⟩
  · exact xMp_su q
  · rw [f.2 94 i (by simp [xMp, xP]; omega)]
    exact h5 i hi
  · rw [f.2 96 d (by simp [xMp, xP]; omega)]
    exact h6
  · rw [f.2 97 d (by simp [xMp, xP]; omega)]
    exact h7
  · exact f.2 94 d (by simp [xMp, xP])
theorem plM_loop {Q : Int32 → St → Prop} {J : Nat} (h76 : gr σ 15 = gr σ 76) (Bn : Bun σ Ls n O F) (hmm : mm < n) (hk : k ≤ 6) (hH : H + k ≤ 240) (hM : M ≤ 800) (hB : StB (stP σ Ls O F mm) mm mw M (WtOk (cfD σ Ls))) (hmw : mw ≤ 4) (e75 : gv σ 75 mm = nI mw) (eH : gv σ 11 51 = nI H) {e d : Nat} (hd : d + (e + 1) = k) {r : Rw} {ws wk : Int32} {tr : Nat → Int32} (hr : WtOk (cfD σ Ls) r) (a0 : 0 ≤ ws.toInt) (a1 : ws.toInt ≤ 50000 * d) (b0 : -800 * (d : Int) ≤ wk.toInt) (b1 : wk.toInt ≤ 800 * d) {τ0 : St} {RES : PB}
    (hrec : ∀ (r : Rw) (ws wk : Int32) (tr : Nat → Int32) (b : PB) (best : Int32) (τ : St) (J : Nat), 0 < e → PmOk σ O F τ → LvM n (H + (d + 1)) r τ → WtOk (cfD σ Ls) r → 0 ≤ ws.toInt → ws.toInt ≤ 50000 * ((d + 1 : Nat) : Int) → -800 * ((d + 1 : Nat) : Int) ≤ wk.toInt → wk.toInt ≤ 800 * ((d + 1 : Nat) : Int) → (∀ i, i < d + 1 → gv τ 94 i = tr i) → gv τ 94 (d + 1) = -1 → gv τ 96 (d + 1) = wk → gv τ 97 (d + 1) = ws → EnM σ k best τ b →
      (∀ τ' best', Fm (xMp (d + 1)) τ τ' → (∀ j, j < 70 * (H + (d + 1)) → gv τ' 88 j = gv τ 88 j) → EnM σ k best' τ' (plE (stP σ Ls O F mm) (gdP σ Ls n) mm mw need e (d + 1) (H + (d + 1)) r ws wk tr b).2 → wX12_plan_71 Q J (nI mm) (nI k) need best' (nI (d + 1) + -1) τ') →
      wX12_plan_71 Q (J + (plE (stP σ Ls O F mm) (gdP σ Ls n) mm mw need e (d + 1) (H + (d + 1)) r ws wk tr b).1) (nI mm) (nI k) need best (nI (d + 1)) τ)
    (hQ : ∀ τ' best', Fm (xMp d) τ0 τ' → (∀ j, j < 70 * (H + d) → gv τ' 88 j = gv τ0 88 j) → EnM σ k best' τ' RES → wX12_plan_71 Q J (nI mm) (nI k) need best' (nI d + -1) τ') :
    ∀ (c w : Nat) (b : PB) (best : Int32) (τ : St), w + c = mw + 1 → LpM σ O F n H d r tr ws wk τ0 τ → gv τ 94 d + 1 = nI w → EnM σ k best τ b → (plL (stP σ Ls O F mm) (gdP σ Ls n) mm (plE (stP σ Ls O F mm) (gdP σ Ls n) mm mw need e (d + 1) (H + d + 1)) d (H + d) r ws wk tr c w b).2 = RES →
      wX12_plan_71 Q (J + (plL (stP σ Ls O F mm) (gdP σ Ls n) mm (plE (stP σ Ls O F mm) (gdP σ Ls n) mm mw need e (d + 1) (H + d + 1)) d (H + d) r ws wk tr c w b).1) (nI mm) (nI k) need best (nI d) τ := by
  obtain ⟨hF4, hn, hO⟩ := BunF Bn
  have hd6 : d < 6 := by omega
  have v6 : vp_in (nI d) 6 := vp_in_nI hd6 (by decide)
  have v7 : vp_in (nI d) 7 := vp_in_nI (by omega) (by decide)
  have v71 : vp_in (nI (d + 1)) 7 := vp_in_nI (by omega) (by decide)
  have vm : vp_in (nI mm) 7 := vp_in_nI (by omega) (by decide)
  have cm : (nI mm).toNatClampNeg = mm := nI_clamp (by omega)
  have cd : (nI d).toNatClampNeg = d := nI_clamp (by omega)
  have cd1 : (nI (d + 1)).toNatClampNeg = d + 1 := nI_clamp (by omega)
  have r94 : ∀ τ w, gv (pv τ 94 d (nI w)) 94 d = nI w := fun τ w => by rw [gv_pv, if_pos ⟨rfl, rfl⟩]
  have r75 : ∀ τ w, PmOk σ O F τ → gv (pv τ 94 d (nI w)) 75 mm = nI mw := fun τ w P => by
    rw [gv_pv, if_neg (by omega), P.1.2 75 mm rfl]
    exact e75
  intro c
  induction c with
  | zero =>
    intro w b best τ hw L hw94 E hR
    have hR : b = RES := hR
    have P := L.2.2.1
    show wX12_plan_71 Q (J + 1) (nI mm) (nI k) need best (nI d) τ
    rw [wX12_plan_71, cd, cm, hw94]
    refine ⟨fun c => absurd c (nI_pos (by omega)), fun _ => ⟨v6, v6, ?_⟩⟩
    rintro σ4 rfl
    rw [r94, r75 _ _ P]
    refine ⟨v6, vm, fun c => absurd c (nI_ge (by omega) (by omega)), fun _ => ?_⟩
    rintro x5 rfl
    rw [hR] at E
    refine hQ _ _ (L.1.tr (Fm_pv (by simp [xMp]))) (fun j hj => ?_) (E.fm (Fm_pv (X := fun a _ => a == 94) rfl) rfl (fun _ => rfl))
    rw [gv_pv, if_neg (by omega)]
    exact L.2.1 j hj
  | succ c ih =>
    intro w b best τ hw L hw94 E hR
    have P := L.2.2.1
    have hok := hB (H + d) w r (by omega) hr
    obtain ⟨u1, u2⟩ := wsB hB (h := H + d) (w := w) (by omega) hr a0 a1 (by omega)
    obtain ⟨w1, w2, w3⟩ := wkB hB hM (h := H + d) (w := w) (by omega) hr b0 b1 (by omega)
    rw [plL] at hR ⊢
    suffices hs : ∀ N : Nat, (blt (wsP (stP σ Ls O F mm) mm (H + d) w r ws) b = false → N = J + (plL (stP σ Ls O F mm) (gdP σ Ls n) mm (plE (stP σ Ls O F mm) (gdP σ Ls n) mm mw need e (d + 1) (H + d + 1)) d (H + d) r ws wk tr c (w + 1) b).1 ∧ (plL (stP σ Ls O F mm) (gdP σ Ls n) mm (plE (stP σ Ls O F mm) (gdP σ Ls n) mm mw need e (d + 1) (H + d + 1)) d (H + d) r ws wk tr c (w + 1) b).2 = RES) →
        (blt (wsP (stP σ Ls O F mm) mm (H + d) w r ws) b = true → gdP σ Ls n (H + d) (stP σ Ls O F mm (H + d) w r) = false → N = J + (plL (stP σ Ls O F mm) (gdP σ Ls n) mm (plE (stP σ Ls O F mm) (gdP σ Ls n) mm mw need e (d + 1) (H + d + 1)) d (H + d) r ws wk tr c (w + 1) b).1 ∧ (plL (stP σ Ls O F mm) (gdP σ Ls n) mm (plE (stP σ Ls O F mm) (gdP σ Ls n) mm mw need e (d + 1) (H + d + 1)) d (H + d) r ws wk tr c (w + 1) b).2 = RES) →
        (blt (wsP (stP σ Ls O F mm) mm (H + d) w r ws) b = true → gdP σ Ls n (H + d) (stP σ Ls O F mm (H + d) w r) = true → ∀ p, p = plE (stP σ Ls O F mm) (gdP σ Ls n) mm mw need e (d + 1) (H + d + 1) (stP σ Ls O F mm (H + d) w r) (wsP (stP σ Ls O F mm) mm (H + d) w r ws) (wkP (stP σ Ls O F mm) mm (H + d) w r wk) (upd tr d (nI w)) b → N = J + (plL (stP σ Ls O F mm) (gdP σ Ls n) mm (plE (stP σ Ls O F mm) (gdP σ Ls n) mm mw need e (d + 1) (H + d + 1)) d (H + d) r ws wk tr c (w + 1) p.2).1 + p.1 ∧ (plL (stP σ Ls O F mm) (gdP σ Ls n) mm (plE (stP σ Ls O F mm) (gdP σ Ls n) mm mw need e (d + 1) (H + d + 1)) d (H + d) r ws wk tr c (w + 1) p.2).2 = RES) →
        wX12_plan_71 Q (N + 1) (nI mm) (nI k) need best (nI d) τ by
      by_cases z : (blt (wsP (stP σ Ls O F mm) mm (H + d) w r ws) b && gdP σ Ls n (H + d) (stP σ Ls O F mm (H + d) w r)) = true
      · rw [if_pos z] at hR ⊢
        rw [Bool.and_eq_true] at z
        rw [← Nat.add_assoc]
        refine hs _ (fun q => ?_) (fun _ q => ?_) (fun _ _ p hp => ?_)
        · rw [q] at z; cases z.1
        · rw [q] at z; cases z.2
        · rw [hp]
          exact ⟨by omega, hR⟩
      · rw [if_neg z] at hR ⊢
        rw [← Nat.add_assoc]
        refine hs _ (fun _ => ⟨rfl, hR⟩) (fun _ _ => ⟨rfl, hR⟩) (fun q1 q2 => ?_)
        rw [q1, q2] at z
        exact absurd rfl z
    intro N hN0 hN1 hN2
    rw [wX12_plan_71, cd, cm, hw94]
    refine ⟨fun c => absurd c (nI_pos (by omega)), fun _ => ⟨v6, v6, ?_⟩⟩
    rintro σ4 rfl
    have f4 : Fm (xMp d) τ (pv τ 94 d (nI w)) := Fm_pv (by simp [xMp])
    have P4 := P.mp f4
    have L4 : LvM n (H + d) r (pv τ 94 d (nI w)) := L.2.2.2.1.kp hn (fun j _ => by rw [gv_pv, if_neg (by omega)])
    have e51 : gv (pv τ 94 d (nI w)) 11 51 = nI H := (P4.1.2 11 51 rfl).trans eH
    rw [r94, r75 _ _ P, e51, nI_add, nI_1]
    refine ⟨v6, vm, fun _ => ?_, fun c => absurd (nI_le (show w ≤ mw by omega) (by omega)) c⟩
    rintro x6 rfl
    refine ⟨v6, pstepM h76 Bn (show H + d < 240 by omega) hmm (by omega) P4 L4 (fun τ1 f1 q1 q2 q3 => ?_)⟩
    rintro x7 rfl
    have nx : ∀ (j : Nat) (y : Int32), y = nI j → nI (10 * (7 * (H + d) + mm)) + y = nI (10 * (7 * (H + d) + mm) + j) := fun j y hy => by rw [hy, nI_add]
    rw [ixN, nx 6 6 rfl, nx 7 7 rfl, nx 8 8 rfl, cd1, nI_clamp (show 10 * (7 * (H + d) + mm) + 6 < 2 ^ 31 by omega), nI_clamp (show 10 * (7 * (H + d) + mm) + 7 < 2 ^ 31 by omega), nI_clamp (show 10 * (7 * (H + d) + mm) + 8 < 2 ^ 31 by omega)]
    have f1m : Fm (xMp d) (pv τ 94 d (nI w)) τ1 := f1.mono (fun _ _ q => xP_Mp q)
    have t96 : gv τ1 96 d = wk := by
      rw [f1.2 96 d rfl, gv_pv, if_neg (by omega)]
      exact L.2.2.2.2.2.1
    have t97 : gv τ1 97 d = ws := by
      rw [f1.2 97 d rfl, gv_pv, if_neg (by omega)]
      exact L.2.2.2.2.2.2
    have vx : ∀ j, j < 10 → vp_in (nI (10 * (7 * (H + d) + mm) + j)) 16800 := fun j hj => vp_in_nI (by omega) (by decide)
    refine ⟨v7, vx 6 (by decide), v71, ?_⟩
    intro σ16 e16
    rw [t96, q1 6 mm (by decide) hmm] at e16
    have e16 : σ16 = pv τ1 96 (d + 1) (wkP (stP σ Ls O F mm) mm (H + d) w r wk) := e16
    refine ⟨v7, vx 7 (by decide), vx 8 (by decide), v71, ?_⟩
    intro σ21 e21
    have e21 : σ21 = pv σ16 97 (d + 1) (wsP (stP σ Ls O F mm) mm (H + d) w r ws) := by
      rw [e21, e16, gv_pv, if_neg (by omega), gv_pv, if_neg (by omega), gv_pv, if_neg (by omega), t97, q1 7 mm (by decide) hmm, q1 8 mm (by decide) hmm]
      rfl
    have fx : Fm (fun a j => (a == 96 && j == d + 1) || (a == 97 && j == d + 1)) τ1 σ21 := by
      rw [e21, e16]
      exact (Fm_pv (by simp)).tr (Fm_pv (by simp))
    have fxm : Fm (xMp d) τ1 σ21 := fx.mono (fun a j q => by
      unfold xMp at q
      simp only [Bool.or_eq_false_iff, Bool.and_eq_false_iff, decide_eq_false_iff_not, beq_eq_false_iff_ne] at q ⊢
      omega)
    have g88 : ∀ j, gv σ21 88 j = gv τ1 88 j := fun j => fx.2 88 j (by simp)
    have fT : Fm (xMp d) τ0 σ21 := ((L.1.tr f4).tr f1m).tr fxm
    have P21 := (P4.mp f1m).mp fxm
    have g94 : ∀ i, i < d + 1 → gv σ21 94 i = upd tr d (nI w) i := fun i hi => by
      rw [fx.2 94 i (by simp), f1.2 94 i rfl, gv_pv]
      by_cases q : i = d
      · rw [if_pos ⟨rfl, q⟩, q, upd_same]
      · rw [if_neg (fun z => q z.2), upd_ne q]
        exact L.2.2.2.2.1 i (by omega)
    have Lv1 : LvM n (H + d) r σ21 := by
      obtain ⟨l1, l2, l3⟩ := L4
      refine ⟨fun m hm => ?_, fun z m hm => ?_, l3⟩
      · rw [g88]
        exact q1 0 m (by decide) hm
      · rw [g88, q3 _ (by omega)]
        exact l2 z m hm
    have L21 : LpM σ O F n H d r tr ws wk τ0 σ21 := by
      refine ⟨fT, fun j hj => ?_, P21, Lv1, fun i hi => ?_, ?_, ?_⟩
      · rw [g88, q3 j hj, gv_pv, if_neg (by omega)]
        exact L.2.1 j hj
      · rw [g94 i (by omega), upd_ne (by omega)]
      · rw [fx.2 96 d (by simp), t96]
      · rw [fx.2 97 d (by simp), t97]
    have E21 : EnM σ k best σ21 b := (((E.fm (Fm_pv (X := fun a _ => a == 94) rfl) rfl (fun _ => rfl)).fm f1 rfl (fun _ => rfl)).fm fx (by simp) (fun _ => by simp))
    have g97 : gv σ21 97 (d + 1) = wsP (stP σ Ls O F mm) mm (H + d) w r ws := by rw [e21, gv_pv, if_pos ⟨rfl, rfl⟩]
    have g96 : gv σ21 96 (d + 1) = wkP (stP σ Ls O F mm) mm (H + d) w r wk := by rw [e21, gv_pv, if_neg (by omega), e16, gv_pv, if_pos ⟨rfl, rfl⟩]
    have nxt : ∀ b' best' τ', Fm (xMp (d + 1)) σ21 τ' → (∀ j, j < 70 * (H + d + 1) → gv τ' 88 j = gv σ21 88 j) → EnM σ k best' τ' b' → ∀ N', N' = J + (plL (stP σ Ls O F mm) (gdP σ Ls n) mm (plE (stP σ Ls O F mm) (gdP σ Ls n) mm mw need e (d + 1) (H + d + 1)) d (H + d) r ws wk tr c (w + 1) b').1 ∧ (plL (stP σ Ls O F mm) (gdP σ Ls n) mm (plE (stP σ Ls O F mm) (gdP σ Ls n) mm mw need e (d + 1) (H + d + 1)) d (H + d) r ws wk tr c (w + 1) b').2 = RES → wX12_plan_71 Q N' (nI mm) (nI k) need best' (nI d) τ' := by
      intro b' best' τ' f' g' E' N' hN'
      obtain ⟨L', z⟩ := L21.su hn f' g'
      rw [hN'.1]
      refine ih (w + 1) b' best' τ' (by omega) L' ?_ E' hN'.2
      rw [z, g94 d (by omega), upd_same, nI_1]
    rw [g97]
    have fin := EnM_blt (x := wsP (stP σ Ls O F mm) mm (H + d) w r ws) (C := wX12_plan_71 Q N (nI mm) (nI k) need best (nI d) σ21) (A := wX12_plan_229 Q (fun x1' x2' x3' x4' x5' σ' => wX12_plan_71 Q N x1' x2' x3' x4' x5' σ') (nI mm) (nI k) need best (nI d) (nI (H + d)) σ21) E21 (fun hb => ?_) (fun hb => nxt b best σ21 Fm.rf (fun _ _ => rfl) E21 N (hN0 hb))
    · exact ⟨fin.1, fun c => ⟨v71, fin.2 c⟩⟩
    · have hgd : ∀ x, fdM (bkW (cfD σ Ls) (stP σ Ls O F mm (H + d) w r) (H + d)) Ls.length n 0 0 = x → (x = -1 → gdP σ Ls n (H + d) (stP σ Ls O F mm (H + d) w r) = true) ∧ (x ≠ -1 → gdP σ Ls n (H + d) (stP σ Ls O F mm (H + d) w r) = false) := fun x hx => ⟨fun q => decide_eq_true (hx.trans q), fun q => decide_eq_false (fun z => q (hx.symm.trans z))⟩
      have ec : cfM σ21 Ls = cfD σ Ls := by
        rw [cfM_fm P21.1 (fun j hj => by rcases hj with rfl | rfl | rfl <;> rfl) (fun a j h1 h2 => xQ_no (by omega) (by omega)), Bn.2.2.2.1]
      have eN : gv σ21 11 43 = nI n := (P21.1.2 11 43 rfl).trans Bn.2.2.1.2.2.1
      have hLw : LwM σ21 Ls := Bn.2.2.1.1.fm P21.1 rfl (fun a j h1 h2 => xQ_no (by omega) (by omega))
      have f92 : ∀ f, Fm (fun a _ => a == 92) σ21 (pa σ21 92 f) := fun f => Fm_pa (fun _ => rfl)
      have m92 : ∀ f, Fm (xMp (d + 1)) σ21 (pa σ21 92 f) := fun f => Fm_pa (fun _ => by simp [xMp, xP])
      refine goodM hLw hn (show H + d < 240 by omega) eN (fun i m' hi hm' => (g88 _).trans (q1 i m' hi hm')) (RES := fdM (bkW (cfD σ Ls) (stP σ Ls O F mm (H + d) w r) (H + d)) Ls.length n 0 0) (by rw [ec]) (fun f hx => ⟨fun _ => ?_, fun c => absurd rfl c⟩) (fun f hx => ⟨z11, fun _ => ?_⟩)
      · exact nxt b best _ (m92 f) (fun j _ => pa_92 (by decide)) (E21.fm (f92 f) rfl (fun _ => rfl)) N (hN1 hb ((hgd _ rfl).2 hx))
      · obtain ⟨hN, hRR⟩ := hN2 hb ((hgd _ rfl).1 hx) _ rfl
        have E92 : EnM σ k best (pa σ21 92 f) b := E21.fm (f92 f) rfl (fun _ => rfl)
        by_cases he : e = 0
        · subst he
          have hdk : d + 1 = k := by omega
          rw [plE] at hN hRR
          dsimp only at hN hRR
          rw [Nat.add_zero] at hN
          refine ⟨fun _ => ?_, fun c => absurd (by rw [nI_1]; exact nI_le (by omega) (by omega)) c⟩
          rw [nI_clamp (show k < 2 ^ 31 by omega), ← hdk, pa_92 (by decide), pa_92 (by decide), g96, g97]
          refine ⟨v71, fun c1 => ⟨v71, ?_⟩, fun c1 => ?_⟩
          · rw [if_pos c1] at hN hRR
            rintro x4 rfl σ9 rfl
            rw [hdk]
            refine ⟨k + 1, keepM hk (fun τ2 f2 g2 => ?_) k 0 _ (by omega) Fm.rf (fun _ q => absurd q (by omega))⟩
            have fa : Fm (xMp (d + 1)) (pa σ21 92 f) (pv (pa σ21 92 f) 11 75 (nI k)) := Fm_pv (by simp [xMp])
            have fb : Fm (xMp (d + 1)) (pv (pa σ21 92 f) 11 75 (nI k)) τ2 := f2.mono (fun a j q => by
              unfold xMp at q
              simp only [Bool.or_eq_false_iff] at q
              exact q.1.2)
            refine nxt (some (wsP (stP σ Ls O F mm) mm (H + d) w r ws, upd tr d (nI w))) (wsP (stP σ Ls O F mm) mm (H + d) w r ws) τ2 (((m92 f).tr fa).tr fb) (fun j _ => ?_) ⟨rfl, by show 0 ≤ (wsP (stP σ Ls O F mm) mm (H + d) w r ws).toInt; omega, by show (wsP (stP σ Ls O F mm) mm (H + d) w r ws).toInt ≤ 300000; omega, ?_, fun i hi => ?_⟩ N ⟨hN, hRR⟩
            · rw [f2.2 88 j rfl, gv_pv, if_neg (by omega), pa_92 (by decide)]
            · rw [f2.2 11 75 rfl, gv_pv, if_pos ⟨rfl, rfl⟩]
            · rw [g2 i hi, gv_pv, if_neg (by omega), pa_92 (by decide)]
              exact g94 i (by omega)
          · rw [if_neg c1] at hN hRR
            rw [hdk]
            exact nxt b best _ (m92 f) (fun j _ => pa_92 (by decide)) E92 N ⟨hN, hRR⟩
        · refine ⟨fun c => absurd c (by rw [nI_1]; exact nI_ge (by omega) (by omega)), fun _ => ?_⟩
          rintro x5 rfl
          rw [nI_1]
          refine ⟨vp_in_nI (by omega) (by decide), ?_⟩
          rw [cd1]
          rintro σ12 rfl
          have fp : Fm (xMp (d + 1)) (pa σ21 92 f) (pv (pa σ21 92 f) 94 (d + 1) (-1)) := Fm_pv (by simp [xMp])
          have fq := (m92 f).tr fp
          have Fx : Fm (fun a j => a == 92 || (a == 94 && j == d + 1)) σ21 (pv (pa σ21 92 f) 94 (d + 1) (-1)) := (Fm_pa (fun _ => by simp)).tr (Fm_pv (by simp))
          have g88' : ∀ j, gv (pv (pa σ21 92 f) 94 (d + 1) (-1)) 88 j = gv σ21 88 j := fun j => Fx.2 88 j (by simp)
          show wX12_plan_71 Q N (nI mm) (nI k) need best (nI (d + 1)) (pv (pa σ21 92 f) 94 (d + 1) (-1))
          rw [hN]
          refine hrec _ _ _ (upd tr d (nI w)) b best _ _ (by omega) (P21.mp fq) ?_ hok.1 (by omega) u2 w1 w2 (fun i hi => ?_) ?_ ?_ ?_ (E21.fm Fx (by simp) (fun _ => by simp)) (fun τ' best' f' g' E' => ?_)
          · obtain ⟨l1, l2, l3⟩ := q2 (by omega)
            rw [show H + (d + 1) = H + d + 1 by omega]
            exact ⟨fun m hm => by rw [g88', g88]; exact l1 m hm, fun z m hm => by rw [g88', g88]; exact l2 z m hm, l3⟩
          · rw [Fx.2 94 i (by simp; omega)]
            exact g94 i hi
          · rw [gv_pv, if_pos ⟨rfl, rfl⟩]
          · rw [Fx.2 96 _ (by simp)]
            exact g96
          · rw [Fx.2 97 _ (by simp)]
            exact g97
          · have e1 : nI (d + 1) + -1 = nI d := by rw [← Int32.sub_eq_add_neg, nI_pred]
            rw [e1]
            exact nxt _ best' τ' (fq.tr f') (fun j hj => by rw [g' j hj, g88']) E' _ ⟨rfl, hRR⟩
theorem plM {Q : Int32 → St → Prop} (h76 : gr σ 15 = gr σ 76) (Bn : Bun σ Ls n O F) (hmm : mm < n) (hk : k ≤ 6) (hH : H + k ≤ 240) (hM : M ≤ 800) (hB : StB (stP σ Ls O F mm) mm mw M (WtOk (cfD σ Ls))) (hmw : mw ≤ 4) (e75 : gv σ 75 mm = nI mw) (eH : gv σ 11 51 = nI H) :
    ∀ (e d : Nat) (r : Rw) (ws wk : Int32) (tr : Nat → Int32) (b : PB) (best : Int32) (τ : St) (J : Nat), 0 < e → d + e = k → PmOk σ O F τ → LvM n (H + d) r τ → WtOk (cfD σ Ls) r → 0 ≤ ws.toInt → ws.toInt ≤ 50000 * d → -800 * (d : Int) ≤ wk.toInt → wk.toInt ≤ 800 * d → (∀ i, i < d → gv τ 94 i = tr i) → gv τ 94 d = -1 → gv τ 96 d = wk → gv τ 97 d = ws → EnM σ k best τ b →
      (∀ τ' best', Fm (xMp d) τ τ' → (∀ j, j < 70 * (H + d) → gv τ' 88 j = gv τ 88 j) → EnM σ k best' τ' (plE (stP σ Ls O F mm) (gdP σ Ls n) mm mw need e d (H + d) r ws wk tr b).2 → wX12_plan_71 Q J (nI mm) (nI k) need best' (nI d + -1) τ') →
      wX12_plan_71 Q (J + (plE (stP σ Ls O F mm) (gdP σ Ls n) mm mw need e d (H + d) r ws wk tr b).1) (nI mm) (nI k) need best (nI d) τ := by
  intro e
  induction e with
  | zero => intro d r ws wk tr b best τ J h0; exact absurd h0 (by omega)
  | succ e ih =>
    intro d r ws wk tr b best τ J _ hd P L hr a0 a1 b0 b1 h94 hm1 h96 h97 E hQ
    rw [plE]
    refine plM_loop h76 Bn hmm hk hH hM hB hmw e75 eH hd hr a0 a1 b0 b1 (τ0 := τ) (fun r ws wk tr b best τ J p1 p2 p3 p4 p5 p6 p7 p8 p9 p10 p11 p12 p13 p14 => ?_) hQ (mw + 1) 0 b best τ (by omega) ⟨Fm.rf, fun _ _ => rfl, P, L, h94, h96, h97⟩ (by rw [hm1]; decide) E rfl
    exact ih (d + 1) r ws wk tr b best τ J p1 (by omega) p2 p3 p4 p5 p6 p7 p8 p9 p10 p11 p12 p13 p14
end PL
