/-! plan: the class's search. -/
theorem StAt.kp {X : Nat → Nat → Bool} {σ τ τ' : St} {k n t g : Nat} {r : Rw} {w : Int32} {P : Nat → Prop} (h : StAt σ τ k n t r w g P) (f : Fm X τ τ') (hx : ∀ a j, k ≤ a → a < k + 13 → X a j = false) : StAt σ τ' k n t r w g P := by
  obtain ⟨s1, s2, s3, s4, s5, s6⟩ := h
  have e : ∀ a j, k ≤ a → a < k + 13 → gv τ' a j = gv τ a j := fun a j h1 h2 => f.2 a j (hx a j h1 h2)
  refine ⟨?_, ?_, ?_, fun i m hi hm => ?_, fun m hp hm => ?_, fun m hm => ?_⟩
  · rw [e k 2 (by omega) (by omega)]; exact s1
  · rw [e k 3 (by omega) (by omega)]; exact s2
  · rw [e k 4 (by omega) (by omega)]; exact s3
  · rw [e _ m (by omega) (by omega)]; exact s4 i m hi hm
  · rw [e _ m (by omega) (by omega)]; exact s5 m hp hm
  · rw [e _ m (by omega) (by omega)]; exact s6 m hm
theorem xDp_st {d k a j : Nat} (hk : 100 ≤ k) (hd : k + 13 ≤ 126 + 13 * d) (h1 : k ≤ a) (h2 : a < k + 13) : xDp d a j = false := by
  simp [xDp, xV]; omega
theorem xDp_46 {d j : Nat} (h : j < d) : xDp d 46 j = false := by
  simp [xDp, xV]; omega
theorem stg_q {d : Nat} (h : d < 6) : Stg (126 + 13 * d) := ⟨d + 2, by omega, by omega⟩
theorem xV_Dp {d a j : Nat} (h : xDp d a j = false) : xV a j = false := by
  unfold xDp at h
  simp only [Bool.or_eq_false_iff] at h
  exact h.1.1.1.1
section SR
variable {σ : St} {Ls : List Ru} {n O F mm k M mw H : Nat} {need : Int32}
theorem srD_loop {S : Nat → Int32 → Int32 → Int32 → St → (St → Prop) → Prop} {Q : St → Prop} (B : BsD σ Ls n O) (hmm : mm < n) (hk : k ≤ 6) (hM : M ≤ 800) (hH : H + k ≤ 240) (hn0 : 0 ≤ need.toInt) (hB : StB (stP σ Ls O F mm) mm mw M (WtOk (cfD σ Ls))) (hmw : mw ≤ 4) {e d k2 : Nat} (hd : d + (e + 1) = k) (hk2 : Stg k2) (hkd : k2 + 13 ≤ 126 + 13 * d) {r : Rw} {ws wk : Int32} {tr : Nat → Int32} (hr : WtOk (cfD σ Ls) r) (a0 : 0 ≤ ws.toInt) (a1 : ws.toInt ≤ 50000 * d) (b0 : -800 * (d : Int) ≤ wk.toInt) (b1 : wk.toInt ≤ 800 * d) {τ0 : St} {RES : PB}
    (hrec : ∀ (r : Rw) (ws wk : Int32) (tr : Nat → Int32) (b : PB) (τ : St) (Q : St → Prop), PdOk σ F mm k M mw need τ → StAt σ τ (126 + 13 * d) n (H + (d + 1)) r (-1) (gvT (gr σ 20) O (H + (d + 1))) (fun m => m ≠ mm) → WtOk (cfD σ Ls) r → 0 ≤ ws.toInt → ws.toInt ≤ 50000 * ((d + 1 : Nat) : Int) → -800 * ((d + 1 : Nat) : Int) ≤ wk.toInt → wk.toInt ≤ 800 * ((d + 1 : Nat) : Int) → (∀ i, i < d + 1 → gv τ 46 i = tr i) → EnD k τ b → (e = 0 → need ≤ wk) → (∀ τ', Fm (xDp (d + 1)) τ τ' → EnD k τ' (plE (stP σ Ls O F mm) (gdP σ Ls n) mm mw need e (d + 1) (H + (d + 1)) r ws wk tr b).2 → Q τ') → S (126 + 13 * d) (nI (d + 1)) ws wk τ Q)
    (hQ : ∀ τ', Fm (xDp d) τ0 τ' → EnD k τ' RES → Q τ') :
    ∀ (c w : Nat) (b : PB) (τ : St), w + c = mw + 1 → Fm (xDp d) τ0 τ → PdOk σ F mm k M mw need τ → StAt σ τ k2 n (H + d) r (-1) (gvT (gr σ 20) O (H + d)) (fun m => m ≠ mm) → (∀ i, i < d → gv τ 46 i = tr i) → EnD k τ b → (plL (stP σ Ls O F mm) (gdP σ Ls n) mm (plE (stP σ Ls O F mm) (gdP σ Ls n) mm mw need e (d + 1) (H + d + 1)) d (H + d) r ws wk tr c w b).2 = RES → wX5_search_47 S k2 Q (c + 1) (nI d) ws wk (126 + 13 * d) (nI w) τ := by
  have hk21 := (stg_ge hk2).1
  have hn := B.2.1
  have hd6 : d < 6 := by omega
  intro c
  induction c with
  | zero =>
    intro w b τ hw f P S1 ht E hR
    have hR : b = RES := hR
    rw [hR] at E
    refine ⟨fun _ => hQ τ f E, fun c1 => ?_⟩
    rw [P.2.2.2.2.2.2] at c1
    exact absurd (nI_lt (by omega) (by omega)) c1
  | succ c ih =>
    intro w b τ hw f P S1 ht E hR
    rw [wX5_search_47, P.2.2.2.2.2.2]
    refine ⟨fun c1 => absurd c1 (nI_nlt (by omega) (by omega)), fun _ => ⟨fun c2 => ?_, fun c2 => ⟨vp_in_nI hd6 (by decide), ?_⟩⟩⟩
    · have hb : blt ws b = false := (EnD_blt E (by omega)).mp c2
      rw [plL_cut hB hr a0 a1 (by omega) hb (c + 1) w (by omega)] at hR
      rw [hR] at E
      exact hQ τ f E
    · rw [nI_clamp (by omega)]
      rintro σ4 rfl
      have f4 : Fm (xDp d) τ (pv τ 46 d (nI w)) := Fm_pv (by simp [xDp])
      have P4 := P.dp f4
      have S4 := S1.kp f4 (fun a j h1 h2 => xDp_st hk21 hkd h1 h2)
      refine pstepD B (stg_q hd6) hkd (by omega) hmm P4 S4 (fun τ1 f1 s1 g1 => ?_)
      have f1d : Fm (xDp d) (pv τ 46 d (nI w)) τ1 := f1.mono (fun _ _ q => xS_Dp q)
      have P1 := P4.dp f1d
      have E1 : EnD k τ1 b := (E.fm (Fm_pv (X := fun a _ => a == 46) rfl) rfl (fun _ => rfl)).fm f1 (by simp [xS, xV]; omega) (fun _ => by simp [xS, xV]; omega)
      have t1 : ∀ i, i < d + 1 → gv τ1 46 i = upd tr d (nI w) i := fun i hi => by
        rw [f1.2 46 i (by simp [xS, xV]; omega), gv_pv]
        by_cases q : i = d
        · rw [if_pos ⟨rfl, q⟩, q, upd_same]
        · rw [if_neg (fun z => q z.2), upd_ne q]
          exact ht i (by omega)
      have ft1 : Fm (xDp d) τ0 τ1 := (f.tr f4).tr f1d
      have r7 : gv τ1 (126 + 13 * d + 10) mm = stP σ Ls O F mm (H + d) w r 7 mm := s1.2.2.2.1 7 mm (by decide) hmm
      have r8 : gv τ1 (126 + 13 * d + 11) mm = stP σ Ls O F mm (H + d) w r 8 mm := s1.2.2.2.1 8 mm (by decide) hmm
      have r6 : gv τ1 (126 + 13 * d + 9) mm = stP σ Ls O F mm (H + d) w r 6 mm := s1.2.2.2.1 6 mm (by decide) hmm
      have vm : vp_in (nI mm) 7 := vp_in_nI (by omega) (by decide)
      rw [P1.2.2.1, P1.2.2.2.1, P1.2.2.2.2.1, P1.2.2.2.2.2.1, nI_clamp (show mm < 2 ^ 31 by omega), r7, r8, r6]
      refine ⟨vm, vm, ?_⟩
      intro x8 e8
      refine ⟨vm, ?_⟩
      intro x9 e9
      have e8 : x8 = wsP (stP σ Ls O F mm) mm (H + d) w r ws := e8
      have e9 : x9 = wkP (stP σ Ls O F mm) mm (H + d) w r wk := e9
      obtain ⟨u1, u2⟩ := wsB hB (h := H + d) (w := w) (by omega) hr a0 a1 (by omega)
      obtain ⟨v1, v2, v3⟩ := wkB hB hM (h := H + d) (w := w) (by omega) hr b0 b1 (by omega)
      rw [← e8] at u1 u2
      rw [← e9] at v1 v2 v3
      have hok := (hB (H + d) w r (by omega) hr).1
      rw [plL, ← e8, ← e9] at hR
      have nxt : ∀ b' τ', Fm (xDp d) τ0 τ' → PdOk σ F mm k M mw need τ' → StAt σ τ' k2 n (H + d) r (-1) (gvT (gr σ 20) O (H + d)) (fun m => m ≠ mm) → (∀ i, i < d → gv τ' 46 i = tr i) → EnD k τ' b' → (plL (stP σ Ls O F mm) (gdP σ Ls n) mm (plE (stP σ Ls O F mm) (gdP σ Ls n) mm mw need e (d + 1) (H + d + 1)) d (H + d) r ws wk tr c (w + 1) b').2 = RES → wX5_search_224 S k2 Q (fun x3' x4' x5' q6' x7' σ' => wX5_search_47 S k2 Q (c + 1) x3' x4' x5' q6' x7' σ') (nI d) ws wk (126 + 13 * d) (nI w) τ' := by
        intro b' τ' f' P' S' t' E' hR'
        rintro x7 rfl
        rw [nI_1]
        exact ih (w + 1) b' τ' (by omega) f' P' S' t' E' hR'
      have S1' := S4.kp f1d (fun a j h1 h2 => xDp_st hk21 hkd h1 h2)
      have t1' : ∀ i, i < d → gv τ1 46 i = tr i := fun i hi => by rw [t1 i (by omega), upd_ne (by omega)]
      have kd : nI k - nI d - 1 = nI e := by
        rw [pk_sub (by omega), show k - d = e + 1 by omega, nI_pred]
      rw [kd, pk_mul]
      have he5 : e ≤ 5 := by omega
      have hMe : M * e ≤ 4000 := Nat.le_trans (Nat.mul_le_mul hM he5) (by decide)
      have esum : (x9 + nI (M * e)).toInt = x9.toInt + M * e := by
        rw [i_add rfl (nI_toInt (n := M * e) (by omega)) (by omega) (by omega)]
        rw [Int.natCast_mul]
      have main : ∀ xt : Int32, (xt = 0 → x9.toInt + M * e < need.toInt) → (xt ≠ 0 → need.toInt ≤ x9.toInt + M * e) → wX5_search_183 S k2 Q (fun x3' x4' x5' q6' x7' σ' => wX5_search_47 S k2 Q (c + 1) x3' x4' x5' q6' x7' σ') (nI d) ws wk (126 + 13 * d) (nI w) x8 x9 xt τ1 := by
        intro xt h0 h1
        refine ⟨fun c3 => ?_, fun c3 => ⟨fun c4 => ?_, fun c4 => ?_⟩⟩
        · have q : blt x8 b = false := (EnD_blt E1 (by omega)).mp c3
          rw [q, Bool.false_and, if_neg (by decide)] at hR
          exact nxt b τ1 ft1 P1 S1' t1' E1 hR
        · have q := plE_cut (gd := gdP σ Ls n) (need := need) hB hM e (d + 1) (H + d + 1) _ x8 x9 (upd tr d (nI w)) b (by omega) hok v1 v2 (h0 c4)
          rw [q] at hR
          have hR' : (plL (stP σ Ls O F mm) (gdP σ Ls n) mm (plE (stP σ Ls O F mm) (gdP σ Ls n) mm mw need e (d + 1) (H + d + 1)) d (H + d) r ws wk tr c (w + 1) b).2 = RES := by
            by_cases z : (blt x8 b && gdP σ Ls n (H + d) (stP σ Ls O F mm (H + d) w r)) = true
            · rwa [if_pos z] at hR
            · rwa [if_neg z] at hR
          exact nxt b τ1 ft1 P1 S1' t1' E1 hR'
        · have q : blt x8 b = true := by
            cases hq : blt x8 b with
            | true => rfl
            | false => exact absurd ((EnD_blt E1 (by omega)).mpr hq) c3
          have hneed := h1 c4
          refine breachD (σ0 := τ1) (Ls := Ls) (n := n) (O := O) (I := 0) (B.pl P1.1) (stg_q hd6) (show H + d < 240 by omega) Fm.rf g1 s1.2.2.2.1 (by decide) (fun τ2 f2 => ?_)
          rw [cfD_pl P1.1]
          have f2d : ∀ d', Fm (xDp d') τ1 τ2 := fun d' => f2.mono (fun _ _ q => xV_Dp q)
          have P2 := P1.dp (f2d d)
          have E2 : EnD k τ2 b := E1.fm f2 rfl (fun _ => rfl)
          refine ⟨fun c5 => ?_, fun c5 => ?_⟩
          · rw [q, show gdP σ Ls n (H + d) (stP σ Ls O F mm (H + d) w r) = true from decide_eq_true c5, Bool.true_and, if_pos rfl] at hR
            rw [nI_1]
            refine hrec _ x8 x9 (upd tr d (nI w)) b τ2 _ P2 (s1.kp f2 (fun a j h1 h2 => xV_far (by omega))) hok (by omega) u2 v1 v2 (fun i hi => (f2.2 46 i rfl).trans (t1 i hi)) E2 (fun z => ?_) (fun τ3 f3 E3 => ?_)
            · rw [Int32.le_iff_toInt_le]
              rw [z] at hneed
              omega
            · have f3d : Fm (xDp d) τ2 τ3 := f3.mono (fun _ _ q => xDp_su q)
              have f13 := (f2d d).tr f3d
              exact nxt _ τ3 (ft1.tr f13) (P2.dp f3d) (S1'.kp f13 (fun a j h1 h2 => xDp_st hk21 hkd h1 h2)) (fun i hi => (f13.2 46 i (xDp_46 hi)).trans (t1' i hi)) E3 hR
          · rw [q, show gdP σ Ls n (H + d) (stP σ Ls O F mm (H + d) w r) = false from decide_eq_false c5, Bool.true_and, if_neg (by decide)] at hR
            exact nxt b τ2 (ft1.tr (f2d d)) P2 (S1'.kp (f2d d) (fun a j h1 h2 => xDp_st hk21 hkd h1 h2)) (fun i hi => ((f2d d).2 46 i (xDp_46 hi)).trans (t1' i hi)) E2 hR
      refine ⟨fun c3 => main 0 (fun _ => ?_) (fun z => absurd rfl z), fun c3 => main 1 (fun z => absurd z (by decide)) (fun _ => ?_)⟩
      · rw [Int32.lt_iff_toInt_lt, esum] at c3
        exact c3
      · rw [Int32.lt_iff_toInt_lt, esum] at c3
        omega
theorem srD (B : BsD σ Ls n O) (hmm : mm < n) (hk : k ≤ 6) (hM : M ≤ 800) (hH : H + k ≤ 240) (hn0 : 0 ≤ need.toInt) (hB : StB (stP σ Ls O F mm) mm mw M (WtOk (cfD σ Ls))) (hmw : mw ≤ 4) :
    ∀ (e N d k2 : Nat) (r : Rw) (ws wk : Int32) (tr : Nat → Int32) (b : PB) (τ : St) (Q : St → Prop), e < N → d + e = k → Stg k2 → k2 + 13 ≤ 126 + 13 * d → PdOk σ F mm k M mw need τ → StAt σ τ k2 n (H + d) r (-1) (gvT (gr σ 20) O (H + d)) (fun m => m ≠ mm) → WtOk (cfD σ Ls) r → 0 ≤ ws.toInt → ws.toInt ≤ 50000 * d → -800 * (d : Int) ≤ wk.toInt → wk.toInt ≤ 800 * d → (∀ i, i < d → gv τ 46 i = tr i) → EnD k τ b → (e = 0 → need ≤ wk) → (∀ τ', Fm (xDp d) τ τ' → EnD k τ' (plE (stP σ Ls O F mm) (gdP σ Ls n) mm mw need e d (H + d) r ws wk tr b).2 → Q τ') → wX5_searchN N k2 (nI d) ws wk τ Q := by
  intro e
  induction e with
  | zero =>
    intro N d k2 r ws wk tr b τ Q hN hd hk2 hkd P S1 hr a0 a1 b0 b1 ht E hne hQ
    obtain ⟨N', rfl⟩ : ∃ N', N = N' + 1 := ⟨N - 1, by omega⟩
    rw [wX5_searchN, wX5_search, P.2.2.2.1]
    refine ⟨fun _ => ?_, fun c => absurd (nI_le (by omega) (by omega)) c⟩
    rintro σ1 rfl σ2 rfl
    refine hQ _ ((Fm_pv (by simp [xDp])).tr (Fm_pa (fun j => by simp [xDp]))) ?_
    rw [plE, if_pos (hne rfl)]
    refine ⟨?_, a0, by show ws.toInt ≤ 300000; omega, fun i hi => ?_⟩
    · rw [gv_pa, if_neg (by decide), gv_pv, if_pos ⟨rfl, rfl⟩]
    · rw [gv_pa, if_pos rfl]
      show gv (pv τ 10 5 ws) 46 i = tr i
      rw [gv_pv, if_neg (by omega)]
      exact ht i (by omega)
  | succ e ih =>
    intro N d k2 r ws wk tr b τ Q hN hd hk2 hkd P S1 hr a0 a1 b0 b1 ht E hne hQ
    obtain ⟨N', rfl⟩ : ∃ N', N = N' + 1 := ⟨N - 1, by omega⟩
    have hd6 : d < 6 := by omega
    rw [wX5_searchN, wX5_search, P.2.2.2.1]
    refine ⟨fun c => absurd c (nI_ge (by omega) (by omega)), fun _ => ⟨fun _ => ⟨vp_in_nI hd6 (by decide), mw + 1 + 1, ?_⟩, fun c => absurd (nI_lt (a := d) (b := 6) (by omega) (by decide)) c⟩⟩
    rw [nI_clamp (by omega)]
    refine srD_loop B hmm hk hM hH hn0 hB hmw hd hk2 hkd hr a0 a1 b0 b1 (τ0 := τ) (fun r ws wk tr b τ Q p1 p2 p3 p4 p5 p6 p7 p8 p9 p10 p11 => ?_) hQ (mw + 1) 0 b τ (by omega) Fm.rf P S1 ht E rfl
    exact ih N' (d + 1) (126 + 13 * d) r ws wk tr b τ Q (by omega) (by omega) (stg_q hd6) (by omega) p1 p2 p3 p4 p5 p6 p7 p8 p9 p10 p11
end SR
