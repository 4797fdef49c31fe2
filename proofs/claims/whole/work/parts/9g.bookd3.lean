/-! read: the class's conditions. -/
section BG
variable {σ : St} {K P : Nat → Nat} {V : Nat → Int32} {NM : Nat → List Nat} {M : Nat}
def w01 (w : Bool) : Nat := if w then 1 else 0
theorem cdT_or {w : Bool} {L R : Ex} {s : Nat} {T : List Rl} : cdT w ((true, L, s, R) :: T) = (if w then [-25] else []) ++ rlX L s R ++ cdT true T := rfl
theorem cdT_and {w : Bool} {L R : Ex} {s : Nat} {T : List Rl} : cdT w ((false, L, s, R) :: T) = rlX L s R ++ [-26] ++ cdT w T := rfl
theorem rlX_len {L R : Ex} {s : Nat} : (rlX L s R).length = L.length + R.length + 1 := by
  unfold rlX
  rw [List.length_append, List.length_append, List.length_singleton]
theorem conditionD_loop (hT : TkD σ K P V NM M) : ∀ (f b i C : Nat) (w : Bool) (τ : St), b + f = 600 → PrD σ M i C τ → C + w01 w + 600 ≤ gn τ + i → RsG σ P M (cdT w) (cdL K V f i) C τ (fun Q => wX0_condition_13 Q (f + 1) (b01 w) (nI b) τ) := by
  have fin : ∀ (f i C : Nat) (w : Bool) (τ : St) (Q : Int32 → St → Prop), PrD σ M i C τ → C + w01 w + 600 ≤ gn τ + i → cdL K V f i = .ok i [] → (∀ j E τ', cdL K V f i = .ok j E → AtD σ M j τ' → gv τ' 8 4 = nI (C + (cdT w E).length) → seg (gr τ' 36) C (cdT w E) → Fm (xEm C) τ τ' → Q 1 τ') → wX0_condition_116 Q (b01 w) τ := by
    intro f i C w τ Q h hs hc hok
    have hiM := h.1.2.2
    have h6 := hT.1
    cases w with
    | false => exact ⟨fun _ => hok i [] τ hc h.1 h.2.1 sg_nil Fm.rf, fun c => absurd rfl c⟩
    | true =>
      refine ⟨fun c => absurd c z10, fun _ => emitD h.2.2.2 h.2.1 (by simp [w01] at hs; omega) (fun τ1 f1 g1 e1 x1 => ?_)⟩
      exact hok i [] τ1 hc (h.1.em f1 g1) e1 (sg_one x1) f1
  intro f
  induction f with
  | zero =>
    intro b i C w τ hb h hs Q hok hno
    exact ⟨fun _ => fin 0 i C w τ Q h hs rfl hok, fun c => absurd (nI_le (a := 600) (by omega) (by omega)) c⟩
  | succ f ih =>
    intro b i C w τ hb h hs Q hok hno
    have hK := hT.2.2.2.1.1 i
    have h6 := hT.1
    have hiM := h.1.2.2
    show wX0_condition_13 Q (f + 1 + 1) (b01 w) (nI b) τ
    rw [wX0_condition_13]
    have go25 : K i = 25 → wX0_condition_38 Q (fun x1' x2' σ' => wX0_condition_13 Q (f + 1) x1' x2' σ') (b01 w) (nI b) τ := by
      intro hk
      have hp : cdL K V (f + 1) i = (tkP K 25 i).bd fun j _ => (rlP K V j).bd fun k r => (cdL K V f k).bd fun l T => .ok l ((true, r) :: T) := by
        rw [cdL, if_pos (Or.inr hk), hk]
        rfl
      have core : ∀ (τ0 : St) (C0 : Nat), Fm (xEm C) τ τ0 → PrD σ M i C0 τ0 → C0 = C + w01 w → seg (gr τ0 36) C (if w then [-25] else []) → wX0_condition_77 Q (fun x1' x2' σ' => wX0_condition_13 Q (f + 1) x1' x2' σ') (nI b) (25 : Int32) (1 : Int32) τ0 := by
        intro τ0 C0 f0 h0 e0 s0
        have l0 : (if w then ([-25] : Ex) else []).length = w01 w := by cases w <;> rfl
        refine takeD (k := 25) hT h0.1 (by decide) (by decide) (fun τ1 _ hi ht A1 f1 => ⟨z11, fun _ => ?_⟩) (fun g τ1 ht F1 f1 => ⟨fun _ => hno g i τ1 (by rw [hp, ht, bd_n]) F1 (f0.tr (f1.mono (fun _ _ q => xTk_Em q))), fun c => absurd rfl c⟩)
        have P1 := h0.tk f1 A1
        have f1e : Fm (xEm C0) τ0 τ1 := f1.mono (fun _ _ q => xTk_Em q)
        refine relationD hT P1 _ (fun k r τ2 hr A2 q8 qs f2 => ⟨z11, fun _ => ⟨fun c => absurd c (by decide), fun _ => ?_⟩⟩) (fun g j τ2 hr F2 f2 => ⟨fun _ => hno g j τ2 (by rw [hp, ht, bd_o, hr, bd_n]) F2 (f0.tr ((f1e.tr f2).mono (fun _ _ q => xEm_le (by omega) q))), fun c => absurd rfl c⟩)
        obtain ⟨g1, g2, g3, _⟩ := rl_ok hT.2.2.2.1 hr
        have ll : (rlX r.1 r.2.1 r.2.2).length = r.1.length + r.2.2.length + 1 := rlX_len
        have f02 : Fm (xEm C0) τ0 τ2 := f1e.tr f2
        have fA : Fm (xEm C) τ τ2 := f0.tr (f02.mono (fun _ _ q => xEm_le (by omega) q))
        rintro x2 rfl
        rw [nI_1]
        have P2 : PrD σ M k (C0 + (rlX r.1 r.2.1 r.2.2).length) τ2 := h.nx fA A2 q8 (by omega)
        refine ih (b + 1) k _ true τ2 (by omega) P2 (by rw [fA.gn]; simp [w01]; omega) Q (fun l T τ3 hl A3 e3 s3 f3 => ?_) (fun g j τ3 hl F3 f3 => hno g j τ3 (by rw [hp, ht, bd_o, hr, bd_o, hl, bd_n]) F3 (fA.tr (f3.mono (fun _ _ q => xEm_le (by omega) q))))
        refine hok l ((true, r) :: T) τ3 (by rw [hp, ht, bd_o, hr, bd_o, hl, bd_o]) A3 ?_ ?_ (fA.tr (f3.mono (fun _ _ q => xEm_le (by omega) q)))
        · obtain ⟨L, s, R⟩ := r
          rw [cdT_or, List.length_append, List.length_append, l0, e3]
          congr 1
          dsimp only at ll ⊢
          omega
        · obtain ⟨L, s, R⟩ := r
          rw [cdT_or]
          have sA : seg (gr τ2 36) C (if w then [-25] else []) := sg_fm s0 f02 (by rw [l0]; omega)
          have sB : seg (gr τ2 36) C ((if w then [-25] else []) ++ rlX L s R) := sg_app sA (by rw [l0, ← e0]; exact qs)
          have lB : C + ((if w then ([-25] : Ex) else []) ++ rlX L s R).length = C0 + (rlX L s R).length := by
            rw [List.length_append, l0]; omega
          refine sg_app (sg_fm sB f3 (by rw [lB]; exact Nat.le_refl _)) ?_
          rw [lB]
          exact s3
      refine kindD hT h.1 ⟨fun _ => ?_, fun c => absurd (by rw [hk]; rfl) c⟩
      rw [hk]
      cases w with
      | false => exact ⟨fun _ => ⟨fun _ => ⟨fun _ => core τ C Fm.rf h rfl sg_nil, fun c => absurd rfl c⟩, fun c => absurd rfl c⟩, fun c => absurd rfl c⟩
      | true =>
        refine ⟨fun c => absurd c z10, fun _ => emitD h.2.2.2 h.2.1 (by simp [w01] at hs; omega) (fun τ1 f1 g1 e1 x1 => ⟨fun c => absurd c z10, fun _ => ?_⟩)⟩
        exact core τ1 (C + 1) f1 (h.nx f1 (h.1.em f1 g1) e1 (by simp [w01] at hs; omega)) rfl (sg_one x1)
    have go26 : K i = 26 → wX0_condition_38 Q (fun x1' x2' σ' => wX0_condition_13 Q (f + 1) x1' x2' σ') (b01 w) (nI b) τ := by
      intro hk
      have hp : cdL K V (f + 1) i = (tkP K 26 i).bd fun j _ => (rlP K V j).bd fun k r => (cdL K V f k).bd fun l T => .ok l ((false, r) :: T) := by
        rw [cdL, if_pos (Or.inl hk), hk]
        rfl
      have core : wX0_condition_77 Q (fun x1' x2' σ' => wX0_condition_13 Q (f + 1) x1' x2' σ') (nI b) (26 : Int32) (b01 w) τ := by
        refine takeD (k := 26) hT h.1 (by decide) (by decide) (fun τ1 _ hi ht A1 f1 => ⟨z11, fun _ => ?_⟩) (fun g τ1 ht F1 f1 => ⟨fun _ => hno g i τ1 (by rw [hp, ht, bd_n]) F1 (f1.mono (fun _ _ q => xTk_Em q)), fun c => absurd rfl c⟩)
        have P1 := h.tk f1 A1
        have f1e : Fm (xEm C) τ τ1 := f1.mono (fun _ _ q => xTk_Em q)
        refine relationD hT P1 _ (fun k r τ2 hr A2 q8 qs f2 => ⟨z11, fun _ => ⟨fun _ => ?_, fun c => absurd rfl c⟩⟩) (fun g j τ2 hr F2 f2 => ⟨fun _ => hno g j τ2 (by rw [hp, ht, bd_o, hr, bd_n]) F2 (f1e.tr f2), fun c => absurd rfl c⟩)
        obtain ⟨g1, g2, g3, _⟩ := rl_ok hT.2.2.2.1 hr
        have ll : (rlX r.1 r.2.1 r.2.2).length = r.1.length + r.2.2.length + 1 := rlX_len
        have fA : Fm (xEm C) τ τ2 := f1e.tr f2
        have q8 : gv τ2 8 4 = nI (C + (rlX r.1 r.2.1 r.2.2).length) := q8
        refine emitD (by rw [fA.gn]; exact h.2.2.2) q8 (by rw [fA.gn]; omega) (fun τ3 f3 g5 e3 x3 => ?_)
        have A3 : AtD σ M k τ3 := A2.em f3 g5
        have fB : Fm (xEm C) τ τ3 := fA.tr (f3.mono (fun _ _ q => xEm_le (by omega) q))
        rintro x2 rfl
        rw [nI_1]
        have P3 : PrD σ M k (C + (rlX r.1 r.2.1 r.2.2).length + 1) τ3 := h.nx fB A3 e3 (by omega)
        refine ih (b + 1) k _ w τ3 (by omega) P3 (by rw [fB.gn]; omega) Q (fun l T τ4 hl A4 e4 s4 f4 => ?_) (fun g j τ4 hl F4 f4 => hno g j τ4 (by rw [hp, ht, bd_o, hr, bd_o, hl, bd_n]) F4 (fB.tr (f4.mono (fun _ _ q => xEm_le (by omega) q))))
        refine hok l ((false, r) :: T) τ4 (by rw [hp, ht, bd_o, hr, bd_o, hl, bd_o]) A4 ?_ ?_ (fB.tr (f4.mono (fun _ _ q => xEm_le (by omega) q)))
        · obtain ⟨L, s, R⟩ := r
          rw [cdT_and, len3]
          exact e4
        · obtain ⟨L, s, R⟩ := r
          rw [cdT_and]
          exact sg_join qs f3 x3 f4 s4
      refine kindD hT h.1 ⟨fun c => absurd c (by rw [hk]; decide), fun _ => ?_⟩
      rw [hk]
      cases w with
      | false => exact ⟨fun _ => ⟨fun c => absurd c (by decide), fun _ => core⟩, fun c => absurd rfl c⟩
      | true => exact ⟨fun c => absurd c z10, fun _ => core⟩
    refine ⟨fun c => absurd c (nI_ge (b := 600) (by omega) (by decide)), fun _ => kindD hT h.1 ⟨fun c => go26 ((nI_eq (b := 26) (by omega) (by decide)).mp c), fun c => kindD hT h.1 ⟨fun c2 => go25 ((nI_eq (b := 25) (by omega) (by decide)).mp c2), fun c2 => ?_⟩⟩⟩
    have hk : ¬ (K i = 26 ∨ K i = 25) := fun e => by
      rcases e with e | e
      · exact c (by rw [e]; rfl)
      · exact c2 (by rw [e]; rfl)
    exact fin (f + 1) i C w τ Q h hs (by rw [cdL, if_neg hk]) hok
theorem conditionD (hT : TkD σ K P V NM M) {i C : Nat} {τ : St} (h : PrD σ M i C τ) : RsG σ P M cdX (cdP K V i) C τ (fun Q => wX0_condition τ Q) := by
  intro Q hok hno
  have hsl := h.2.2.1
  refine relationD hT h _ (fun k r τ1 hr A1 q8 qs f1 => ⟨z11, fun _ => ⟨601, ?_⟩⟩) (fun g j τ1 hr F1 f1 => ⟨fun _ => hno g j τ1 (by unfold cdP; rw [hr, bd_n]) F1 f1, fun c => absurd rfl c⟩)
  obtain ⟨g1, g2, g3, _⟩ := rl_ok hT.2.2.2.1 hr
  have ll : (rlX r.1 r.2.1 r.2.2).length = r.1.length + r.2.2.length + 1 := rlX_len
  have P1 : PrD σ M k (C + (rlX r.1 r.2.1 r.2.2).length) τ1 := h.nx f1 A1 q8 (by omega)
  refine conditionD_loop hT 600 0 k _ false τ1 (by omega) P1 (by rw [f1.gn]; simp [w01]; omega) Q (fun l T τ2 hl A2 e2 s2 f2 => ?_) (fun g j τ2 hl F2 f2 => hno g j τ2 (by unfold cdP; rw [hr, bd_o, hl, bd_n]) F2 (f1.tr (f2.mono (fun _ _ q => xEm_le (by omega) q))))
  obtain ⟨L, s, R⟩ := r
  refine hok l ((true, L, s, R) :: T) τ2 (by unfold cdP; rw [hr, bd_o, hl, bd_o]) A2 ?_ ?_ (f1.tr (f2.mono (fun _ _ q => xEm_le (by omega) q)))
  · show gv τ2 8 4 = nI (C + (rlX L s R ++ cdT false T).length)
    rw [len2]
    exact e2
  · show seg (gr τ2 36) C (rlX L s R ++ cdT false T)
    exact sg_join0 qs f2 s2
end BG
