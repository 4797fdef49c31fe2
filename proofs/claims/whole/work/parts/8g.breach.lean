/-! The class: work over a span, broken musts. -/
/-- the work of hours t .. t + d - 1, from hour a on -/
def wkT (S : Nat → Rw) (m a t : Nat) : Nat → Int32
  | 0 => 0
  | d + 1 => wkT S m a t d + (if a ≤ t + d then S (t + d + 1) 6 m else 0)
section WK
variable {σ0 σ : St} {Q : Int32 → St → Prop} {Ls : List Ru} {k n O nn t : Nat} {w : Int32}
theorem worked_loop (B : BsD σ0 Ls n O) (hk : Stg k) {m a b : Nat} (hm : m < n) (ha : a ≤ 240) (hb : b ≤ 240) (t0 : Nat) (hQ : ∀ τ, RnD σ0 Ls n O nn w τ k b → Fm (xS k) σ τ → Q (wkT (simD σ0 Ls O nn w) m a t0 (b - t0)) τ) : ∀ (d e : Nat) (τ : St), t0 + e + d = b → RnD σ0 Ls n O nn w τ k (t0 + e) → Fm (xS k) σ τ → wX10_worked_11 k Q (d + 1) (nI m) (nI a) (nI b) (wkT (simD σ0 Ls O nn w) m a t0 e) (nI (t0 + e)) τ := by
  have hn := B.2.1
  intro d
  induction d with
  | zero =>
    intro e τ he hS f
    have eb : t0 + e = b := by omega
    subst eb
    refine ⟨fun _ => ?_, fun c => absurd (Int32.le_refl _) c⟩
    have := hQ τ hS f
    rwa [show t0 + e - t0 = e by omega] at this
  | succ d ih =>
    intro e τ he hS f
    rw [wX10_worked_11]
    refine ⟨fun c => absurd c (nI_ge (by omega) (by omega)), fun _ => stepR B hk (by omega) hS (fun τ1 h1 f1 => ?_)⟩
    have nxt : ∀ y : Int32, y = (if a ≤ t0 + e then simD σ0 Ls O nn w (t0 + e + 1) 6 m else 0) → wX10_worked_44 k Q (fun x2' x3' x4' x5' x6' σ' => wX10_worked_11 k Q (d + 1) x2' x3' x4' x5' x6' σ') (nI m) (nI a) (nI b) (nI (t0 + e)) (wkT (simD σ0 Ls O nn w) m a t0 e) y τ1 := by
      intro y hy x5 e5 x6 e6
      rw [e5, e6, nI_1, hy]
      exact ih (e + 1) τ1 (by omega) h1 (f.tr f1)
    refine ⟨fun c => nxt _ ?_, fun c => ⟨vp_in_nI (by omega) (by decide), nxt _ ?_⟩⟩
    · have := (nI_ltI (by omega) (by omega)).mp c
      rw [if_neg (by omega)]
    · have : a ≤ t0 + e := Nat.not_lt.mp (fun q => c ((nI_ltI (by omega) (by omega)).mpr q))
      rw [if_pos this, nI_clamp (by omega)]
      exact h1.2.2.2.2.2.1 6 m (by decide) hm
theorem workedR (B : BsD σ0 Ls n O) (hk : Stg k) {m a b : Nat} (hm : m < n) (ha : a ≤ 240) (hb : b ≤ 240) (htb : t ≤ b) (hS : RnD σ0 Ls n O nn w σ k t) (hQ : ∀ τ, RnD σ0 Ls n O nn w τ k b → Fm (xS k) σ τ → Q (wkT (simD σ0 Ls O nn w) m a t (b - t)) τ) : wX10_worked k (nI m) (nI a) (nI b) σ Q := by
  intro x6 e6
  rw [hS.2.2.1] at e6
  rw [e6]
  exact ⟨b - t + 1, worked_loop (t0 := t) B hk hm ha hb hQ (b - t) 0 σ (by omega) hS Fm.rf⟩
/-- beyond its end a span has none -/
theorem workedR0 (hk : Stg k) {m a b : Nat} (hb : b ≤ 240) (ht : t ≤ 240) (htb : b ≤ t) (hS : RnD σ0 Ls n O nn w σ k t) (hQ : Q 0 σ) : wX10_worked k (nI m) (nI a) (nI b) σ Q := by
  intro x6 e6
  rw [hS.2.2.1] at e6
  rw [e6]
  exact ⟨1, fun _ => hQ, fun c => absurd (nI_le htb (by omega)) c⟩
end WK
/-- the rules from r on for a mill: the i-th that is broken, or how many more are wanted -/
def fdR (Bk : Nat → Nat → Bool) (m : Nat) : Nat → Nat → Nat → Int32 ⊕ Nat
  | 0, _, i => .inr i
  | d + 1, r, i => if Bk m r then (if i = 0 then .inl (nI (100 * m + r)) else fdR Bk m d (r + 1) (i - 1)) else fdR Bk m d (r + 1) i
def fdM (Bk : Nat → Nat → Bool) (R : Nat) : Nat → Nat → Nat → Int32
  | 0, _, _ => -1
  | d + 1, m, i => (fdR Bk m R 0 i).elim id (fun i' => fdM Bk R d (m + 1) i')
def bkW (c : Cf) (r : Rw) (h : Nat) (m q : Nat) : Bool := (c.2.2.2.2.2.2[q]?).elim false (fun x => ruB x m (nI (h / 24)) (envB c r h m))
