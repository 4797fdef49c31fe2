/-! grists: grind and grinds. -/
/-- a mill's grists after t hours of works S -/
def grG (mi wt hr : Nat → Int32) (G : Nat) (m : Int32) (S : Nat → Int32) : Nat → GsG
  | 0 => (fun _ => 0, fun _ => -1)
  | t + 1 => tkGL mi wt hr m (nI t) G 0 (S t) (grG mi wt hr G m S t)
theorem HdG.fm {X : Nat → Nat → Bool} {kd ke G : Nat} {mi : Nat → Int32} {m : Int32} {s : GsG} {τ τ' : St} (h : HdG kd ke G mi m s τ) (f : Fm X τ τ') (h1 : ∀ j, X kd j = false) (h2 : ∀ j, X ke j = false) : HdG kd ke G mi m s τ' := fun j hj hm => ⟨(f.2 kd j (h1 j)).trans (h j hj hm).1, (f.2 ke j (h2 j)).trans (h j hj hm).2⟩
section GK
variable {σ : St} {Ls : List Ru} {n O F nn G m : Nat}
theorem grindD_loop {Q : St → Prop} {H : Nat} (hH : H ≤ 240) (hnn : nn ≤ F) (hm : m < n) (hG : G ≤ 60) {S : Nat → Rw} {mi wt hr : Nat → Int32}
    (hQ : ∀ τ, InvL Ls τ → Bun τ Ls n O F → simD τ Ls O nn (-1) = S → (gv τ 9 5 = nI G ∧ gr τ 40 = mi ∧ gr τ 41 = wt ∧ gr τ 39 = hr) → HdG 42 43 G mi (nI m) (grG mi wt hr G (nI m) (fun t => S (t + 1) 6 m) H) τ → Q τ) :
    ∀ (d t : Nat) (τ : St), t + d = H → InvL Ls τ → Bun τ Ls n O F → RnD τ Ls n O nn (-1) τ 100 t → gv τ 3 4 = nI nn → simD τ Ls O nn (-1) = S → (gv τ 9 5 = nI G ∧ gr τ 40 = mi ∧ gr τ 41 = wt ∧ gr τ 39 = hr) → HdG 42 43 G mi (nI m) (grG mi wt hr G (nI m) (fun t => S (t + 1) 6 m) t) τ → wX11_grind_23 Q (d + 1) (nI m) (nI H) (nI t) τ := by
  intro d
  induction d with
  | zero =>
    intro t τ ht hI B r k e g hd
    have e1 : t = H := by omega
    subst e1
    exact ⟨fun _ => hQ τ hI B e g hd, fun c => absurd (Int32.le_refl _) c⟩
  | succ d ih =>
    intro t τ ht hI B r k e g hd
    obtain ⟨_, hn, _⟩ := BunF B
    rw [wX11_grind_23]
    refine ⟨fun c => absurd c (nI_ge (by omega) (by omega)), fun _ => stepR B.1 stg_100 (by omega) r (fun τ1 r1 f1 => ⟨vp_in_nI (by omega) (by decide), ?_⟩)⟩
    have k1 : gv τ1 3 4 = nI nn := (f1.2 3 4 (xS_34 stg_100)).trans k
    have hI1 := RnD.inv hI B hnn r1 k1
    have B1 := BunE B hI1 r1.1
    have e1 : simD τ1 Ls O nn (-1) = S := (simD_fm r1.1).trans e
    obtain ⟨g1, g2, g3, g4⟩ := g
    have g1' : gv τ1 9 5 = nI G := (r1.1.2 9 5 rfl).trans g1
    have g2' : gr τ1 40 = mi := (r1.1.gr (fun _ => rfl)).trans g2
    have g3' : gr τ1 41 = wt := (r1.1.gr (fun _ => rfl)).trans g3
    have g4' : gr τ1 39 = hr := (r1.1.gr (fun _ => rfl)).trans g4
    have ew : gv τ1 109 (nI m).toNatClampNeg = S (t + 1) 6 m := by
      rw [nI_clamp (by omega), ← e]
      exact r1.2.2.2.2.2.1 6 m (by decide) hm
    have d1 : HdG 42 43 G (gr τ1 40) (nI m) (grG mi wt hr G (nI m) (fun t => S (t + 1) 6 m) t) τ1 := by
      rw [g2']
      exact hd.fm r1.1 (fun _ => rfl) (fun _ => rfl)
    rw [ew]
    refine ⟨G + 1, tkD_loop hG g1' (RES := grG mi wt hr G (nI m) (fun t => S (t + 1) 6 m) (t + 1)) (fun τ2 f2 d2 => ?_) G 0 _ _ τ1 (by omega) Fm.rf d1 (by rw [g2', g3', g4']; rfl)⟩
    rintro x4 rfl
    rw [nI_1]
    have hI2 := InvT hI1 f2
    rw [g2'] at d2
    exact ih (t + 1) τ2 (by omega) hI2 (BunT B1 hI2 f2) (r1.self.grist (by decide) f2) ((f2.2 3 4 rfl).trans k1) ((simD_T f2).trans e1) ⟨(f2.2 9 5 rfl).trans g1', (f2.gr (fun _ => rfl)).trans g2', (f2.gr (fun _ => rfl)).trans g3', (f2.gr (fun _ => rfl)).trans g4'⟩ d2
theorem grindD {Q : St → Prop} {H : Nat} (hI : InvL Ls σ) (B : Bun σ Ls n O F) (hH : H ≤ 240) (hnn : nn ≤ F) (hm : m < n) (hG : G ≤ 60) (eG : gv σ 9 5 = nI G)
    (hQ : ∀ τ, InvL Ls τ → Bun τ Ls n O F → simD τ Ls O nn (-1) = simD σ Ls O nn (-1) → (gv τ 9 5 = nI G ∧ gr τ 40 = gr σ 40 ∧ gr τ 41 = gr σ 41 ∧ gr τ 39 = gr σ 39) → HdG 42 43 G (gr σ 40) (nI m) (grG (gr σ 40) (gr σ 41) (gr σ 39) G (nI m) (fun t => simD σ Ls O nn (-1) (t + 1) 6 m) H) τ → Q τ) : wX11_grind (nI m) (nI nn) (nI H) σ Q := by
  rintro σ1 h1 σ2 h2
  have f1 : Fm xGr σ σ1 := by rw [h1]; exact Fm_pa (fun _ => rfl)
  have f2 : Fm xGr σ1 σ2 := by rw [h2]; exact Fm_pa (fun _ => rfl)
  have f := f1.tr f2
  have hI2 := InvT hI f
  have B2 := BunT B hI2 f
  have z : HdG 42 43 G (gr σ 40) (nI m) (fun _ => 0, fun _ => -1) σ2 := by
    intro j _ _
    rw [h2, h1, gv_pa, gv_pa, gv_pa, if_neg (by decide), if_pos rfl, if_pos rfl]
    exact ⟨rfl, rfl⟩
  refine beginQ B2 stg_100 hnn (fun τ r k => ?_)
  have hI3 := RnD.inv hI2 B2 hnn r k
  refine ⟨H + 1, grindD_loop (S := simD σ Ls O nn (-1)) (mi := gr σ 40) (wt := gr σ 41) (hr := gr σ 39) hH hnn hm hG hQ H 0 τ (by omega) hI3 (BunE B2 hI3 r.1) r.self k ((simD_fm r.1).trans (simD_T f)) ⟨(r.1.2 9 5 rfl).trans ((f.2 9 5 rfl).trans eG), (r.1.gr (fun _ => rfl)).trans (f.gr (fun _ => rfl)), (r.1.gr (fun _ => rfl)).trans (f.gr (fun _ => rfl)), (r.1.gr (fun _ => rfl)).trans (f.gr (fun _ => rfl))⟩ (z.fm r.1 (fun _ => rfl) (fun _ => rfl))⟩
end GK
