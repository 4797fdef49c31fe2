/-! grists: what both sides take. -/
def xGr (a _j : Nat) : Bool := a == 42 || a == 43 || a == 98 || a == 99
theorem InvT {σ τ : St} {Ls : List Ru} (hI : InvL Ls σ) (f : Fm xGr σ τ) : InvL Ls τ := by
  unfold InvL
  rw [f.2 6 0 rfl, f.2 11 2 rfl, f.gr (k := 24) (fun _ => rfl), f.gr (k := 48) (fun _ => rfl), f.2 2 4 rfl, f.2 11 43 rfl, f.gr (k := 12) (fun _ => rfl), f.gr (k := 13) (fun _ => rfl), f.gr (k := 14) (fun _ => rfl), f.gr (k := 15) (fun _ => rfl), f.gr (k := 73) (fun _ => rfl), f.gr (k := 74) (fun _ => rfl), f.gr (k := 75) (fun _ => rfl), f.gr (k := 76) (fun _ => rfl), f.2 2 5 rfl, f.2 11 48 rfl, f.2 2 6 rfl, f.2 11 49 rfl, f.gr (k := 16) (fun _ => rfl), f.gr (k := 77) (fun _ => rfl), f.2 0 5 rfl, f.2 11 51 rfl, f.2 3 0 rfl, f.2 11 52 rfl, f.gr (k := 17) (fun _ => rfl), f.gr (k := 18) (fun _ => rfl), f.gr (k := 78) (fun _ => rfl), f.gr (k := 79) (fun _ => rfl), f.gr (k := 80) (fun _ => rfl), f.2 4 4 rfl, f.2 11 56 rfl, f.gr (k := 20) (fun _ => rfl), f.gr (k := 21) (fun _ => rfl), f.gr (k := 22) (fun _ => rfl), f.gr (k := 23) (fun _ => rfl), f.gr (k := 81) (fun _ => rfl), f.gr (k := 82) (fun _ => rfl), f.gr (k := 83) (fun _ => rfl), f.gr (k := 84) (fun _ => rfl), f.2 9 5 rfl, f.2 11 61 rfl, f.gr (k := 39) (fun _ => rfl), f.gr (k := 40) (fun _ => rfl), f.gr (k := 41) (fun _ => rfl), f.gr (k := 85) (fun _ => rfl), f.gr (k := 86) (fun _ => rfl), f.gr (k := 87) (fun _ => rfl), f.2 10 1 rfl, f.2 11 75 rfl, f.gr (k := 44) (fun _ => rfl), f.gr (k := 95) (fun _ => rfl), f.2 5 2 rfl, f.2 11 17 rfl, f.2 3 4 rfl, f.gr (k := 19) (fun _ => rfl), f.2 11 66 rfl, f.2 11 67 rfl, f.gr (k := 88) (fun _ => rfl), f.gr (k := 89) (fun _ => rfl), f.gr (k := 90) (fun _ => rfl), f.2 8 0 rfl, f.2 8 1 rfl, f.2 8 15 rfl, f.2 11 18 rfl, f.2 11 23 rfl, f.2 11 32 rfl, f.2 11 38 rfl, f.gn, f.gr (k := 27) (fun _ => rfl), f.gr (k := 28) (fun _ => rfl), f.gr (k := 29) (fun _ => rfl), f.gr (k := 30) (fun _ => rfl), f.gr (k := 31) (fun _ => rfl), f.gr (k := 32) (fun _ => rfl), f.gr (k := 34) (fun _ => rfl), f.gr (k := 35) (fun _ => rfl), f.gr (k := 36) (fun _ => rfl), f.gr (k := 56) (fun _ => rfl), f.gr (k := 57) (fun _ => rfl), f.gr (k := 58) (fun _ => rfl), f.gr (k := 59) (fun _ => rfl), f.gr (k := 60) (fun _ => rfl), f.gr (k := 61) (fun _ => rfl), f.gr (k := 62) (fun _ => rfl), f.gr (k := 63) (fun _ => rfl), f.gr (k := 64) (fun _ => rfl), f.gr (k := 65) (fun _ => rfl), f.gr (k := 66) (fun _ => rfl), f.gr (k := 67) (fun _ => rfl), f.gr (k := 68) (fun _ => rfl), f.gr (k := 69) (fun _ => rfl), f.gr (k := 70) (fun _ => rfl), f.gr (k := 71) (fun _ => rfl), f.gw (k := 33), f.gw (k := 55), f.gw (k := 54), f.2 96 0 rfl, f.2 97 0 rfl]
  exact hI
theorem BunT {σ τ : St} {Ls : List Ru} {n O F : Nat} (Bn : Bun σ Ls n O F) (hI : InvL Ls τ) (f : Fm xGr σ τ) : Bun τ Ls n O F := by
  obtain ⟨n', O', F', B'⟩ := InvB hI
  obtain ⟨q1, q2, q3⟩ := BunF Bn
  obtain ⟨p1, p2, p3⟩ := BunF B'
  have e1 : n' = n := (nI_eq (by omega) (by omega)).mp (B'.1.2.2.1.symm.trans ((f.2 2 4 rfl).trans Bn.1.2.2.1))
  have e2 : O' = O := (nI_eq (by omega) (by omega)).mp (B'.1.2.2.2.2.2.1.symm.trans ((f.2 4 4 rfl).trans Bn.1.2.2.2.2.2.1))
  have e3 : F' = F := (nI_eq (by omega) (by omega)).mp (B'.2.1.2.1.symm.trans ((f.2 3 0 rfl).trans Bn.2.1.2.1))
  rw [e1, e2, e3] at B'
  exact B'
theorem cfD_T {σ τ : St} {Ls : List Ru} (f : Fm xGr σ τ) : cfD τ Ls = cfD σ Ls := by
  unfold cfD
  rw [f.2 2 4 rfl, f.gr (k := 12) (fun _ => rfl), f.gr (k := 13) (fun _ => rfl), f.gr (k := 15) (fun _ => rfl), f.2 2 5 rfl, f.2 2 6 rfl, f.gr (k := 16) (fun _ => rfl)]
theorem simD_T {σ τ : St} {Ls : List Ru} {O nn : Nat} {w : Int32} (f : Fm xGr σ τ) : simD τ Ls O nn w = simD σ Ls O nn w := by
  unfold simD
  rw [cfD_T f, f.gr (k := 17) (fun _ => rfl), f.gr (k := 18) (fun _ => rfl), f.gr (k := 20) (fun _ => rfl), f.gr (k := 21) (fun _ => rfl), f.gr (k := 22) (fun _ => rfl), f.gr (k := 23) (fun _ => rfl)]
theorem RnD.self {σ0 σ : St} {Ls : List Ru} {n O nn k t : Nat} {w : Int32} (h : RnD σ0 Ls n O nn w σ k t) : RnD σ Ls n O nn w σ k t := by
  obtain ⟨f, h2, h3⟩ := h
  unfold RnD StAt at *
  rw [f.gr (k := 17) (fun _ => rfl), f.gr (k := 18) (fun _ => rfl), f.gr (k := 20) (fun _ => rfl), f.gr (k := 21) (fun _ => rfl), f.gr (k := 22) (fun _ => rfl), f.gr (k := 23) (fun _ => rfl), simD_fm f]
  exact ⟨Fm.rf, h2, h3⟩
theorem RnD.grist {σ τ : St} {Ls : List Ru} {n O nn k t : Nat} {w : Int32} (h : RnD σ Ls n O nn w σ k t) (hk : 100 ≤ k) (f : Fm xGr σ τ) : RnD τ Ls n O nn w τ k t := by
  obtain ⟨_, h2, q1, q2, q3, q4, q5, q6⟩ := h
  have ek : ∀ a j, 100 ≤ a → gv τ a j = gv σ a j := fun a j h => f.2 a j (by simp [xGr]; omega)
  unfold RnD StAt
  rw [f.gr (k := 17) (fun _ => rfl), f.gr (k := 18) (fun _ => rfl), f.gr (k := 20) (fun _ => rfl), f.gr (k := 21) (fun _ => rfl), f.gr (k := 22) (fun _ => rfl), f.gr (k := 23) (fun _ => rfl), simD_T f]
  refine ⟨Fm.rf, fun i hi => (f.2 19 i rfl).trans (h2 i hi), ?_, ?_, ?_, fun i m hi hm => ?_, fun m hp hm => ?_, fun m hm => ?_⟩
  · rw [ek k 2 hk]; exact q1
  · rw [ek k 3 hk]; exact q2
  · rw [ek k 4 hk]; exact q3
  · rw [ek _ m (by omega)]; exact q4 i m hi hm
  · rw [ek _ m (by omega)]; exact q5 m hp hm
  · rw [ek _ m (by omega)]; exact q6 m hm
abbrev GsG := (Nat → Int32) × (Nat → Int32)
def updG (f : Nat → Int32) (j : Nat) (v : Int32) : Nat → Int32 := fun i => if i = j then v else f i
def tkG1 (wt : Nat → Int32) (t : Int32) (j : Nat) (y : Int32) (s : GsG) : GsG := (updG s.1 j (s.1 j + y), if s.1 j + y = wt j then updG s.2 j t else s.2)
/-- a mill's work of one hour, taken by its grists from j on -/
def tkGL (mi wt hr : Nat → Int32) (m t : Int32) : Nat → Nat → Int32 → GsG → GsG
  | 0, _, _, s => s
  | c + 1, j, x, s => if x ≤ 0 then s else if mi j = m ∧ ¬ t < hr j ∧ s.2 j = -1 then tkGL mi wt hr m t c (j + 1) (x - jmin x (wt j - s.1 j)) (tkG1 wt t j (jmin x (wt j - s.1 j)) s) else tkGL mi wt hr m t c (j + 1) x s
theorem tkGL_stop {mi wt hr : Nat → Int32} {m t : Int32} : ∀ (c j : Nat) (x : Int32) (s : GsG), (∀ i, j ≤ i → i < j + c → t < hr i) → tkGL mi wt hr m t c j x s = s
  | 0, _, _, _, _ => rfl
  | c + 1, j, x, s, h => by
    rw [tkGL]
    by_cases q : x ≤ 0
    · rw [if_pos q]
    · rw [if_neg q, if_neg (fun q => q.2.1 (h j (by omega) (by omega)))]
      exact tkGL_stop c (j + 1) x s (fun i h1 h2 => h i (by omega) (by omega))
def HdG (kd ke G : Nat) (mi : Nat → Int32) (m : Int32) (s : GsG) (τ : St) : Prop := ∀ j, j < G → mi j = m → gv τ kd j = s.1 j ∧ gv τ ke j = s.2 j
section HD
variable {kd ke G : Nat} {mi : Nat → Int32} {m : Int32} {s : GsG} {τ : St}
theorem HdG_set (hd : ke ≠ kd) (h : HdG kd ke G mi m s τ) (j : Nat) (v : Int32) : HdG kd ke G mi m (updG s.1 j v, s.2) (pv τ kd j v) := by
  intro i hi hm
  have e1 : gv (pv τ kd j v) ke i = gv τ ke i := by rw [gv_pv, if_neg (fun q => hd q.1)]
  refine ⟨?_, e1.trans (h i hi hm).2⟩
  show _ = updG s.1 j v i
  rw [gv_pv]
  unfold updG
  by_cases q : i = j
  · rw [if_pos ⟨rfl, q⟩, if_pos q]
  · rw [if_neg (fun z => q z.2), if_neg q]
    exact (h i hi hm).1
theorem HdG_end (hd : kd ≠ ke) (h : HdG kd ke G mi m s τ) (j : Nat) (v : Int32) : HdG kd ke G mi m (s.1, updG s.2 j v) (pv τ ke j v) := by
  intro i hi hm
  rw [gv_pv, gv_pv, if_neg (fun q => hd q.1)]
  refine ⟨(h i hi hm).1, ?_⟩
  show _ = updG s.2 j v i
  unfold updG
  by_cases q : i = j
  · rw [if_pos ⟨rfl, q⟩, if_pos q]
  · rw [if_neg (fun z => q z.2), if_neg q]
    exact (h i hi hm).2
theorem HdG_ne (h : HdG kd ke G mi m s τ) {j : Nat} (hj : mi j ≠ m) (k : Nat) (v : Int32) : HdG kd ke G mi m s (pv τ k j v) := by
  intro i hi hm
  have q : i ≠ j := fun z => hj (by rw [← z]; exact hm)
  rw [gv_pv, gv_pv, if_neg (fun z => q z.2), if_neg (fun z => q z.2)]
  exact h i hi hm
end HD
section TK
theorem tkD_loop {Q : St → Prop} {τ0 : St} {G : Nat} (hG : G ≤ 60) (eG : gv τ0 9 5 = nI G) {m t : Int32} {RES : GsG} (hQ : ∀ τ, Fm xGr τ0 τ → HdG 42 43 G (gr τ0 40) m RES τ → Q τ) : ∀ (c j : Nat) (x : Int32) (s : GsG) (τ : St), j + c = G → Fm xGr τ0 τ → HdG 42 43 G (gr τ0 40) m s τ → tkGL (gr τ0 40) (gr τ0 41) (gr τ0 39) m t c j x s = RES → wX1_take_6 Q (c + 1) m t x (nI j) τ := by
  intro c
  induction c with
  | zero =>
    intro j x s τ hj f hd hR
    have hR : s = RES := hR
    refine ⟨fun _ => hQ τ f (by rw [← hR]; exact hd), fun c => ?_⟩
    rw [f.2 9 5 rfl, eG] at c
    exact absurd (nI_le (by omega) (by omega)) c
  | succ c ih =>
    intro j x s τ hj f hd hR
    have e40 : gv τ 40 j = gr τ0 40 j := f.2 40 j rfl
    have e41 : gv τ 41 j = gr τ0 41 j := f.2 41 j rfl
    have e39 : gv τ 39 j = gr τ0 39 j := f.2 39 j rfl
    have v : vp_in (nI j) 60 := vp_in_nI (by omega) (by decide)
    rw [tkGL] at hR
    rw [wX1_take_6, f.2 9 5 rfl, eG, nI_clamp (by omega), e40, e39]
    refine ⟨fun c => absurd c (nI_ge (by omega) (by omega)), fun _ => ⟨fun c1 => hQ τ f (by rw [if_pos c1] at hR; rw [← hR]; exact hd), fun c1 => ⟨v, fun c2 => ⟨v, fun c3 => ?_, fun c3 => ⟨v, fun c4 => ⟨v, v, ?_⟩, fun c4 => ?_⟩⟩, fun c2 => ?_⟩⟩⟩
    · rw [if_neg c1, if_neg (fun q => q.2.1 c3)] at hR
      rintro x5 rfl
      rw [nI_1]
      exact ih (j + 1) x s τ (by omega) f hd hR
    · have hh := hd j (by omega) c2
      rw [hh.2] at c4
      rw [if_neg c1, if_pos ⟨c2, c3, c4⟩] at hR
      rw [e41, hh.1]
      rintro y rfl
      refine ⟨v, v, ?_⟩
      rintro σ1 h1 x4 rfl
      have f1 : Fm xGr τ σ1 := by rw [h1]; exact Fm_pv rfl
      have g42 : gv σ1 42 j = s.1 j + jmin x (gr τ0 41 j - s.1 j) := by rw [h1, gv_pv, if_pos ⟨rfl, rfl⟩]
      have g41 : gv σ1 41 j = gr τ0 41 j := by rw [h1, gv_pv, if_neg (fun q => absurd q.1 (by decide)), e41]
      have d1 : HdG 42 43 G (gr τ0 40) m (updG s.1 j (s.1 j + jmin x (gr τ0 41 j - s.1 j)), s.2) σ1 := by rw [h1]; exact HdG_set (by decide) hd j _
      rw [g42, g41]
      refine ⟨v, v, fun c5 => ⟨v, ?_⟩, fun c5 => ?_⟩
      · rintro σ2 rfl x5 rfl
        rw [nI_1]
        refine ih (j + 1) _ _ _ (by omega) ((f.tr f1).tr (Fm_pv rfl)) ?_ hR
        rw [tkG1, if_pos c5]
        exact HdG_end (by decide) d1 j t
      · rintro x5 rfl
        rw [nI_1]
        refine ih (j + 1) _ _ _ (by omega) (f.tr f1) ?_ hR
        rw [tkG1, if_neg c5]
        exact d1
    · have hh := hd j (by omega) c2
      rw [if_neg c1, if_neg (fun q => c4 (hh.2.trans q.2.2))] at hR
      rintro x5 rfl
      rw [nI_1]
      exact ih (j + 1) x s τ (by omega) f hd hR
    · rw [if_neg c1, if_neg (fun q => c2 q.1)] at hR
      rintro x5 rfl
      rw [nI_1]
      exact ih (j + 1) x s τ (by omega) f hd hR
end TK
