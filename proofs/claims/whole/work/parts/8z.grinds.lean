/-! grists: the reference's grinds. -/
section GM
variable {Q : St → Prop} {G : Nat} {mi wt hr : Nat → Int32}
/-- the reference's grists before hour by hour -/
def GrM (τ : St) (G : Nat) (mi wt hr : Nat → Int32) : Prop := gv τ 11 61 = nI G ∧ gr τ 85 = mi ∧ gr τ 86 = wt ∧ gr τ 87 = hr
theorem GrM.fm {τ τ' : St} (h : GrM τ G mi wt hr) (f : Fm xGr τ τ') : GrM τ' G mi wt hr := ⟨(f.2 11 61 rfl).trans h.1, (f.gr (fun _ => rfl)).trans h.2.1, (f.gr (fun _ => rfl)).trans h.2.2.1, (f.gr (fun _ => rfl)).trans h.2.2.2⟩
theorem jmin_le {x y : Int32} (h : x ≤ y) : jmin x y = x := if_neg (Int32.not_lt.mpr h)
theorem jmin_gt {x y : Int32} (h : ¬ x ≤ y) : jmin x y = y := if_pos (Int32.not_le.mp h)
theorem gkM_loop {K38 : Int32 → Int32 → St → Prop} {K46 : Int32 → Int32 → Int32 → St → Prop} {τ0 : St} (hG : G ≤ 60) (hs : ∀ i j, i ≤ j → j < G → hr i ≤ hr j) {H t m m' : Int32} {RES : GsG} (hQ : ∀ τ, Fm xGr τ0 τ → GrM τ G mi wt hr → HdG 98 99 G mi m RES τ → K46 H t (m' + 1) τ) : ∀ (c j : Nat) (x : Int32) (s : GsG) (τ : St), j + c = G → Fm xGr τ0 τ → GrM τ G mi wt hr → HdG 98 99 G mi m s τ → ((m' = m ∧ tkGL mi wt hr m t c j x s = RES) ∨ (m' ≠ m ∧ s = RES)) → wX12_grinds_78 Q K38 K46 (c + 1) H t m' x (nI j) τ := by
  intro c
  induction c with
  | zero =>
    intro j x s τ hj f g hd hR
    have hR : s = RES := hR.elim (fun q => q.2) (fun q => q.2)
    refine ⟨fun _ => ?_, fun c => ?_⟩
    · rintro x4 rfl
      rw [hR] at hd
      exact hQ τ f g hd
    · rw [g.1] at c
      exact absurd (nI_le (by omega) (by omega)) c
  | succ c ih =>
    intro j x s τ hj f g hd hR
    have e85 : gv τ 85 j = mi j := congrFun g.2.1 j
    have e86 : gv τ 86 j = wt j := congrFun g.2.2.1 j
    have e87 : gv τ 87 j = hr j := congrFun g.2.2.2 j
    have v : vp_in (nI j) 60 := vp_in_nI (by omega) (by decide)
    have stop : s = RES → ∀ x4_1 : Int32, x4_1 = m' + 1 → K46 H t x4_1 τ := by
      rintro q x4 rfl
      rw [q] at hd
      exact hQ τ f g hd
    have skip : (m' = m → ¬ x ≤ 0 → ¬ (mi j = m ∧ ¬ t < hr j ∧ s.2 j = -1)) → ¬ x ≤ 0 → ∀ x6_1 : Int32, x6_1 = nI j + 1 → wX12_grinds_78 Q K38 K46 (c + 1) H t m' x x6_1 τ := by
      rintro q c1 x6 rfl
      rw [nI_1]
      refine ih (j + 1) x s τ (by omega) f g hd ?_
      rcases hR with ⟨a, b⟩ | b
      · refine Or.inl ⟨a, ?_⟩
        rw [tkGL, if_neg c1, if_neg (q a c1)] at b
        exact b
      · exact Or.inr b
    rw [wX12_grinds_78, g.1, nI_clamp (by omega), e85, e87]
    refine ⟨fun c => absurd c (nI_ge (by omega) (by omega)), fun _ => ⟨fun c1 => stop ?_, fun c1 => ⟨v, fun c2 => ⟨v, fun c3 => ⟨v, fun c4 => ?_, fun c4 => stop ?_⟩, fun c3 => skip (fun a _ q => ?_) c1⟩, fun c2 => skip (fun a _ q => c2 (by rw [a]; exact q.1)) c1⟩⟩⟩
    · rcases hR with ⟨a, b⟩ | b
      · rw [tkGL, if_pos c1] at b
        exact b
      · exact b.2
    · -- a grist takes
      have wr : ∀ y : Int32, (m' = m → y = jmin x (wt j - s.1 j)) → wX12_grinds_172 Q K38 K46 (fun x2' x3' x4' x5' x6' σ' => wX12_grinds_78 Q K38 K46 (c + 1) x2' x3' x4' x5' x6' σ') H t m' x (nI j) y τ := by
        intro y hy
        unfold wX12_grinds_172
        rw [nI_clamp (by omega)]
        refine ⟨v, v, ?_⟩
        rintro σ1 h1 x5 rfl
        have f1 : Fm xGr τ σ1 := by rw [h1]; exact Fm_pv rfl
        have g1 := g.fm f1
        rcases hR with ⟨a, b⟩ | ⟨a, b⟩
        · have c2' : mi j = m := c2.trans a
          have hh := hd j (by omega) c2'
          have hy := hy a
          rw [tkGL, if_neg c1, if_pos ⟨c2', Int32.not_lt.mpr c4, hh.2.symm.trans c3⟩, ← hy] at b
          have g98 : gv σ1 98 j = s.1 j + y := by rw [h1, gv_pv, if_pos ⟨rfl, rfl⟩, hh.1]
          have d1 : HdG 98 99 G mi m (updG s.1 j (s.1 j + y), s.2) σ1 := by rw [h1, hh.1]; exact HdG_set (by decide) hd j _
          rw [g98, show gv σ1 86 j = wt j from congrFun g1.2.2.1 j]
          refine ⟨v, v, fun c5 => ⟨v, ?_⟩, fun c5 => ?_⟩
          · rintro σ2 rfl x6 rfl
            rw [nI_1]
            have f2 : Fm xGr σ1 (pv σ1 99 j t) := Fm_pv rfl
            refine ih (j + 1) _ _ _ (by omega) ((f.tr f1).tr f2) (g1.fm f2) ?_ (Or.inl ⟨a, b⟩)
            rw [tkG1, if_pos c5]
            exact HdG_end (by decide) d1 j t
          · rintro x6 rfl
            rw [nI_1]
            refine ih (j + 1) _ _ _ (by omega) (f.tr f1) g1 ?_ (Or.inl ⟨a, b⟩)
            rw [tkG1, if_neg c5]
            exact d1
        · have c2' : mi j ≠ m := fun q => a (c2.symm.trans q)
          have d1 : HdG 98 99 G mi m s σ1 := by rw [h1]; exact HdG_ne hd c2' _ _
          refine ⟨v, v, fun c5 => ⟨v, ?_⟩, fun c5 => ?_⟩
          · rintro σ2 rfl x6 rfl
            rw [nI_1]
            have f2 : Fm xGr σ1 (pv σ1 99 j t) := Fm_pv rfl
            exact ih (j + 1) _ s _ (by omega) ((f.tr f1).tr f2) (g1.fm f2) (HdG_ne d1 c2' _ _) (Or.inr ⟨a, b⟩)
          · rintro x6 rfl
            rw [nI_1]
            exact ih (j + 1) _ s _ (by omega) (f.tr f1) g1 d1 (Or.inr ⟨a, b⟩)
      rw [e86]
      refine ⟨v, v, fun c5 => wr _ (fun a => ?_), fun c5 => ⟨v, v, wr _ (fun a => ?_)⟩⟩
      · rw [(hd j (by omega) (c2.trans a)).1] at c5
        exact (jmin_le c5).symm
      · rw [(hd j (by omega) (c2.trans a)).1] at c5 ⊢
        exact (jmin_gt c5).symm
    · rcases hR with ⟨a, b⟩ | b
      · rw [tkGL_stop] at b
        · exact b
        · intro i h1 h2
          exact Int32.lt_of_lt_of_le (Int32.not_le.mp c4) (hs j i h1 (by omega))
      · exact b.2
    · exact c3 ((hd j (by omega) q.1).2.trans q.2.2)
end GM
