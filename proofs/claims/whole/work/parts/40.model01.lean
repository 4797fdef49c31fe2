abbrev rmX12_works : Room := { frames := 5, cells := 0, slots := 0, locals := 141 }
def wX12_works_55 (Q : St → Prop) : Nat → Int32 → Int32 → Int32 → St → Prop
  | 0, _, _, _, _ => False
  | n + 1, x1, x2, x3, σ => (((240 : Int32) ≤ x3 → ∀ σ2 : St, σ2 = pv σ 11 66 x1 → ∀ σ3 : St, σ3 = pv σ2 11 67 x2 → Q σ3) ∧ (¬ ((240 : Int32) ≤ x3) → wX12_steps x3 (-1 : Int32) (0 : Int32) σ (fun (σ5 : St) => ∀ x3_6 : Int32, x3_6 = x3 + 1 → wX12_works_55 Q n x1 x2 x3_6 σ5)))
def wX12_works_29 (Q : St → Prop) : Nat → Int32 → Int32 → Int32 → St → Prop
  | 0, _, _, _, _ => False
  | n + 1, x1, x2, x3, σ => (((gv σ 11 43) ≤ x3 → ∃ j : Nat, wX12_works_55 Q j x1 x2 (0 : Int32) σ) ∧ (¬ ((gv σ 11 43) ≤ x3) → vp_in ((10 : Int32) * x3) 16800 ∧ ∀ σ3 : St, σ3 = pv σ 88 ((10 : Int32) * x3).toNatClampNeg (0 : Int32) → ∀ x3_4 : Int32, x3_4 = x3 + 1 → wX12_works_29 Q n x1 x2 x3_4 σ3))
def wX12_works_17 (Q : St → Prop) (x1 : Int32) (x2 : Int32) (σ : St) : Prop := wX12_knows x1 σ (fun (σ2 : St) => wX12_sets x2 σ2 (fun (σ4 : St) => ∃ j : Nat, wX12_works_29 Q j x1 x2 (0 : Int32) σ4))
def wX12_works (x1 : Int32) (x2 : Int32) (σ : St) (Q : St → Prop) : Prop := (((gv σ 11 66) = x1 → (((gv σ 11 67) = x2 → Q σ) ∧ (¬ ((gv σ 11 67) = x2) → wX12_works_17 Q x1 x2 σ))) ∧ (¬ ((gv σ 11 66) = x1) → wX12_works_17 Q x1 x2 σ))
abbrev rmX12_isKnown : Room := { frames := 0, cells := 0, slots := 0, locals := 0 }
def wX12_isKnown (x1 : Int32) (σ : St) (Q : Int32 → St → Prop) : Prop := ((x1 < 0 → Q (0 : Int32) σ) ∧ (¬ (x1 < 0) → (((gv σ 11 52) < x1 → Q (0 : Int32) σ) ∧ (¬ ((gv σ 11 52) < x1) → Q (1 : Int32) σ))))
abbrev rmX12_isEnd : Room := { frames := 0, cells := 0, slots := 0, locals := 0 }
def wX12_isEnd (x0 : Int32) (σ : St) (Q : Int32 → St → Prop) : Prop := ((x0 < 0 → Q (0 : Int32) σ) ∧ (¬ (x0 < 0) → (((240 : Int32) < x0 → Q (0 : Int32) σ) ∧ (¬ ((240 : Int32) < x0) → Q (1 : Int32) σ))))
abbrev rmX12_at_ : Room := { frames := 6, cells := 0, slots := 0, locals := 164 }
def wX12_at_ (x1 : Int32) (x2 : Int32) (x3 : Int32) (x4 : Int32) (σ : St) (Q : Int32 → St → Prop) : Prop := wX12_isMill x2 σ (fun (r1 : Int32) (σ2 : St) => ((r1 = 0 → Q (-1000000 : Int32) σ2) ∧ (¬ (r1 = 0) → ((x1 < 0 → Q (-1000000 : Int32) σ2) ∧ (¬ (x1 < 0) → (((240 : Int32) ≤ x1 → Q (-1000000 : Int32) σ2) ∧ (¬ ((240 : Int32) ≤ x1) → wX12_isKnown x3 σ2 (fun (r6 : Int32) (σ7 : St) => ((r6 = 0 → Q (-1000000 : Int32) σ7) ∧ (¬ (r6 = 0) → ((x4 < 0 → Q (-1000000 : Int32) σ7) ∧ (¬ (x4 < 0) → ((x4 ≤ (9 : Int32) → wX12_works x3 (-1 : Int32) σ7 (fun (σ12 : St) => vp_in (((10 : Int32) * (((7 : Int32) * x1) + x2)) + x4) 16800 ∧ Q (gv σ12 88 (((10 : Int32) * (((7 : Int32) * x1) + x2)) + x4).toNatClampNeg) σ12)) ∧ (¬ (x4 ≤ (9 : Int32)) → Q (-1000000 : Int32) σ7))))))))))))))
abbrev rmX12_sea : Room := { frames := 6, cells := 0, slots := 0, locals := 164 }
def wX12_sea_37 (Q : Int32 → St → Prop) : Nat → Int32 → Int32 → Int32 → St → Prop
  | 0, _, _, _, _ => False
  | n + 1, x1, x3, x4, σ => ((x1 ≤ x4 → Q x3 σ) ∧ (¬ (x1 ≤ x4) → vp_in (((10 : Int32) * ((((7 : Int32) * x4) + (gv σ 11 43)) - (1 : Int32))) + (9 : Int32)) 16800 ∧ ∀ x3_3 : Int32, x3_3 = x3 + (gv σ 88 (((10 : Int32) * ((((7 : Int32) * x4) + (gv σ 11 43)) - (1 : Int32))) + (9 : Int32)).toNatClampNeg) → ∀ x4_4 : Int32, x4_4 = x4 + 1 → wX12_sea_37 Q n x1 x3_3 x4_4 σ))
def wX12_sea (x1 : Int32) (x2 : Int32) (σ : St) (Q : Int32 → St → Prop) : Prop := wX12_isEnd x1 σ (fun (r1 : Int32) (σ2 : St) => ((r1 = 0 → Q (-1 : Int32) σ2) ∧ (¬ (r1 = 0) → wX12_isKnown x2 σ2 (fun (r4 : Int32) (σ5 : St) => ((r4 = 0 → Q (-1 : Int32) σ5) ∧ (¬ (r4 = 0) → (((gv σ5 11 43) = 0 → Q (0 : Int32) σ5) ∧ (¬ ((gv σ5 11 43) = 0) → wX12_works x2 (-1 : Int32) σ5 (fun (σ9 : St) => ∃ j : Nat, wX12_sea_37 Q j x1 (0 : Int32) (0 : Int32) σ9)))))))))
abbrev rmX12_breaks : Room := { frames := 4, cells := 0, slots := 0, locals := 108 }
def wX12_breaks (x1 : Int32) (x2 : Int32) (x3 : Int32) (σ : St) (Q : Int32 → St → Prop) : Prop := vp_in x1 31 ∧ (((gv σ 60 x1.toNatClampNeg) = 0 → wX12_counts x1 x2 x3 (-1 : Int32) σ (fun (r3 : Int32) (σ4 : St) => ((r3 = 0 → Q (0 : Int32) σ4) ∧ (¬ (r3 = 0) → vp_in x1 31 ∧ vp_in x1 31 ∧ wX12_holds (gv σ4 61 x1.toNatClampNeg) (gv σ4 62 x1.toNatClampNeg) x2 x3 (-1 : Int32) σ4 (fun (r8 : Int32) (σ9 : St) => ((r8 = 0 → Q (1 : Int32) σ9) ∧ (¬ (r8 = 0) → Q (0 : Int32) σ9))))))) ∧ (¬ ((gv σ 60 x1.toNatClampNeg) = 0) → Q (0 : Int32) σ))
abbrev rmX12_broken : Room := { frames := 6, cells := 0, slots := 0, locals := 164 }
def wX12_broken_90 (Q : Int32 → St → Prop) (K37 : Int32 → Int32 → Int32 → St → Prop) (K49 : Int32 → Int32 → Int32 → Int32 → St → Prop) (x1 : Int32) (x4 : Int32) (x5 : Int32) (x6 : Int32) (σ : St) : Prop := ∀ x6_1 : Int32, x6_1 = x6 + 1 → K49 x1 x4 x5 x6_1 σ
def wX12_broken_49 (Q : Int32 → St → Prop) (K37 : Int32 → Int32 → Int32 → St → Prop) : Nat → Int32 → Int32 → Int32 → Int32 → St → Prop
  | 0, _, _, _, _, _ => False
  | n + 1, x1, x4, x5, x6, σ => (((gv σ 11 23) ≤ x6 → ∀ x5_2 : Int32, x5_2 = x5 + 1 → K37 x1 x4 x5_2 σ) ∧ (¬ ((gv σ 11 23) ≤ x6) → wX12_breaks x6 x5 x1 σ (fun (r3 : Int32) (σ4 : St) => ((r3 = 0 → wX12_broken_90 Q K37 (fun x1' x4' x5' x6' σ' => wX12_broken_49 Q K37 n x1' x4' x5' x6' σ') x1 x4 x5 x6 σ4) ∧ (¬ (r3 = 0) → ((x4 = 0 → Q (((100 : Int32) * x5) + x6) σ4) ∧ (¬ (x4 = 0) → ∀ x4_7 : Int32, x4_7 = x4 + (-1) → wX12_broken_90 Q K37 (fun x1' x4' x5' x6' σ' => wX12_broken_49 Q K37 n x1' x4' x5' x6' σ') x1 x4_7 x5 x6 σ4)))))))
def wX12_broken_37 (Q : Int32 → St → Prop) : Nat → Int32 → Int32 → Int32 → St → Prop
  | 0, _, _, _, _ => False
  | n + 1, x1, x4, x5, σ => (((gv σ 11 43) ≤ x5 → Q (-1 : Int32) σ) ∧ (¬ ((gv σ 11 43) ≤ x5) → ∃ j : Nat, wX12_broken_49 Q (fun x1' x4' x5' σ' => wX12_broken_37 Q n x1' x4' x5' σ') j x1 x4 x5 (0 : Int32) σ))
def wX12_broken (x1 : Int32) (x2 : Int32) (x3 : Int32) (σ : St) (Q : Int32 → St → Prop) : Prop := ((x1 < 0 → Q (-1 : Int32) σ) ∧ (¬ (x1 < 0) → (((240 : Int32) ≤ x1 → Q (-1 : Int32) σ) ∧ (¬ ((240 : Int32) ≤ x1) → wX12_isKnown x2 σ (fun (r3 : Int32) (σ4 : St) => ((r3 = 0 → Q (-1 : Int32) σ4) ∧ (¬ (r3 = 0) → ((0 ≤ x3 → wX12_works x2 (-1 : Int32) σ4 (fun (σ8 : St) => ∃ j : Nat, wX12_broken_37 Q j x1 x3 (0 : Int32) σ8)) ∧ (¬ (0 ≤ x3) → Q (-1 : Int32) σ4)))))))))
abbrev rmX12_first : Room := { frames := 6, cells := 0, slots := 0, locals := 164 }
def wX12_first_54 (Q : Int32 → St → Prop) (K33 : Int32 → Int32 → St → Prop) (K42 : Int32 → Int32 → Int32 → St → Prop) : Nat → Int32 → Int32 → Int32 → Int32 → St → Prop
  | 0, _, _, _, _, _ => False
  | n + 1, x2, x4, x5, x6, σ => (((gv σ 11 23) ≤ x6 → ∀ x5_2 : Int32, x5_2 = x5 + 1 → K42 x2 x4 x5_2 σ) ∧ (¬ ((gv σ 11 23) ≤ x6) → wX12_breaks x6 x5 x4 σ (fun (r3 : Int32) (σ4 : St) => ((r3 = 0 → ∀ x6_6 : Int32, x6_6 = x6 + 1 → wX12_first_54 Q K33 K42 n x2 x4 x5 x6_6 σ4) ∧ (¬ (r3 = 0) → Q x4 σ4)))))
def wX12_first_42 (Q : Int32 → St → Prop) (K33 : Int32 → Int32 → St → Prop) : Nat → Int32 → Int32 → Int32 → St → Prop
  | 0, _, _, _, _ => False
  | n + 1, x2, x4, x5, σ => (((gv σ 11 43) ≤ x5 → ∀ x4_2 : Int32, x4_2 = x4 + 1 → K33 x2 x4_2 σ) ∧ (¬ ((gv σ 11 43) ≤ x5) → ∃ j : Nat, wX12_first_54 Q K33 (fun x2' x4' x5' σ' => wX12_first_42 Q K33 n x2' x4' x5' σ') j x2 x4 x5 (0 : Int32) σ))
def wX12_first_33 (Q : Int32 → St → Prop) : Nat → Int32 → Int32 → St → Prop
  | 0, _, _, _ => False
  | n + 1, x2, x4, σ => ((x2 ≤ x4 → Q (-1 : Int32) σ) ∧ (¬ (x2 ≤ x4) → ∃ j : Nat, wX12_first_42 Q (fun x2' x4' σ' => wX12_first_33 Q n x2' x4' σ') j x2 x4 (0 : Int32) σ))
def wX12_first (x1 : Int32) (x2 : Int32) (x3 : Int32) (σ : St) (Q : Int32 → St → Prop) : Prop := wX12_isEnd x1 σ (fun (r1 : Int32) (σ2 : St) => ((r1 = 0 → Q (-1 : Int32) σ2) ∧ (¬ (r1 = 0) → wX12_isEnd x2 σ2 (fun (r4 : Int32) (σ5 : St) => ((r4 = 0 → Q (-1 : Int32) σ5) ∧ (¬ (r4 = 0) → wX12_isKnown x3 σ5 (fun (r7 : Int32) (σ8 : St) => ((r7 = 0 → Q (-1 : Int32) σ8) ∧ (¬ (r7 = 0) → wX12_works x3 (-1 : Int32) σ8 (fun (σ11 : St) => ∃ j : Nat, wX12_first_33 Q j x2 x1 σ11))))))))))
abbrev rmX12_workOf : Room := { frames := 6, cells := 0, slots := 0, locals := 164 }
def wX12_workOf_14 (Q : Int32 → St → Prop) : Nat → Int32 → Int32 → Int32 → Int32 → St → Prop
  | 0, _, _, _, _, _ => False
  | n + 1, x1, x3, x6, x7, σ => ((x3 ≤ x7 → Q x6 σ) ∧ (¬ (x3 ≤ x7) → vp_in (((10 : Int32) * (((7 : Int32) * x7) + x1)) + (6 : Int32)) 16800 ∧ ∀ x6_3 : Int32, x6_3 = x6 + (gv σ 88 (((10 : Int32) * (((7 : Int32) * x7) + x1)) + (6 : Int32)).toNatClampNeg) → ∀ x7_4 : Int32, x7_4 = x7 + 1 → wX12_workOf_14 Q n x1 x3 x6_3 x7_4 σ))
def wX12_workOf (x1 : Int32) (x2 : Int32) (x3 : Int32) (x4 : Int32) (x5 : Int32) (σ : St) (Q : Int32 → St → Prop) : Prop := wX12_works x4 x5 σ (fun (σ2 : St) => ∃ j : Nat, wX12_workOf_14 Q j x1 x3 (0 : Int32) x2 σ2)
abbrev rmX12_loss : Room := { frames := 7, cells := 0, slots := 0, locals := 191 }
def wX12_loss (x1 : Int32) (x2 : Int32) (x3 : Int32) (x4 : Int32) (x5 : Int32) (σ : St) (Q : Int32 → St → Prop) : Prop := ((x1 < 0 → Q (-1000000 : Int32) σ) ∧ (¬ (x1 < 0) → (((gv σ 11 56) ≤ x1 → Q (-1000000 : Int32) σ) ∧ (¬ ((gv σ 11 56) ≤ x1) → wX12_isMill x2 σ (fun (r3 : Int32) (σ4 : St) => ((r3 = 0 → Q (-1000000 : Int32) σ4) ∧ (¬ (r3 = 0) → wX12_isEnd x3 σ4 (fun (r6 : Int32) (σ7 : St) => ((r6 = 0 → Q (-1000000 : Int32) σ7) ∧ (¬ (r6 = 0) → wX12_isEnd x4 σ7 (fun (r9 : Int32) (σ10 : St) => ((r9 = 0 → Q (-1000000 : Int32) σ10) ∧ (¬ (r9 = 0) → wX12_isKnown x5 σ10 (fun (r12 : Int32) (σ13 : St) => ((r12 = 0 → Q (-1000000 : Int32) σ13) ∧ (¬ (r12 = 0) → wX12_workOf x2 x3 x4 x5 x1 σ13 (fun (r15 : Int32) (σ16 : St) => wX12_workOf x2 x3 x4 x5 (-1 : Int32) σ16 (fun (r17 : Int32) (σ18 : St) => Q (r15 - r17) σ18))))))))))))))))))
abbrev rmX12_culprit : Room := { frames := 7, cells := 0, slots := 0, locals := 191 }
def wX12_culprit_111 (Q : Int32 → St → Prop) (K54 : Int32 → Int32 → Int32 → Int32 → Int32 → Int32 → Int32 → Int32 → St → Prop) (x1 : Int32) (x2 : Int32) (x3 : Int32) (x4 : Int32) (x5 : Int32) (x6 : Int32) (x7 : Int32) (x8 : Int32) (σ : St) : Prop := ∀ x8_1 : Int32, x8_1 = x8 + 1 → K54 x1 x2 x3 x4 x5 x6 x7 x8_1 σ
def wX12_culprit_54 (Q : Int32 → St → Prop) : Nat → Int32 → Int32 → Int32 → Int32 → Int32 → Int32 → Int32 → Int32 → St → Prop
  | 0, _, _, _, _, _, _, _, _, _ => False
  | n + 1, x1, x2, x3, x4, x5, x6, x7, x8, σ => (((gv σ 11 56) ≤ x8 → Q x6 σ) ∧ (¬ ((gv σ 11 56) ≤ x8) → vp_in x8 200 ∧ (((gv σ 82 x8.toNatClampNeg) = x1 → wX12_culprit_111 Q (fun x1' x2' x3' x4' x5' x6' x7' x8' σ' => wX12_culprit_54 Q n x1' x2' x3' x4' x5' x6' x7' x8' σ') x1 x2 x3 x4 x5 x6 x7 x8 σ) ∧ (¬ ((gv σ 82 x8.toNatClampNeg) = x1) → wX12_workOf x1 x2 x3 x4 x8 σ (fun (r4 : Int32) (σ5 : St) => ∀ x9_6 : Int32, x9_6 = r4 - x5 → ((x7 < x9_6 → wX12_culprit_111 Q (fun x1' x2' x3' x4' x5' x6' x7' x8' σ' => wX12_culprit_54 Q n x1' x2' x3' x4' x5' x6' x7' x8' σ') x1 x2 x3 x4 x5 x8 x9_6 x8 σ5) ∧ (¬ (x7 < x9_6) → wX12_culprit_111 Q (fun x1' x2' x3' x4' x5' x6' x7' x8' σ' => wX12_culprit_54 Q n x1' x2' x3' x4' x5' x6' x7' x8' σ') x1 x2 x3 x4 x5 x6 x7 x8 σ5)))))))
def wX12_culprit (x1 : Int32) (x2 : Int32) (x3 : Int32) (x4 : Int32) (σ : St) (Q : Int32 → St → Prop) : Prop := wX12_isMill x1 σ (fun (r1 : Int32) (σ2 : St) => ((r1 = 0 → Q (-1 : Int32) σ2) ∧ (¬ (r1 = 0) → wX12_isEnd x2 σ2 (fun (r4 : Int32) (σ5 : St) => ((r4 = 0 → Q (-1 : Int32) σ5) ∧ (¬ (r4 = 0) → wX12_isEnd x3 σ5 (fun (r7 : Int32) (σ8 : St) => ((r7 = 0 → Q (-1 : Int32) σ8) ∧ (¬ (r7 = 0) → wX12_isKnown x4 σ8 (fun (r10 : Int32) (σ11 : St) => ((r10 = 0 → Q (-1 : Int32) σ11) ∧ (¬ (r10 = 0) → wX12_workOf x1 x2 x3 x4 (-1 : Int32) σ11 (fun (r13 : Int32) (σ14 : St) => ∃ j : Nat, wX12_culprit_54 Q j x1 x2 x3 x4 r13 (-1 : Int32) (0 : Int32) (0 : Int32) σ14)))))))))))))
abbrev rmX12_isGood : Room := { frames := 5, cells := 0, slots := 0, locals := 131 }
def wX12_isGood_12 (Q : Int32 → St → Prop) (K2 : Int32 → Int32 → St → Prop) : Nat → Int32 → Int32 → Int32 → St → Prop
  | 0, _, _, _, _ => False
  | n + 1, x1, x2, x3, σ => (((gv σ 11 23) ≤ x3 → ∀ x2_2 : Int32, x2_2 = x2 + 1 → K2 x1 x2_2 σ) ∧ (¬ ((gv σ 11 23) ≤ x3) → wX12_breaks x3 x2 x1 σ (fun (r3 : Int32) (σ4 : St) => ((r3 = 0 → ∀ x3_6 : Int32, x3_6 = x3 + 1 → wX12_isGood_12 Q K2 n x1 x2 x3_6 σ4) ∧ (¬ (r3 = 0) → Q (0 : Int32) σ4)))))
def wX12_isGood_2 (Q : Int32 → St → Prop) : Nat → Int32 → Int32 → St → Prop
  | 0, _, _, _ => False
  | n + 1, x1, x2, σ => (((gv σ 11 43) ≤ x2 → Q (1 : Int32) σ) ∧ (¬ ((gv σ 11 43) ≤ x2) → ∃ j : Nat, wX12_isGood_12 Q (fun x1' x2' σ' => wX12_isGood_2 Q n x1' x2' σ') j x1 x2 (0 : Int32) σ))
def wX12_isGood (x1 : Int32) (σ : St) (Q : Int32 → St → Prop) : Prop := ∃ j : Nat, wX12_isGood_2 Q j x1 (0 : Int32) σ
abbrev rmX12_plan : Room := { frames := 6, cells := 0, slots := 0, locals := 164 }
def wX12_plan_292 (Q : Int32 → St → Prop) (K71 : Int32 → Int32 → Int32 → Int32 → Int32 → St → Prop) : Nat → Int32 → Int32 → Int32 → Int32 → Int32 → Int32 → St → Prop
  | 0, _, _, _, _, _, _, _ => False
  | n + 1, x1, x2, x3, x4, x5, x8, σ => ((x2 ≤ x8 → K71 x1 x2 x3 x4 x5 σ) ∧ (¬ (x2 ≤ x8) → vp_in x8 6 ∧ vp_in x8 6 ∧ ∀ σ4 : St, σ4 = pv σ 95 x8.toNatClampNeg (gv σ 94 x8.toNatClampNeg) → ∀ x8_5 : Int32, x8_5 = x8 + 1 → wX12_plan_292 Q K71 n x1 x2 x3 x4 x5 x8_5 σ4))
def wX12_plan_229 (Q : Int32 → St → Prop) (K71 : Int32 → Int32 → Int32 → Int32 → Int32 → St → Prop) (x1 : Int32) (x2 : Int32) (x3 : Int32) (x4 : Int32) (x5 : Int32) (x6 : Int32) (σ : St) : Prop := wX12_isGood x6 σ (fun (r1 : Int32) (σ2 : St) => ((r1 = 0 → K71 x1 x2 x3 x4 x5 σ2) ∧ (¬ (r1 = 0) → ((x2 ≤ (x5 + (1 : Int32)) → vp_in x2 7 ∧ ((x3 ≤ (gv σ2 96 x2.toNatClampNeg) → vp_in x2 7 ∧ ∀ x4_8 : Int32, x4_8 = gv σ2 97 x2.toNatClampNeg → ∀ σ9 : St, σ9 = pv σ2 11 75 x2 → ∃ j : Nat, wX12_plan_292 Q K71 j x1 x2 x3 x4_8 x5 (0 : Int32) σ9) ∧ (¬ (x3 ≤ (gv σ2 96 x2.toNatClampNeg)) → K71 x1 x2 x3 x4 x5 σ2))) ∧ (¬ (x2 ≤ (x5 + (1 : Int32))) → ∀ x5_10 : Int32, x5_10 = x5 + 1 → vp_in x5_10 6 ∧ ∀ σ12 : St, σ12 = pv σ2 94 x5_10.toNatClampNeg (-1 : Int32) → K71 x1 x2 x3 x4 x5_10 σ12)))))
def wX12_plan_71 (Q : Int32 → St → Prop) : Nat → Int32 → Int32 → Int32 → Int32 → Int32 → St → Prop
  | 0, _, _, _, _, _, _ => False
  | n + 1, x1, x2, x3, x4, x5, σ => ((x5 < 0 → Q x4 σ) ∧ (¬ (x5 < 0) → vp_in x5 6 ∧ vp_in x5 6 ∧ ∀ σ4 : St, σ4 = pv σ 94 x5.toNatClampNeg ((gv σ 94 x5.toNatClampNeg) + (1 : Int32)) → vp_in x5 6 ∧ vp_in x1 7 ∧ (((gv σ4 94 x5.toNatClampNeg) ≤ (gv σ4 75 x1.toNatClampNeg) → ∀ x6_8 : Int32, x6_8 = (gv σ4 11 51) + x5 → vp_in x5 6 ∧ wX12_steps x6_8 x1 (gv σ4 94 x5.toNatClampNeg) σ4 (fun (σ11 : St) => ∀ x7_12 : Int32, x7_12 = (10 : Int32) * (((7 : Int32) * x6_8) + x1) → vp_in x5 7 ∧ vp_in (x7_12 + (6 : Int32)) 16800 ∧ vp_in (x5 + (1 : Int32)) 7 ∧ ∀ σ16 : St, σ16 = pv σ11 96 (x5 + (1 : Int32)).toNatClampNeg ((gv σ11 96 x5.toNatClampNeg) + (gv σ11 88 (x7_12 + (6 : Int32)).toNatClampNeg)) → vp_in x5 7 ∧ vp_in (x7_12 + (7 : Int32)) 16800 ∧ vp_in (x7_12 + (8 : Int32)) 16800 ∧ vp_in (x5 + (1 : Int32)) 7 ∧ ∀ σ21 : St, σ21 = pv σ16 97 (x5 + (1 : Int32)).toNatClampNeg (((gv σ16 97 x5.toNatClampNeg) + (gv σ16 88 (x7_12 + (7 : Int32)).toNatClampNeg)) + (gv σ16 88 (x7_12 + (8 : Int32)).toNatClampNeg)) → ((x4 = (-1 : Int32) → wX12_plan_229 Q (fun x1' x2' x3' x4' x5' σ' => wX12_plan_71 Q n x1' x2' x3' x4' x5' σ') x1 x2 x3 x4 x5 x6_8 σ21) ∧ (¬ (x4 = (-1 : Int32)) → vp_in (x5 + (1 : Int32)) 7 ∧ ((x4 ≤ (gv σ21 97 (x5 + (1 : Int32)).toNatClampNeg) → wX12_plan_71 Q n x1 x2 x3 x4 x5 σ21) ∧ (¬ (x4 ≤ (gv σ21 97 (x5 + (1 : Int32)).toNatClampNeg)) → wX12_plan_229 Q (fun x1' x2' x3' x4' x5' σ' => wX12_plan_71 Q n x1' x2' x3' x4' x5' σ') x1 x2 x3 x4 x5 x6_8 σ21)))))) ∧ (¬ ((gv σ4 94 x5.toNatClampNeg) ≤ (gv σ4 75 x1.toNatClampNeg)) → ∀ x5_25 : Int32, x5_25 = x5 + (-1) → wX12_plan_71 Q n x1 x2 x3 x4 x5_25 σ4))))
def wX12_plan (x1 : Int32) (x2 : Int32) (x3 : Int32) (σ : St) (Q : Int32 → St → Prop) : Prop := wX12_isMill x1 σ (fun (r1 : Int32) (σ2 : St) => ((r1 = 0 → Q (-2 : Int32) σ2) ∧ (¬ (r1 = 0) → ((x2 < (1 : Int32) → Q (-2 : Int32) σ2) ∧ (¬ (x2 < (1 : Int32)) → (((6 : Int32) < x2 → Q (-2 : Int32) σ2) ∧ (¬ ((6 : Int32) < x2) → (((240 : Int32) < ((gv σ2 11 51) + x2) → Q (-2 : Int32) σ2) ∧ (¬ ((240 : Int32) < ((gv σ2 11 51) + x2)) → ((x3 < 0 → Q (-2 : Int32) σ2) ∧ (¬ (x3 < 0) → ((x3 ≤ (10000 : Int32) → wX12_works (gv σ2 11 52) (-1 : Int32) σ2 (fun (σ10 : St) => wX12_changes σ10 (fun (σ12 : St) => vp_in (0 : Int32) 6 ∧ ∀ σ14 : St, σ14 = pv σ12 94 (0 : Int32).toNatClampNeg (-1 : Int32) → ∃ j : Nat, wX12_plan_71 Q j x1 x2 x3 (-1 : Int32) (0 : Int32) σ14))) ∧ (¬ (x3 ≤ (10000 : Int32)) → Q (-2 : Int32) σ2)))))))))))))
abbrev rmX12_planned : Room := { frames := 0, cells := 0, slots := 0, locals := 0 }
def wX12_planned_12 (Q : Int32 → St → Prop) (σ : St) : Prop := Q (-1 : Int32) σ
def wX12_planned (x1 : Int32) (σ : St) (Q : Int32 → St → Prop) : Prop := ((x1 < 0 → wX12_planned_12 Q σ) ∧ (¬ (x1 < 0) → ((x1 < (gv σ 11 75) → vp_in x1 6 ∧ Q (gv σ 95 x1.toNatClampNeg) σ) ∧ (¬ (x1 < (gv σ 11 75)) → wX12_planned_12 Q σ))))
abbrev rmX12_grinds : Room := { frames := 6, cells := 0, slots := 0, locals := 164 }
def wX12_grinds_224 (Q : St → Prop) (K38 : Int32 → Int32 → St → Prop) (K46 : Int32 → Int32 → Int32 → St → Prop) (x2 : Int32) (x3 : Int32) (x4 : Int32) (σ : St) : Prop := ∀ x4_1 : Int32, x4_1 = x4 + 1 → K46 x2 x3 x4_1 σ
def wX12_grinds_218 (Q : St → Prop) (K38 : Int32 → Int32 → St → Prop) (K46 : Int32 → Int32 → Int32 → St → Prop) (K78 : Int32 → Int32 → Int32 → Int32 → Int32 → St → Prop) (x2 : Int32) (x3 : Int32) (x4 : Int32) (x5 : Int32) (x6 : Int32) (σ : St) : Prop := ∀ x6_1 : Int32, x6_1 = x6 + 1 → K78 x2 x3 x4 x5 x6_1 σ
def wX12_grinds_172 (Q : St → Prop) (K38 : Int32 → Int32 → St → Prop) (K46 : Int32 → Int32 → Int32 → St → Prop) (K78 : Int32 → Int32 → Int32 → Int32 → Int32 → St → Prop) (x2 : Int32) (x3 : Int32) (x4 : Int32) (x5 : Int32) (x6 : Int32) (xt0 : Int32) (σ : St) : Prop := vp_in x6 60 ∧ vp_in x6 60 ∧ ∀ σ3 : St, σ3 = pv σ 98 x6.toNatClampNeg ((gv σ 98 x6.toNatClampNeg) + xt0) → ∀ x5_4 : Int32, x5_4 = x5 - xt0 → vp_in x6 60 ∧ vp_in x6 60 ∧ (((gv σ3 98 x6.toNatClampNeg) = (gv σ3 86 x6.toNatClampNeg) → vp_in x6 60 ∧ ∀ σ9 : St, σ9 = pv σ3 99 x6.toNatClampNeg x3 → wX12_grinds_218 Q K38 K46 K78 x2 x3 x4 x5_4 x6 σ9) ∧ (¬ ((gv σ3 98 x6.toNatClampNeg) = (gv σ3 86 x6.toNatClampNeg)) → wX12_grinds_218 Q K38 K46 K78 x2 x3 x4 x5_4 x6 σ3))
def wX12_grinds_78 (Q : St → Prop) (K38 : Int32 → Int32 → St → Prop) (K46 : Int32 → Int32 → Int32 → St → Prop) : Nat → Int32 → Int32 → Int32 → Int32 → Int32 → St → Prop
  | 0, _, _, _, _, _, _ => False
  | n + 1, x2, x3, x4, x5, x6, σ => (((gv σ 11 61) ≤ x6 → wX12_grinds_224 Q K38 K46 x2 x3 x4 σ) ∧ (¬ ((gv σ 11 61) ≤ x6) → ((x5 ≤ 0 → wX12_grinds_224 Q K38 K46 x2 x3 x4 σ) ∧ (¬ (x5 ≤ 0) → vp_in x6 60 ∧ (((gv σ 85 x6.toNatClampNeg) = x4 → vp_in x6 60 ∧ (((gv σ 99 x6.toNatClampNeg) = (-1 : Int32) → vp_in x6 60 ∧ (((gv σ 87 x6.toNatClampNeg) ≤ x3 → vp_in x6 60 ∧ vp_in x6 60 ∧ ((x5 ≤ ((gv σ 86 x6.toNatClampNeg) - (gv σ 98 x6.toNatClampNeg)) → wX12_grinds_172 Q K38 K46 (fun x2' x3' x4' x5' x6' σ' => wX12_grinds_78 Q K38 K46 n x2' x3' x4' x5' x6' σ') x2 x3 x4 x5 x6 x5 σ) ∧ (¬ (x5 ≤ ((gv σ 86 x6.toNatClampNeg) - (gv σ 98 x6.toNatClampNeg))) → vp_in x6 60 ∧ vp_in x6 60 ∧ wX12_grinds_172 Q K38 K46 (fun x2' x3' x4' x5' x6' σ' => wX12_grinds_78 Q K38 K46 n x2' x3' x4' x5' x6' σ') x2 x3 x4 x5 x6 ((gv σ 86 x6.toNatClampNeg) - (gv σ 98 x6.toNatClampNeg)) σ))) ∧ (¬ ((gv σ 87 x6.toNatClampNeg) ≤ x3) → wX12_grinds_224 Q K38 K46 x2 x3 x4 σ))) ∧ (¬ ((gv σ 99 x6.toNatClampNeg) = (-1 : Int32)) → wX12_grinds_218 Q K38 K46 (fun x2' x3' x4' x5' x6' σ' => wX12_grinds_78 Q K38 K46 n x2' x3' x4' x5' x6' σ') x2 x3 x4 x5 x6 σ))) ∧ (¬ ((gv σ 85 x6.toNatClampNeg) = x4) → wX12_grinds_218 Q K38 K46 (fun x2' x3' x4' x5' x6' σ' => wX12_grinds_78 Q K38 K46 n x2' x3' x4' x5' x6' σ') x2 x3 x4 x5 x6 σ))))))
def wX12_grinds_46 (Q : St → Prop) (K38 : Int32 → Int32 → St → Prop) : Nat → Int32 → Int32 → Int32 → St → Prop
  | 0, _, _, _, _ => False
  | n + 1, x2, x3, x4, σ => (((gv σ 11 43) ≤ x4 → ∀ x3_2 : Int32, x3_2 = x3 + 1 → K38 x2 x3_2 σ) ∧ (¬ ((gv σ 11 43) ≤ x4) → vp_in (((10 : Int32) * (((7 : Int32) * x3) + x4)) + (6 : Int32)) 16800 ∧ ∀ x5_4 : Int32, x5_4 = gv σ 88 (((10 : Int32) * (((7 : Int32) * x3) + x4)) + (6 : Int32)).toNatClampNeg → ∃ j : Nat, wX12_grinds_78 Q K38 (fun x2' x3' x4' σ' => wX12_grinds_46 Q K38 n x2' x3' x4' σ') j x2 x3 x4 x5_4 (0 : Int32) σ))
def wX12_grinds_38 (Q : St → Prop) : Nat → Int32 → Int32 → St → Prop
  | 0, _, _, _ => False
  | n + 1, x2, x3, σ => ((x2 ≤ x3 → Q σ) ∧ (¬ (x2 ≤ x3) → ∃ j : Nat, wX12_grinds_46 Q (fun x2' x3' σ' => wX12_grinds_38 Q n x2' x3' σ') j x2 x3 (0 : Int32) σ))
def wX12_grinds_8 (Q : St → Prop) : Nat → Int32 → Int32 → St → Prop
  | 0, _, _, _ => False
  | n + 1, x2, x3, σ => (((gv σ 11 61) ≤ x3 → ∃ j : Nat, wX12_grinds_38 Q j x2 (0 : Int32) σ) ∧ (¬ ((gv σ 11 61) ≤ x3) → vp_in x3 60 ∧ ∀ σ3 : St, σ3 = pv σ 98 x3.toNatClampNeg (0 : Int32) → vp_in x3 60 ∧ ∀ σ5 : St, σ5 = pv σ3 99 x3.toNatClampNeg (-1 : Int32) → ∀ x3_6 : Int32, x3_6 = x3 + 1 → wX12_grinds_8 Q n x2 x3_6 σ5))
def wX12_grinds (x1 : Int32) (x2 : Int32) (σ : St) (Q : St → Prop) : Prop := wX12_works x1 (-1 : Int32) σ (fun (σ2 : St) => ∃ j : Nat, wX12_grinds_8 Q j x2 (0 : Int32) σ2)
abbrev rmX12_told : Room := { frames := 7, cells := 0, slots := 0, locals := 191 }
def wX12_told (x1 : Int32) (x2 : Int32) (x3 : Int32) (σ : St) (Q : Int32 → St → Prop) : Prop := ((x1 < 0 → Q (-1 : Int32) σ) ∧ (¬ (x1 < 0) → (((gv σ 11 61) ≤ x1 → Q (-1 : Int32) σ) ∧ (¬ ((gv σ 11 61) ≤ x1) → wX12_isKnown x2 σ (fun (r3 : Int32) (σ4 : St) => ((r3 = 0 → Q (-1 : Int32) σ4) ∧ (¬ (r3 = 0) → ((x3 = 0 → vp_in x1 60 ∧ Q (gv σ4 85 x1.toNatClampNeg) σ4) ∧ (¬ (x3 = 0) → ((x3 = 1 → vp_in x1 60 ∧ Q (gv σ4 86 x1.toNatClampNeg) σ4) ∧ (¬ (x3 = 1) → ((x3 = 2 → vp_in x1 60 ∧ Q (gv σ4 87 x1.toNatClampNeg) σ4) ∧ (¬ (x3 = 2) → ((x3 = 3 → wX12_grinds x2 (240 : Int32) σ4 (fun (σ14 : St) => vp_in x1 60 ∧ Q (gv σ14 99 x1.toNatClampNeg) σ14)) ∧ (¬ (x3 = 3) → ((x3 = 4 → wX12_grinds x2 (gv σ4 11 51) σ4 (fun (σ18 : St) => vp_in x1 60 ∧ Q (gv σ18 98 x1.toNatClampNeg) σ18)) ∧ (¬ (x3 = 4) → Q (-1 : Int32) σ4)))))))))))))))))
abbrev rmX12_tolls : Room := { frames := 7, cells := 0, slots := 0, locals := 191 }
def wX12_tolls_83 (Q : Int32 → St → Prop) (K37 : Int32 → Int32 → Int32 → St → Prop) (x1 : Int32) (x4 : Int32) (x5 : Int32) (σ : St) : Prop := ∀ x5_1 : Int32, x5_1 = x5 + 1 → K37 x1 x4 x5_1 σ
def wX12_tolls_37 (Q : Int32 → St → Prop) : Nat → Int32 → Int32 → Int32 → St → Prop
  | 0, _, _, _, _ => False
  | n + 1, x1, x4, x5, σ => (((gv σ 11 61) ≤ x5 → Q x4 σ) ∧ (¬ ((gv σ 11 61) ≤ x5) → vp_in x5 60 ∧ (((gv σ 85 x5.toNatClampNeg) = x1 → vp_in x5 60 ∧ (((gv σ 99 x5.toNatClampNeg) = (-1 : Int32) → wX12_tolls_83 Q (fun x1' x4' x5' σ' => wX12_tolls_37 Q n x1' x4' x5' σ') x1 x4 x5 σ) ∧ (¬ ((gv σ 99 x5.toNatClampNeg) = (-1 : Int32)) → vp_in x5 60 ∧ ∀ x4_7 : Int32, x4_7 = x4 + ((gv σ 86 x5.toNatClampNeg) / (16 : Int32)) → wX12_tolls_83 Q (fun x1' x4' x5' σ' => wX12_tolls_37 Q n x1' x4' x5' σ') x1 x4_7 x5 σ))) ∧ (¬ ((gv σ 85 x5.toNatClampNeg) = x1) → wX12_tolls_83 Q (fun x1' x4' x5' σ' => wX12_tolls_37 Q n x1' x4' x5' σ') x1 x4 x5 σ))))
def wX12_tolls (x1 : Int32) (x2 : Int32) (x3 : Int32) (σ : St) (Q : Int32 → St → Prop) : Prop := wX12_isMill x1 σ (fun (r1 : Int32) (σ2 : St) => ((r1 = 0 → Q (-1 : Int32) σ2) ∧ (¬ (r1 = 0) → wX12_isEnd x2 σ2 (fun (r4 : Int32) (σ5 : St) => ((r4 = 0 → Q (-1 : Int32) σ5) ∧ (¬ (r4 = 0) → wX12_isKnown x3 σ5 (fun (r7 : Int32) (σ8 : St) => ((r7 = 0 → Q (-1 : Int32) σ8) ∧ (¬ (r7 = 0) → wX12_grinds x3 x2 σ8 (fun (σ11 : St) => ∃ j : Nat, wX12_tolls_37 Q j x1 (0 : Int32) (0 : Int32) σ11))))))))))
abbrev rmX12_count : Room := { frames := 0, cells := 0, slots := 0, locals := 0 }
def wX12_count (x1 : Int32) (σ : St) (Q : Int32 → St → Prop) : Prop := ((x1 = 0 → Q (gv σ 11 43) σ) ∧ (¬ (x1 = 0) → ((x1 = 1 → Q (gv σ 11 52) σ) ∧ (¬ (x1 = 1) → ((x1 = 2 → Q (gv σ 11 56) σ) ∧ (¬ (x1 = 2) → ((x1 = 3 → Q (gv σ 11 61) σ) ∧ (¬ (x1 = 3) → ((x1 = 4 → Q (gv σ 11 18) σ) ∧ (¬ (x1 = 4) → ((x1 = 5 → Q (gv σ 11 23) σ) ∧ (¬ (x1 = 5) → ((x1 = 6 → Q (gv σ 11 51) σ) ∧ (¬ (x1 = 6) → ((x1 = 7 → Q (gv σ 11 49) σ) ∧ (¬ (x1 = 7) → ((x1 = 8 → Q (gv σ 11 2) σ) ∧ (¬ (x1 = 8) → Q (-1 : Int32) σ))))))))))))))))))
set_option maxHeartbeats 4000000 in
set_option maxRecDepth 100000 in
theorem tX12_works_55 {p : Program} {l : Launch} {e : Env} {s : State} {m : MethodId} {args : Array Value} {below : List Frame} {meth : Method} {c : Code} {E : EE} {base : Nat} (C : Cx p E base s m args meth c cX12_works 4 RX12) (hr : meth.sig.returnType = none) {Q : St → Prop} : ∀ (n : Nat) (x1 : Int32) (x2 : Int32) (x3 : Int32) (σ : St) (H : Heap) (locs : List Loc) (ls : Array Slot), lv_has ls 4 [(0, .ref (ga E 11)), (1, .int x1), (2, .int x2), (3, .int x3)] → GW E base s σ H locs → wX12_works_55 Q n x1 x2 x3 σ → W p l e rmX12_works s m args below meth c H locs 0 0 (MQ below (QV E base Q) args s 0 0 (fun q => base ≤ q)) (F0 m 55 ls []) := by
  intro n
  induction n with
  | zero => intro _ _ _; intros; exact False.elim (by assumption)
  | succ n ih =>
    intro x1 x2 x3 σ H locs ls hl g h
    refine lv_iload_n C.1 C.2.1 dX12_works_55 rfl (lv_at hl 3 rfl) ?_
    refine lv_sipush (v := 240) C.1 C.2.1 dX12_works_56 (by decide) ?_
    refine lv_icmp_ge (tgt := 75) C.1 C.2.1 dX12_works_59 (by decide) (fun c1 => ?_) (fun c1 => ?_)
    · have h := h.1 c1
      refine lv_aload_n C.1 C.2.1 dX12_works_75 rfl (lv_at hl 0 rfl) ?_
      refine lv_iload_n C.1 C.2.1 dX12_works_76 rfl (lv_at hl 1 rfl) ?_
      refine gx_putI C g fi_X12_143 dX12_works_77 sh_11 rfl (fun H locs σ2 eσ2 g => ?_)
      have h := h σ2 eσ2
      refine lv_aload_n C.1 C.2.1 dX12_works_80 rfl (lv_at hl 0 rfl) ?_
      refine lv_iload_n C.1 C.2.1 dX12_works_81 rfl (lv_at hl 2 rfl) ?_
      refine gx_putI C g fi_X12_146 dX12_works_82 sh_11 rfl (fun H locs σ3 eσ3 g => ?_)
      have h := h σ3 eσ3
      exact gx_vret C hr g dX12_works_85 h
    · have h := h.2 c1
      refine lv_aload_n C.1 C.2.1 dX12_works_62 rfl (lv_at hl 0 rfl) ?_
      refine lv_iload_n C.1 C.2.1 dX12_works_63 rfl (lv_at hl 3 rfl) ?_
      refine lv_iconst (v := -1) C.1 C.2.1 dX12_works_64 (by decide) ?_
      refine lv_iconst (v := 0) C.1 C.2.1 dX12_works_65 (by decide) ?_
      refine gx_callv0 g (gx_runV (k := 11) (rest := []) C g mb_X12_steps ml_X12_353 rfl sh_11 (mX12_steps x3 (-1 : Int32) (0 : Int32) _ _ h) ⟨Nat.le_of_ble_eq_true rfl, Nat.le_of_ble_eq_true rfl⟩ ⟨Nat.le_refl _, Nat.le_refl _⟩ rfl hl.1 rfl (Nat.le_of_ble_eq_true rfl) dX12_works_66) rfl rfl (fun σ5 H locs h g => ?_)
      obtain ⟨x3_6, ex3_6⟩ : ∃ y : Int32, y = x3 + 1 := ⟨_, rfl⟩
      have h := h x3_6 ex3_6
      refine lv_iinc (v := x3_6) (lv' := [(3, .int x3_6), (0, .ref (ga E 11)), (1, .int x1), (2, .int x2)]) C.1 C.2.1 dX12_works_69 hl (k := 3) rfl (by rw [ex3_6]; rfl) (by decide) rfl (fun ls hl => ?_)
      refine lv_goto (tgt := 55) C.1 C.2.1 dX12_works_72 (by decide) ?_
      exact ih x1 x2 x3_6 _ _ _ _ (lv_sub hl [1, 2, 3, 0] rfl) g h
set_option maxHeartbeats 4000000 in
set_option maxRecDepth 100000 in
theorem tX12_works_29 {p : Program} {l : Launch} {e : Env} {s : State} {m : MethodId} {args : Array Value} {below : List Frame} {meth : Method} {c : Code} {E : EE} {base : Nat} (C : Cx p E base s m args meth c cX12_works 4 RX12) (hr : meth.sig.returnType = none) {Q : St → Prop} : ∀ (n : Nat) (x1 : Int32) (x2 : Int32) (x3 : Int32) (σ : St) (H : Heap) (locs : List Loc) (ls : Array Slot), lv_has ls 4 [(0, .ref (ga E 11)), (1, .int x1), (2, .int x2), (3, .int x3)] → GW E base s σ H locs → wX12_works_29 Q n x1 x2 x3 σ → W p l e rmX12_works s m args below meth c H locs 0 0 (MQ below (QV E base Q) args s 0 0 (fun q => base ≤ q)) (F0 m 29 ls []) := by
  intro n
  induction n with
  | zero => intro _ _ _; intros; exact False.elim (by assumption)
  | succ n ih =>
    intro x1 x2 x3 σ H locs ls hl g h
    refine lv_iload_n C.1 C.2.1 dX12_works_29 rfl (lv_at hl 3 rfl) ?_
    refine lv_aload_n C.1 C.2.1 dX12_works_30 rfl (lv_at hl 0 rfl) ?_
    refine gx_getI C g fl_X12_307 dX12_works_31 sh_11 rfl ?_
    refine lv_icmp_ge (tgt := 53) C.1 C.2.1 dX12_works_34 (by decide) (fun c1 => ?_) (fun c1 => ?_)
    · have h := h.1 c1
      refine lv_iconst (v := 0) C.1 C.2.1 dX12_works_53 (by decide) ?_
      refine lv_istore_n (lv' := [(3, .int (0 : Int32)), (0, .ref (ga E 11)), (1, .int x1), (2, .int x2)]) C.1 C.2.1 dX12_works_54 rfl hl (by decide) rfl (fun ls hl => ?_)
      obtain ⟨j, h⟩ := h
      exact tX12_works_55 C hr j x1 x2 (0 : Int32) _ _ _ _ (lv_sub hl [1, 2, 3, 0] rfl) g h
    · have h := h.2 c1
      refine lv_aload_n C.1 C.2.1 dX12_works_37 rfl (lv_at hl 0 rfl) ?_
      refine gx_getR C g fl_X12_140 dX12_works_38 sh_11 rfl (by decide) ?_
      refine lv_bipush (v := 10) C.1 C.2.1 dX12_works_41 (by decide) ?_
      refine lv_iload_n C.1 C.2.1 dX12_works_43 rfl (lv_at hl 3 rfl) ?_
      refine lv_imul C.1 C.2.1 dX12_works_44 ?_
      refine lv_iconst (v := 0) C.1 C.2.1 dX12_works_45 (by decide) ?_
      obtain ⟨i2, h⟩ := h
      refine gx_iast C g dX12_works_46 sh_88 i2 (fun H locs σ3 eσ3 g => ?_)
      have h := h σ3 eσ3
      obtain ⟨x3_4, ex3_4⟩ : ∃ y : Int32, y = x3 + 1 := ⟨_, rfl⟩
      have h := h x3_4 ex3_4
      refine lv_iinc (v := x3_4) (lv' := [(3, .int x3_4), (0, .ref (ga E 11)), (1, .int x1), (2, .int x2)]) C.1 C.2.1 dX12_works_47 hl (k := 3) rfl (by rw [ex3_4]; rfl) (by decide) rfl (fun ls hl => ?_)
      refine lv_goto (tgt := 29) C.1 C.2.1 dX12_works_50 (by decide) ?_
      exact ih x1 x2 x3_4 _ _ _ _ (lv_sub hl [1, 2, 3, 0] rfl) g h
set_option maxHeartbeats 4000000 in
set_option maxRecDepth 100000 in
theorem tX12_works_17 {p : Program} {l : Launch} {e : Env} {s : State} {m : MethodId} {args : Array Value} {below : List Frame} {meth : Method} {c : Code} {E : EE} {base : Nat} (C : Cx p E base s m args meth c cX12_works 4 RX12) (hr : meth.sig.returnType = none) {Q : St → Prop} : ∀ (x1 : Int32) (x2 : Int32) (σ : St) (H : Heap) (locs : List Loc) (ls : Array Slot), lv_has ls 4 [(0, .ref (ga E 11)), (1, .int x1), (2, .int x2)] → GW E base s σ H locs → wX12_works_17 Q x1 x2 σ → W p l e rmX12_works s m args below meth c H locs 0 0 (MQ below (QV E base Q) args s 0 0 (fun q => base ≤ q)) (F0 m 17 ls []) := by
  intro x1 x2 σ H locs ls hl g h
  refine lv_aload_n C.1 C.2.1 dX12_works_17 rfl (lv_at hl 0 rfl) ?_
  refine lv_iload_n C.1 C.2.1 dX12_works_18 rfl (lv_at hl 1 rfl) ?_
  refine gx_callv0 g (gx_runV (k := 11) (rest := []) C g mb_X12_knows ml_X12_347 rfl sh_11 (mX12_knows x1 _ _ h) ⟨Nat.le_of_ble_eq_true rfl, Nat.le_of_ble_eq_true rfl⟩ ⟨Nat.le_refl _, Nat.le_refl _⟩ rfl hl.1 rfl (Nat.le_of_ble_eq_true rfl) dX12_works_19) rfl rfl (fun σ2 H locs h g => ?_)
  refine lv_aload_n C.1 C.2.1 dX12_works_22 rfl (lv_at hl 0 rfl) ?_
  refine lv_iload_n C.1 C.2.1 dX12_works_23 rfl (lv_at hl 2 rfl) ?_
  refine gx_callv0 g (gx_runV (k := 11) (rest := []) C g mb_X12_sets ml_X12_350 rfl sh_11 (mX12_sets x2 _ _ h) ⟨Nat.le_of_ble_eq_true rfl, Nat.le_of_ble_eq_true rfl⟩ ⟨Nat.le_refl _, Nat.le_refl _⟩ rfl hl.1 rfl (Nat.le_of_ble_eq_true rfl) dX12_works_24) rfl rfl (fun σ4 H locs h g => ?_)
  refine lv_iconst (v := 0) C.1 C.2.1 dX12_works_27 (by decide) ?_
  refine lv_istore_n (lv' := [(3, .int (0 : Int32)), (0, .ref (ga E 11)), (1, .int x1), (2, .int x2)]) C.1 C.2.1 dX12_works_28 rfl hl (by decide) rfl (fun ls hl => ?_)
  obtain ⟨j, h⟩ := h
  exact tX12_works_29 C hr j x1 x2 (0 : Int32) _ _ _ _ (lv_sub hl [1, 2, 3, 0] rfl) g h
set_option maxHeartbeats 4000000 in
set_option maxRecDepth 100000 in
theorem tX12_works_0 {p : Program} {l : Launch} {e : Env} {s : State} {m : MethodId} {args : Array Value} {below : List Frame} {meth : Method} {c : Code} {E : EE} {base : Nat} (C : Cx p E base s m args meth c cX12_works 4 RX12) (hr : meth.sig.returnType = none) {Q : St → Prop} : ∀ (x1 : Int32) (x2 : Int32) (σ : St) (H : Heap) (locs : List Loc) (ls : Array Slot), lv_has ls 4 [(0, .ref (ga E 11)), (1, .int x1), (2, .int x2)] → GW E base s σ H locs → wX12_works x1 x2 σ Q → W p l e rmX12_works s m args below meth c H locs 0 0 (MQ below (QV E base Q) args s 0 0 (fun q => base ≤ q)) (F0 m 0 ls []) := by
  intro x1 x2 σ H locs ls hl g h
  refine lv_aload_n C.1 C.2.1 dX12_works_0 rfl (lv_at hl 0 rfl) ?_
  refine gx_getI C g fl_X12_143 dX12_works_1 sh_11 rfl ?_
  refine lv_iload_n C.1 C.2.1 dX12_works_4 rfl (lv_at hl 1 rfl) ?_
  refine lv_icmp_ne (tgt := 17) C.1 C.2.1 dX12_works_5 (by decide) (fun c1 => ?_) (fun c1 => ?_)
  · have h := h.2 c1
    exact tX12_works_17 C hr x1 x2 _ _ _ _ (lv_sub hl [0, 1, 2] rfl) g h
  · have h := h.1 c1
    refine lv_aload_n C.1 C.2.1 dX12_works_8 rfl (lv_at hl 0 rfl) ?_
    refine gx_getI C g fl_X12_146 dX12_works_9 sh_11 rfl ?_
    refine lv_iload_n C.1 C.2.1 dX12_works_12 rfl (lv_at hl 2 rfl) ?_
    refine lv_icmp_ne (tgt := 17) C.1 C.2.1 dX12_works_13 (by decide) (fun c2 => ?_) (fun c2 => ?_)
    · have h := h.2 c2
      exact tX12_works_17 C hr x1 x2 _ _ _ _ (lv_sub hl [0, 1, 2] rfl) g h
    · have h := h.1 c2
      exact gx_vret C hr g dX12_works_16 h
theorem mX12_works {l : Launch} {E : EE} {base : Nat} (x1 : Int32) (x2 : Int32) (σ : St) (Q : St → Prop) (h : wX12_works x1 x2 σ Q) : Met l yX12_works (wy yX12_works cX12_works 4 none) rmX12_works (va_Pc [.ref (ga E 11), .int x1, .int x2] (fun U => SW E base σ U)) (QV E base Q) (rmX12_works).cells (rmX12_works).slots (fun q => base ≤ q) :=
  met_of (by decide) (Nat.le_of_ble_eq_true rfl) (fun p e s m args below meth c C hr g ls hl => tX12_works_0 C hr x1 x2 _ _ _ _ hl g h)
set_option maxHeartbeats 4000000 in
set_option maxRecDepth 100000 in
theorem tX12_isKnown_0 {p : Program} {l : Launch} {e : Env} {s : State} {m : MethodId} {args : Array Value} {below : List Frame} {meth : Method} {c : Code} {E : EE} {base : Nat} (C : Cx p E base s m args meth c cX12_isKnown 2 RX12) (hr : meth.sig.returnType = (some .boolean)) {Q : Int32 → St → Prop} : ∀ (x1 : Int32) (σ : St) (H : Heap) (locs : List Loc) (ls : Array Slot), lv_has ls 2 [(0, .ref (ga E 11)), (1, .int x1)] → GW E base s σ H locs → wX12_isKnown x1 σ Q → W p l e rmX12_isKnown s m args below meth c H locs 0 0 (MQ below (QI E base Q) args s 0 0 (fun q => base ≤ q)) (F0 m 0 ls []) := by
  intro x1 σ H locs ls hl g h
  refine lv_iload_n C.1 C.2.1 dX12_isKnown_0 rfl (lv_at hl 1 rfl) ?_
  refine lv_if_lt (tgt := 16) C.1 C.2.1 dX12_isKnown_1 (by decide) (fun c1 => ?_) (fun c1 => ?_)
  · have h := h.1 c1
    refine lv_iconst (v := 0) C.1 C.2.1 dX12_isKnown_16 (by decide) ?_
    exact gx_zret C hr g dX12_isKnown_17 (by decide) h
  · have h := h.2 c1
    refine lv_iload_n C.1 C.2.1 dX12_isKnown_4 rfl (lv_at hl 1 rfl) ?_
    refine lv_aload_n C.1 C.2.1 dX12_isKnown_5 rfl (lv_at hl 0 rfl) ?_
    refine gx_getI C g fl_X12_316 dX12_isKnown_6 sh_11 rfl ?_
    refine lv_icmp_gt (tgt := 16) C.1 C.2.1 dX12_isKnown_9 (by decide) (fun c2 => ?_) (fun c2 => ?_)
    · have h := h.1 c2
      refine lv_iconst (v := 0) C.1 C.2.1 dX12_isKnown_16 (by decide) ?_
      exact gx_zret C hr g dX12_isKnown_17 (by decide) h
    · have h := h.2 c2
      refine lv_iconst (v := 1) C.1 C.2.1 dX12_isKnown_12 (by decide) ?_
      refine lv_goto (tgt := 17) C.1 C.2.1 dX12_isKnown_13 (by decide) ?_
      exact gx_zret C hr g dX12_isKnown_17 (by decide) h
theorem mX12_isKnown {l : Launch} {E : EE} {base : Nat} (x1 : Int32) (σ : St) (Q : Int32 → St → Prop) (h : wX12_isKnown x1 σ Q) : Met l yX12_isKnown (wy yX12_isKnown cX12_isKnown 2 (some .boolean)) rmX12_isKnown (va_Pc [.ref (ga E 11), .int x1] (fun U => SW E base σ U)) (QI E base Q) (rmX12_isKnown).cells (rmX12_isKnown).slots (fun q => base ≤ q) :=
  met_of (by decide) (Nat.le_of_ble_eq_true rfl) (fun p e s m args below meth c C hr g ls hl => tX12_isKnown_0 C hr x1 _ _ _ _ hl g h)
set_option maxHeartbeats 4000000 in
set_option maxRecDepth 100000 in
theorem tX12_isEnd_0 {p : Program} {l : Launch} {e : Env} {s : State} {m : MethodId} {args : Array Value} {below : List Frame} {meth : Method} {c : Code} {E : EE} {base : Nat} (C : Cx p E base s m args meth c cX12_isEnd 1 RX12) (hr : meth.sig.returnType = (some .boolean)) {Q : Int32 → St → Prop} : ∀ (x0 : Int32) (σ : St) (H : Heap) (locs : List Loc) (ls : Array Slot), lv_has ls 1 [(0, .int x0)] → GW E base s σ H locs → wX12_isEnd x0 σ Q → W p l e rmX12_isEnd s m args below meth c H locs 0 0 (MQ below (QI E base Q) args s 0 0 (fun q => base ≤ q)) (F0 m 0 ls []) := by
  intro x0 σ H locs ls hl g h
  refine lv_iload_n C.1 C.2.1 dX12_isEnd_0 rfl (lv_at hl 0 rfl) ?_
  refine lv_if_lt (tgt := 15) C.1 C.2.1 dX12_isEnd_1 (by decide) (fun c1 => ?_) (fun c1 => ?_)
  · have h := h.1 c1
    refine lv_iconst (v := 0) C.1 C.2.1 dX12_isEnd_15 (by decide) ?_
    exact gx_zret C hr g dX12_isEnd_16 (by decide) h
  · have h := h.2 c1
    refine lv_iload_n C.1 C.2.1 dX12_isEnd_4 rfl (lv_at hl 0 rfl) ?_
    refine lv_sipush (v := 240) C.1 C.2.1 dX12_isEnd_5 (by decide) ?_
    refine lv_icmp_gt (tgt := 15) C.1 C.2.1 dX12_isEnd_8 (by decide) (fun c2 => ?_) (fun c2 => ?_)
    · have h := h.1 c2
      refine lv_iconst (v := 0) C.1 C.2.1 dX12_isEnd_15 (by decide) ?_
      exact gx_zret C hr g dX12_isEnd_16 (by decide) h
    · have h := h.2 c2
      refine lv_iconst (v := 1) C.1 C.2.1 dX12_isEnd_11 (by decide) ?_
      refine lv_goto (tgt := 16) C.1 C.2.1 dX12_isEnd_12 (by decide) ?_
      exact gx_zret C hr g dX12_isEnd_16 (by decide) h
theorem mX12_isEnd {l : Launch} {E : EE} {base : Nat} (x0 : Int32) (σ : St) (Q : Int32 → St → Prop) (h : wX12_isEnd x0 σ Q) : Met l yX12_isEnd (wy yX12_isEnd cX12_isEnd 1 (some .boolean)) rmX12_isEnd (va_Pc [.int x0] (fun U => SW E base σ U)) (QI E base Q) (rmX12_isEnd).cells (rmX12_isEnd).slots (fun q => base ≤ q) :=
  met_of (by decide) (Nat.le_of_ble_eq_true rfl) (fun p e s m args below meth c C hr g ls hl => tX12_isEnd_0 C hr x0 _ _ _ _ hl g h)
set_option maxHeartbeats 4000000 in
set_option maxRecDepth 100000 in
theorem tX12_at__0 {p : Program} {l : Launch} {e : Env} {s : State} {m : MethodId} {args : Array Value} {below : List Frame} {meth : Method} {c : Code} {E : EE} {base : Nat} (C : Cx p E base s m args meth c cX12_at_ 5 RX12) (hr : meth.sig.returnType = (some .int)) {Q : Int32 → St → Prop} : ∀ (x1 : Int32) (x2 : Int32) (x3 : Int32) (x4 : Int32) (σ : St) (H : Heap) (locs : List Loc) (ls : Array Slot), lv_has ls 5 [(0, .ref (ga E 11)), (1, .int x1), (2, .int x2), (3, .int x3), (4, .int x4)] → GW E base s σ H locs → wX12_at_ x1 x2 x3 x4 σ Q → W p l e rmX12_at_ s m args below meth c H locs 0 0 (MQ below (QI E base Q) args s 0 0 (fun q => base ≤ q)) (F0 m 0 ls []) := by
  intro x1 x2 x3 x4 σ H locs ls hl g h
  refine lv_aload_n C.1 C.2.1 dX12_at__0 rfl (lv_at hl 0 rfl) ?_
  refine lv_iload_n C.1 C.2.1 dX12_at__1 rfl (lv_at hl 2 rfl) ?_
  refine gx_calli0 g (gx_runV (k := 11) (rest := []) C g mb_X12_isMill ml_X12_319 rfl sh_11 (mX12_isMill x2 _ _ h) ⟨Nat.le_of_ble_eq_true rfl, Nat.le_of_ble_eq_true rfl⟩ ⟨Nat.le_refl _, Nat.le_refl _⟩ rfl hl.1 rfl (Nat.le_of_ble_eq_true rfl) dX12_at__2) rfl rfl (fun r1 σ2 H locs h g => ?_)
  refine lv_if_eq (tgt := 39) C.1 C.2.1 dX12_at__5 (by decide) (fun c3 => ?_) (fun c3 => ?_)
  · have h := h.1 c3
    refine gx_ldc_w C ck_X12_360 dX12_at__39 ?_
    exact gx_iret C hr g dX12_at__42 h
  · have h := h.2 c3
    refine lv_iload_n C.1 C.2.1 dX12_at__8 rfl (lv_at hl 1 rfl) ?_
    refine lv_if_lt (tgt := 39) C.1 C.2.1 dX12_at__9 (by decide) (fun c4 => ?_) (fun c4 => ?_)
    · have h := h.1 c4
      refine gx_ldc_w C ck_X12_360 dX12_at__39 ?_
      exact gx_iret C hr g dX12_at__42 h
    · have h := h.2 c4
      refine lv_iload_n C.1 C.2.1 dX12_at__12 rfl (lv_at hl 1 rfl) ?_
      refine lv_sipush (v := 240) C.1 C.2.1 dX12_at__13 (by decide) ?_
      refine lv_icmp_ge (tgt := 39) C.1 C.2.1 dX12_at__16 (by decide) (fun c5 => ?_) (fun c5 => ?_)
      · have h := h.1 c5
        refine gx_ldc_w C ck_X12_360 dX12_at__39 ?_
        exact gx_iret C hr g dX12_at__42 h
      · have h := h.2 c5
        refine lv_aload_n C.1 C.2.1 dX12_at__19 rfl (lv_at hl 0 rfl) ?_
        refine lv_iload_n C.1 C.2.1 dX12_at__20 rfl (lv_at hl 3 rfl) ?_
        refine gx_calli0 g (gx_runV (k := 11) (rest := []) C g mb_X12_isKnown ml_X12_357 rfl sh_11 (mX12_isKnown x3 _ _ h) ⟨Nat.le_of_ble_eq_true rfl, Nat.le_of_ble_eq_true rfl⟩ ⟨Nat.le_refl _, Nat.le_refl _⟩ rfl hl.1 rfl (Nat.le_of_ble_eq_true rfl) dX12_at__21) rfl rfl (fun r6 σ7 H locs h g => ?_)
        refine lv_if_eq (tgt := 39) C.1 C.2.1 dX12_at__24 (by decide) (fun c8 => ?_) (fun c8 => ?_)
        · have h := h.1 c8
          refine gx_ldc_w C ck_X12_360 dX12_at__39 ?_
          exact gx_iret C hr g dX12_at__42 h
        · have h := h.2 c8
          refine lv_iload C.1 C.2.1 dX12_at__27 (lv_at hl 4 rfl) ?_
          refine lv_if_lt (tgt := 39) C.1 C.2.1 dX12_at__29 (by decide) (fun c9 => ?_) (fun c9 => ?_)
          · have h := h.1 c9
            refine gx_ldc_w C ck_X12_360 dX12_at__39 ?_
            exact gx_iret C hr g dX12_at__42 h
          · have h := h.2 c9
            refine lv_iload C.1 C.2.1 dX12_at__32 (lv_at hl 4 rfl) ?_
            refine lv_bipush (v := 9) C.1 C.2.1 dX12_at__34 (by decide) ?_
            refine lv_icmp_le (tgt := 43) C.1 C.2.1 dX12_at__36 (by decide) (fun c10 => ?_) (fun c10 => ?_)
            · have h := h.1 c10
              refine lv_aload_n C.1 C.2.1 dX12_at__43 rfl (lv_at hl 0 rfl) ?_
              refine lv_iload_n C.1 C.2.1 dX12_at__44 rfl (lv_at hl 3 rfl) ?_
              refine lv_iconst (v := -1) C.1 C.2.1 dX12_at__45 (by decide) ?_
              refine gx_callv0 g (gx_runV (k := 11) (rest := []) C g mb_X12_works ml_X12_361 rfl sh_11 (mX12_works x3 (-1 : Int32) _ _ h) ⟨Nat.le_of_ble_eq_true rfl, Nat.le_of_ble_eq_true rfl⟩ ⟨Nat.le_refl _, Nat.le_refl _⟩ rfl hl.1 rfl (Nat.le_of_ble_eq_true rfl) dX12_at__46) rfl rfl (fun σ12 H locs h g => ?_)
              refine lv_aload_n C.1 C.2.1 dX12_at__49 rfl (lv_at hl 0 rfl) ?_
              refine gx_getR C g fl_X12_140 dX12_at__50 sh_11 rfl (by decide) ?_
              refine lv_bipush (v := 10) C.1 C.2.1 dX12_at__53 (by decide) ?_
              refine lv_bipush (v := 7) C.1 C.2.1 dX12_at__55 (by decide) ?_
              refine lv_iload_n C.1 C.2.1 dX12_at__57 rfl (lv_at hl 1 rfl) ?_
              refine lv_imul C.1 C.2.1 dX12_at__58 ?_
              refine lv_iload_n C.1 C.2.1 dX12_at__59 rfl (lv_at hl 2 rfl) ?_
              refine lv_iadd C.1 C.2.1 dX12_at__60 ?_
              refine lv_imul C.1 C.2.1 dX12_at__61 ?_
              refine lv_iload C.1 C.2.1 dX12_at__62 (lv_at hl 4 rfl) ?_
              refine lv_iadd C.1 C.2.1 dX12_at__64 ?_
              obtain ⟨i13, h⟩ := h
              refine gx_iald C g dX12_at__65 sh_88 i13 ?_
              exact gx_iret C hr g dX12_at__66 h
            · have h := h.2 c10
              refine gx_ldc_w C ck_X12_360 dX12_at__39 ?_
              exact gx_iret C hr g dX12_at__42 h
theorem mX12_at_ {l : Launch} {E : EE} {base : Nat} (x1 : Int32) (x2 : Int32) (x3 : Int32) (x4 : Int32) (σ : St) (Q : Int32 → St → Prop) (h : wX12_at_ x1 x2 x3 x4 σ Q) : Met l yX12_at_ (wy yX12_at_ cX12_at_ 5 (some .int)) rmX12_at_ (va_Pc [.ref (ga E 11), .int x1, .int x2, .int x3, .int x4] (fun U => SW E base σ U)) (QI E base Q) (rmX12_at_).cells (rmX12_at_).slots (fun q => base ≤ q) :=
  met_of (by decide) (Nat.le_of_ble_eq_true rfl) (fun p e s m args below meth c C hr g ls hl => tX12_at__0 C hr x1 x2 x3 x4 _ _ _ _ hl g h)
set_option maxHeartbeats 4000000 in
set_option maxRecDepth 100000 in
theorem tX12_sea_37 {p : Program} {l : Launch} {e : Env} {s : State} {m : MethodId} {args : Array Value} {below : List Frame} {meth : Method} {c : Code} {E : EE} {base : Nat} (C : Cx p E base s m args meth c cX12_sea 5 RX12) (hr : meth.sig.returnType = (some .int)) {Q : Int32 → St → Prop} : ∀ (n : Nat) (x1 : Int32) (x3 : Int32) (x4 : Int32) (σ : St) (H : Heap) (locs : List Loc) (ls : Array Slot), lv_has ls 5 [(0, .ref (ga E 11)), (1, .int x1), (3, .int x3), (4, .int x4)] → GW E base s σ H locs → wX12_sea_37 Q n x1 x3 x4 σ → W p l e rmX12_sea s m args below meth c H locs 0 0 (MQ below (QI E base Q) args s 0 0 (fun q => base ≤ q)) (F0 m 37 ls []) := by
  intro n
  induction n with
  | zero => intro _ _ _; intros; exact False.elim (by assumption)
  | succ n ih =>
    intro x1 x3 x4 σ H locs ls hl g h
    refine lv_iload C.1 C.2.1 dX12_sea_37 (lv_at hl 3 rfl) ?_
    refine lv_iload_n C.1 C.2.1 dX12_sea_39 rfl (lv_at hl 1 rfl) ?_
    refine lv_icmp_ge (tgt := 75) C.1 C.2.1 dX12_sea_40 (by decide) (fun c1 => ?_) (fun c1 => ?_)
    · have h := h.1 c1
      refine lv_iload_n C.1 C.2.1 dX12_sea_75 rfl (lv_at hl 2 rfl) ?_
      exact gx_iret C hr g dX12_sea_76 h
    · have h := h.2 c1
      refine lv_iload_n C.1 C.2.1 dX12_sea_43 rfl (lv_at hl 2 rfl) ?_
      refine lv_aload_n C.1 C.2.1 dX12_sea_44 rfl (lv_at hl 0 rfl) ?_
      refine gx_getR C g fl_X12_140 dX12_sea_45 sh_11 rfl (by decide) ?_
      refine lv_bipush (v := 10) C.1 C.2.1 dX12_sea_48 (by decide) ?_
      refine lv_bipush (v := 7) C.1 C.2.1 dX12_sea_50 (by decide) ?_
      refine lv_iload C.1 C.2.1 dX12_sea_52 (lv_at hl 3 rfl) ?_
      refine lv_imul C.1 C.2.1 dX12_sea_54 ?_
      refine lv_aload_n C.1 C.2.1 dX12_sea_55 rfl (lv_at hl 0 rfl) ?_
      refine gx_getI C g fl_X12_307 dX12_sea_56 sh_11 rfl ?_
      refine lv_iadd C.1 C.2.1 dX12_sea_59 ?_
      refine lv_iconst (v := 1) C.1 C.2.1 dX12_sea_60 (by decide) ?_
      refine lv_isub C.1 C.2.1 dX12_sea_61 ?_
      refine lv_imul C.1 C.2.1 dX12_sea_62 ?_
      refine lv_bipush (v := 9) C.1 C.2.1 dX12_sea_63 (by decide) ?_
      refine lv_iadd C.1 C.2.1 dX12_sea_65 ?_
      obtain ⟨i2, h⟩ := h
      refine gx_iald C g dX12_sea_66 sh_88 i2 ?_
      refine lv_iadd C.1 C.2.1 dX12_sea_67 ?_
      refine lv_topi (fun x3_3 ex3_3 => ?_)
      have h := h x3_3 ex3_3
      refine lv_istore_n (lv' := [(3, .int x3_3), (0, .ref (ga E 11)), (1, .int x1), (4, .int x4)]) C.1 C.2.1 dX12_sea_68 rfl hl (by decide) rfl (fun ls hl => ?_)
      obtain ⟨x4_4, ex4_4⟩ : ∃ y : Int32, y = x4 + 1 := ⟨_, rfl⟩
      have h := h x4_4 ex4_4
      refine lv_iinc (v := x4_4) (lv' := [(4, .int x4_4), (3, .int x3_3), (0, .ref (ga E 11)), (1, .int x1)]) C.1 C.2.1 dX12_sea_69 hl (k := 3) rfl (by rw [ex4_4]; rfl) (by decide) rfl (fun ls hl => ?_)
      refine lv_goto (tgt := 37) C.1 C.2.1 dX12_sea_72 (by decide) ?_
      exact ih x1 x3_3 x4_4 _ _ _ _ (lv_sub hl [2, 3, 1, 0] rfl) g h
set_option maxHeartbeats 4000000 in
set_option maxRecDepth 100000 in
theorem tX12_sea_0 {p : Program} {l : Launch} {e : Env} {s : State} {m : MethodId} {args : Array Value} {below : List Frame} {meth : Method} {c : Code} {E : EE} {base : Nat} (C : Cx p E base s m args meth c cX12_sea 5 RX12) (hr : meth.sig.returnType = (some .int)) {Q : Int32 → St → Prop} : ∀ (x1 : Int32) (x2 : Int32) (σ : St) (H : Heap) (locs : List Loc) (ls : Array Slot), lv_has ls 5 [(0, .ref (ga E 11)), (1, .int x1), (2, .int x2)] → GW E base s σ H locs → wX12_sea x1 x2 σ Q → W p l e rmX12_sea s m args below meth c H locs 0 0 (MQ below (QI E base Q) args s 0 0 (fun q => base ≤ q)) (F0 m 0 ls []) := by
  intro x1 x2 σ H locs ls hl g h
  refine lv_iload_n C.1 C.2.1 dX12_sea_0 rfl (lv_at hl 1 rfl) ?_
  refine gx_calli0 g (gx_runS (rest := []) C g ms_X12_isEnd ml_X12_364 (mX12_isEnd x1 _ _ h) ⟨Nat.le_of_ble_eq_true rfl, Nat.le_of_ble_eq_true rfl⟩ ⟨Nat.le_refl _, Nat.le_refl _⟩ rfl hl.1 rfl (Nat.le_of_ble_eq_true rfl) dX12_sea_1) rfl rfl (fun r1 σ2 H locs h g => ?_)
  refine lv_if_eq (tgt := 15) C.1 C.2.1 dX12_sea_4 (by decide) (fun c3 => ?_) (fun c3 => ?_)
  · have h := h.1 c3
    refine lv_iconst (v := -1) C.1 C.2.1 dX12_sea_15 (by decide) ?_
    exact gx_iret C hr g dX12_sea_16 h
  · have h := h.2 c3
    refine lv_aload_n C.1 C.2.1 dX12_sea_7 rfl (lv_at hl 0 rfl) ?_
    refine lv_iload_n C.1 C.2.1 dX12_sea_8 rfl (lv_at hl 2 rfl) ?_
    refine gx_calli0 g (gx_runV (k := 11) (rest := []) C g mb_X12_isKnown ml_X12_357 rfl sh_11 (mX12_isKnown x2 _ _ h) ⟨Nat.le_of_ble_eq_true rfl, Nat.le_of_ble_eq_true rfl⟩ ⟨Nat.le_refl _, Nat.le_refl _⟩ rfl hl.1 rfl (Nat.le_of_ble_eq_true rfl) dX12_sea_9) rfl rfl (fun r4 σ5 H locs h g => ?_)
    refine lv_if_ne (tgt := 17) C.1 C.2.1 dX12_sea_12 (by decide) (fun c6 => ?_) (fun c6 => ?_)
    · have h := h.2 c6
      refine lv_aload_n C.1 C.2.1 dX12_sea_17 rfl (lv_at hl 0 rfl) ?_
      refine gx_getI C g fl_X12_307 dX12_sea_18 sh_11 rfl ?_
      refine lv_if_ne (tgt := 26) C.1 C.2.1 dX12_sea_21 (by decide) (fun c7 => ?_) (fun c7 => ?_)
      · have h := h.2 c7
        refine lv_aload_n C.1 C.2.1 dX12_sea_26 rfl (lv_at hl 0 rfl) ?_
        refine lv_iload_n C.1 C.2.1 dX12_sea_27 rfl (lv_at hl 2 rfl) ?_
        refine lv_iconst (v := -1) C.1 C.2.1 dX12_sea_28 (by decide) ?_
        refine gx_callv0 g (gx_runV (k := 11) (rest := []) C g mb_X12_works ml_X12_361 rfl sh_11 (mX12_works x2 (-1 : Int32) _ _ h) ⟨Nat.le_of_ble_eq_true rfl, Nat.le_of_ble_eq_true rfl⟩ ⟨Nat.le_refl _, Nat.le_refl _⟩ rfl hl.1 rfl (Nat.le_of_ble_eq_true rfl) dX12_sea_29) rfl rfl (fun σ9 H locs h g => ?_)
        refine lv_iconst (v := 0) C.1 C.2.1 dX12_sea_32 (by decide) ?_
        refine lv_istore_n (lv' := [(3, .int (0 : Int32)), (0, .ref (ga E 11)), (1, .int x1), (2, .int x2)]) C.1 C.2.1 dX12_sea_33 rfl hl (by decide) rfl (fun ls hl => ?_)
        refine lv_iconst (v := 0) C.1 C.2.1 dX12_sea_34 (by decide) ?_
        refine lv_istore (lv' := [(4, .int (0 : Int32)), (3, .int (0 : Int32)), (0, .ref (ga E 11)), (1, .int x1), (2, .int x2)]) C.1 C.2.1 dX12_sea_35 hl (by decide) rfl (fun ls hl => ?_)
        obtain ⟨j, h⟩ := h
        exact tX12_sea_37 C hr j x1 (0 : Int32) (0 : Int32) _ _ _ _ (lv_sub hl [2, 3, 1, 0] rfl) g h
      · have h := h.1 c7
        refine lv_iconst (v := 0) C.1 C.2.1 dX12_sea_24 (by decide) ?_
        exact gx_iret C hr g dX12_sea_25 h
    · have h := h.1 c6
      refine lv_iconst (v := -1) C.1 C.2.1 dX12_sea_15 (by decide) ?_
      exact gx_iret C hr g dX12_sea_16 h
theorem mX12_sea {l : Launch} {E : EE} {base : Nat} (x1 : Int32) (x2 : Int32) (σ : St) (Q : Int32 → St → Prop) (h : wX12_sea x1 x2 σ Q) : Met l yX12_sea (wy yX12_sea cX12_sea 5 (some .int)) rmX12_sea (va_Pc [.ref (ga E 11), .int x1, .int x2] (fun U => SW E base σ U)) (QI E base Q) (rmX12_sea).cells (rmX12_sea).slots (fun q => base ≤ q) :=
  met_of (by decide) (Nat.le_of_ble_eq_true rfl) (fun p e s m args below meth c C hr g ls hl => tX12_sea_0 C hr x1 x2 _ _ _ _ hl g h)
set_option maxHeartbeats 4000000 in
set_option maxRecDepth 100000 in
theorem tX12_breaks_0 {p : Program} {l : Launch} {e : Env} {s : State} {m : MethodId} {args : Array Value} {below : List Frame} {meth : Method} {c : Code} {E : EE} {base : Nat} (C : Cx p E base s m args meth c cX12_breaks 4 RX12) (hr : meth.sig.returnType = (some .boolean)) {Q : Int32 → St → Prop} : ∀ (x1 : Int32) (x2 : Int32) (x3 : Int32) (σ : St) (H : Heap) (locs : List Loc) (ls : Array Slot), lv_has ls 4 [(0, .ref (ga E 11)), (1, .int x1), (2, .int x2), (3, .int x3)] → GW E base s σ H locs → wX12_breaks x1 x2 x3 σ Q → W p l e rmX12_breaks s m args below meth c H locs 0 0 (MQ below (QI E base Q) args s 0 0 (fun q => base ≤ q)) (F0 m 0 ls []) := by
  intro x1 x2 x3 σ H locs ls hl g h
  refine lv_aload_n C.1 C.2.1 dX12_breaks_0 rfl (lv_at hl 0 rfl) ?_
  refine gx_getR C g fl_X12_55 dX12_breaks_1 sh_11 rfl (by decide) ?_
  refine lv_iload_n C.1 C.2.1 dX12_breaks_4 rfl (lv_at hl 1 rfl) ?_
  obtain ⟨i1, h⟩ := h
  refine gx_zald C g dX12_breaks_5 sh_60 i1 ?_
  refine lv_if_ne (tgt := 46) C.1 C.2.1 dX12_breaks_6 (by decide) (fun c2 => ?_) (fun c2 => ?_)
  · have h := h.2 c2
    refine lv_iconst (v := 0) C.1 C.2.1 dX12_breaks_46 (by decide) ?_
    exact gx_zret C hr g dX12_breaks_47 (by decide) h
  · have h := h.1 c2
    refine lv_aload_n C.1 C.2.1 dX12_breaks_9 rfl (lv_at hl 0 rfl) ?_
    refine lv_iload_n C.1 C.2.1 dX12_breaks_10 rfl (lv_at hl 1 rfl) ?_
    refine lv_iload_n C.1 C.2.1 dX12_breaks_11 rfl (lv_at hl 2 rfl) ?_
    refine lv_iload_n C.1 C.2.1 dX12_breaks_12 rfl (lv_at hl 3 rfl) ?_
    refine lv_iconst (v := -1) C.1 C.2.1 dX12_breaks_13 (by decide) ?_
    refine gx_calli0 g (gx_runV (k := 11) (rest := []) C g mb_X12_counts ml_X12_340 rfl sh_11 (mX12_counts x1 x2 x3 (-1 : Int32) _ _ h) ⟨Nat.le_of_ble_eq_true rfl, Nat.le_of_ble_eq_true rfl⟩ ⟨Nat.le_refl _, Nat.le_refl _⟩ rfl hl.1 rfl (Nat.le_of_ble_eq_true rfl) dX12_breaks_14) rfl rfl (fun r3 σ4 H locs h g => ?_)
    refine lv_if_eq (tgt := 46) C.1 C.2.1 dX12_breaks_17 (by decide) (fun c5 => ?_) (fun c5 => ?_)
    · have h := h.1 c5
      refine lv_iconst (v := 0) C.1 C.2.1 dX12_breaks_46 (by decide) ?_
      exact gx_zret C hr g dX12_breaks_47 (by decide) h
    · have h := h.2 c5
      refine lv_aload_n C.1 C.2.1 dX12_breaks_20 rfl (lv_at hl 0 rfl) ?_
      refine lv_aload_n C.1 C.2.1 dX12_breaks_21 rfl (lv_at hl 0 rfl) ?_
      refine gx_getR C g fl_X12_59 dX12_breaks_22 sh_11 rfl (by decide) ?_
      refine lv_iload_n C.1 C.2.1 dX12_breaks_25 rfl (lv_at hl 1 rfl) ?_
      obtain ⟨i6, h⟩ := h
      refine gx_iald C g dX12_breaks_26 sh_61 i6 ?_
      refine lv_aload_n C.1 C.2.1 dX12_breaks_27 rfl (lv_at hl 0 rfl) ?_
      refine gx_getR C g fl_X12_62 dX12_breaks_28 sh_11 rfl (by decide) ?_
      refine lv_iload_n C.1 C.2.1 dX12_breaks_31 rfl (lv_at hl 1 rfl) ?_
      obtain ⟨i7, h⟩ := h
      refine gx_iald C g dX12_breaks_32 sh_62 i7 ?_
      refine lv_iload_n C.1 C.2.1 dX12_breaks_33 rfl (lv_at hl 2 rfl) ?_
      refine lv_iload_n C.1 C.2.1 dX12_breaks_34 rfl (lv_at hl 3 rfl) ?_
      refine lv_iconst (v := -1) C.1 C.2.1 dX12_breaks_35 (by decide) ?_
      refine gx_calli0 g (gx_runV (k := 11) (rest := []) C g mb_X12_holds ml_X12_336 rfl sh_11 (mX12_holds (gv σ4 61 x1.toNatClampNeg) (gv σ4 62 x1.toNatClampNeg) x2 x3 (-1 : Int32) _ _ h) ⟨Nat.le_of_ble_eq_true rfl, Nat.le_of_ble_eq_true rfl⟩ ⟨Nat.le_refl _, Nat.le_refl _⟩ rfl hl.1 rfl (Nat.le_of_ble_eq_true rfl) dX12_breaks_36) rfl rfl (fun r8 σ9 H locs h g => ?_)
      refine lv_if_ne (tgt := 46) C.1 C.2.1 dX12_breaks_39 (by decide) (fun c10 => ?_) (fun c10 => ?_)
      · have h := h.2 c10
        refine lv_iconst (v := 0) C.1 C.2.1 dX12_breaks_46 (by decide) ?_
        exact gx_zret C hr g dX12_breaks_47 (by decide) h
      · have h := h.1 c10
        refine lv_iconst (v := 1) C.1 C.2.1 dX12_breaks_42 (by decide) ?_
        refine lv_goto (tgt := 47) C.1 C.2.1 dX12_breaks_43 (by decide) ?_
        exact gx_zret C hr g dX12_breaks_47 (by decide) h
theorem mX12_breaks {l : Launch} {E : EE} {base : Nat} (x1 : Int32) (x2 : Int32) (x3 : Int32) (σ : St) (Q : Int32 → St → Prop) (h : wX12_breaks x1 x2 x3 σ Q) : Met l yX12_breaks (wy yX12_breaks cX12_breaks 4 (some .boolean)) rmX12_breaks (va_Pc [.ref (ga E 11), .int x1, .int x2, .int x3] (fun U => SW E base σ U)) (QI E base Q) (rmX12_breaks).cells (rmX12_breaks).slots (fun q => base ≤ q) :=
  met_of (by decide) (Nat.le_of_ble_eq_true rfl) (fun p e s m args below meth c C hr g ls hl => tX12_breaks_0 C hr x1 x2 x3 _ _ _ _ hl g h)
set_option maxHeartbeats 4000000 in
set_option maxRecDepth 100000 in
theorem tX12_broken_90 {p : Program} {l : Launch} {e : Env} {s : State} {m : MethodId} {args : Array Value} {below : List Frame} {meth : Method} {c : Code} {E : EE} {base : Nat} (C : Cx p E base s m args meth c cX12_broken 7 RX12) (hr : meth.sig.returnType = (some .int)) {Q : Int32 → St → Prop} {K37 : Int32 → Int32 → Int32 → St → Prop} (hK37 : ∀ (x1 : Int32) (x4 : Int32) (x5 : Int32) (σ : St) (H : Heap) (locs : List Loc) (ls : Array Slot), lv_has ls 7 [(0, .ref (ga E 11)), (1, .int x1), (4, .int x4), (5, .int x5)] → GW E base s σ H locs → K37 x1 x4 x5 σ → W p l e rmX12_broken s m args below meth c H locs 0 0 (MQ below (QI E base Q) args s 0 0 (fun q => base ≤ q)) (F0 m 37 ls [])) {K49 : Int32 → Int32 → Int32 → Int32 → St → Prop} (hK49 : ∀ (x1 : Int32) (x4 : Int32) (x5 : Int32) (x6 : Int32) (σ : St) (H : Heap) (locs : List Loc) (ls : Array Slot), lv_has ls 7 [(0, .ref (ga E 11)), (1, .int x1), (4, .int x4), (5, .int x5), (6, .int x6)] → GW E base s σ H locs → K49 x1 x4 x5 x6 σ → W p l e rmX12_broken s m args below meth c H locs 0 0 (MQ below (QI E base Q) args s 0 0 (fun q => base ≤ q)) (F0 m 49 ls [])) : ∀ (x1 : Int32) (x4 : Int32) (x5 : Int32) (x6 : Int32) (σ : St) (H : Heap) (locs : List Loc) (ls : Array Slot), lv_has ls 7 [(0, .ref (ga E 11)), (1, .int x1), (4, .int x4), (5, .int x5), (6, .int x6)] → GW E base s σ H locs → wX12_broken_90 Q K37 K49 x1 x4 x5 x6 σ → W p l e rmX12_broken s m args below meth c H locs 0 0 (MQ below (QI E base Q) args s 0 0 (fun q => base ≤ q)) (F0 m 90 ls []) := by
  intro x1 x4 x5 x6 σ H locs ls hl g h
  obtain ⟨x6_1, ex6_1⟩ : ∃ y : Int32, y = x6 + 1 := ⟨_, rfl⟩
  have h := h x6_1 ex6_1
  refine lv_iinc (v := x6_1) (lv' := [(6, .int x6_1), (0, .ref (ga E 11)), (1, .int x1), (4, .int x4), (5, .int x5)]) C.1 C.2.1 dX12_broken_90 hl (k := 4) rfl (by rw [ex6_1]; rfl) (by decide) rfl (fun ls hl => ?_)
  refine lv_goto (tgt := 49) C.1 C.2.1 dX12_broken_93 (by decide) ?_
  exact hK49 x1 x4 x5 x6_1 _ _ _ _ (lv_sub hl [1, 2, 3, 4, 0] rfl) g h
set_option maxHeartbeats 4000000 in
set_option maxRecDepth 100000 in
theorem tX12_broken_49 {p : Program} {l : Launch} {e : Env} {s : State} {m : MethodId} {args : Array Value} {below : List Frame} {meth : Method} {c : Code} {E : EE} {base : Nat} (C : Cx p E base s m args meth c cX12_broken 7 RX12) (hr : meth.sig.returnType = (some .int)) {Q : Int32 → St → Prop} {K37 : Int32 → Int32 → Int32 → St → Prop} (hK37 : ∀ (x1 : Int32) (x4 : Int32) (x5 : Int32) (σ : St) (H : Heap) (locs : List Loc) (ls : Array Slot), lv_has ls 7 [(0, .ref (ga E 11)), (1, .int x1), (4, .int x4), (5, .int x5)] → GW E base s σ H locs → K37 x1 x4 x5 σ → W p l e rmX12_broken s m args below meth c H locs 0 0 (MQ below (QI E base Q) args s 0 0 (fun q => base ≤ q)) (F0 m 37 ls [])) : ∀ (n : Nat) (x1 : Int32) (x4 : Int32) (x5 : Int32) (x6 : Int32) (σ : St) (H : Heap) (locs : List Loc) (ls : Array Slot), lv_has ls 7 [(0, .ref (ga E 11)), (1, .int x1), (4, .int x4), (5, .int x5), (6, .int x6)] → GW E base s σ H locs → wX12_broken_49 Q K37 n x1 x4 x5 x6 σ → W p l e rmX12_broken s m args below meth c H locs 0 0 (MQ below (QI E base Q) args s 0 0 (fun q => base ≤ q)) (F0 m 49 ls []) := by
  intro n
  induction n with
  | zero => intro _ _ _ _; intros; exact False.elim (by assumption)
  | succ n ih =>
    intro x1 x4 x5 x6 σ H locs ls hl g h
    refine lv_iload C.1 C.2.1 dX12_broken_49 (lv_at hl 4 rfl) ?_
    refine lv_aload_n C.1 C.2.1 dX12_broken_51 rfl (lv_at hl 0 rfl) ?_
    refine gx_getI C g fl_X12_263 dX12_broken_52 sh_11 rfl ?_
    refine lv_icmp_ge (tgt := 96) C.1 C.2.1 dX12_broken_55 (by decide) (fun c1 => ?_) (fun c1 => ?_)
    · have h := h.1 c1
      obtain ⟨x5_2, ex5_2⟩ : ∃ y : Int32, y = x5 + 1 := ⟨_, rfl⟩
      have h := h x5_2 ex5_2
      refine lv_iinc (v := x5_2) (lv' := [(5, .int x5_2), (0, .ref (ga E 11)), (1, .int x1), (4, .int x4), (6, .int x6)]) C.1 C.2.1 dX12_broken_96 hl (k := 3) rfl (by rw [ex5_2]; rfl) (by decide) rfl (fun ls hl => ?_)
      refine lv_goto (tgt := 37) C.1 C.2.1 dX12_broken_99 (by decide) ?_
      exact hK37 x1 x4 x5_2 _ _ _ _ (lv_sub hl [1, 2, 3, 0] rfl) g h
    · have h := h.2 c1
      refine lv_aload_n C.1 C.2.1 dX12_broken_58 rfl (lv_at hl 0 rfl) ?_
      refine lv_iload C.1 C.2.1 dX12_broken_59 (lv_at hl 4 rfl) ?_
      refine lv_iload C.1 C.2.1 dX12_broken_61 (lv_at hl 3 rfl) ?_
      refine lv_iload_n C.1 C.2.1 dX12_broken_63 rfl (lv_at hl 1 rfl) ?_
      refine gx_calli0 g (gx_runV (k := 11) (rest := []) C g mb_X12_breaks ml_X12_367 rfl sh_11 (mX12_breaks x6 x5 x1 _ _ h) ⟨Nat.le_of_ble_eq_true rfl, Nat.le_of_ble_eq_true rfl⟩ ⟨Nat.le_refl _, Nat.le_refl _⟩ rfl hl.1 rfl (Nat.le_of_ble_eq_true rfl) dX12_broken_64) rfl rfl (fun r3 σ4 H locs h g => ?_)
      refine lv_if_ne (tgt := 73) C.1 C.2.1 dX12_broken_67 (by decide) (fun c5 => ?_) (fun c5 => ?_)
      · have h := h.2 c5
        refine lv_iload C.1 C.2.1 dX12_broken_73 (lv_at hl 2 rfl) ?_
        refine lv_if_ne (tgt := 87) C.1 C.2.1 dX12_broken_75 (by decide) (fun c6 => ?_) (fun c6 => ?_)
        · have h := h.2 c6
          obtain ⟨x4_7, ex4_7⟩ : ∃ y : Int32, y = x4 + (-1) := ⟨_, rfl⟩
          have h := h x4_7 ex4_7
          refine lv_iinc (v := x4_7) (lv' := [(4, .int x4_7), (0, .ref (ga E 11)), (1, .int x1), (5, .int x5), (6, .int x6)]) C.1 C.2.1 dX12_broken_87 hl (k := 2) rfl (by rw [ex4_7]; rfl) (by decide) rfl (fun ls hl => ?_)
          exact tX12_broken_90 C hr hK37 ih x1 x4_7 x5 x6 _ _ _ _ (lv_sub hl [1, 2, 0, 3, 4] rfl) g h
        · have h := h.1 c6
          refine lv_bipush (v := 100) C.1 C.2.1 dX12_broken_78 (by decide) ?_
          refine lv_iload C.1 C.2.1 dX12_broken_80 (lv_at hl 3 rfl) ?_
          refine lv_imul C.1 C.2.1 dX12_broken_82 ?_
          refine lv_iload C.1 C.2.1 dX12_broken_83 (lv_at hl 4 rfl) ?_
          refine lv_iadd C.1 C.2.1 dX12_broken_85 ?_
          exact gx_iret C hr g dX12_broken_86 h
      · have h := h.1 c5
        refine lv_goto (tgt := 90) C.1 C.2.1 dX12_broken_70 (by decide) ?_
        exact tX12_broken_90 C hr hK37 ih x1 x4 x5 x6 _ _ _ _ (lv_sub hl [0, 1, 2, 3, 4] rfl) g h
set_option maxHeartbeats 4000000 in
set_option maxRecDepth 100000 in
theorem tX12_broken_37 {p : Program} {l : Launch} {e : Env} {s : State} {m : MethodId} {args : Array Value} {below : List Frame} {meth : Method} {c : Code} {E : EE} {base : Nat} (C : Cx p E base s m args meth c cX12_broken 7 RX12) (hr : meth.sig.returnType = (some .int)) {Q : Int32 → St → Prop} : ∀ (n : Nat) (x1 : Int32) (x4 : Int32) (x5 : Int32) (σ : St) (H : Heap) (locs : List Loc) (ls : Array Slot), lv_has ls 7 [(0, .ref (ga E 11)), (1, .int x1), (4, .int x4), (5, .int x5)] → GW E base s σ H locs → wX12_broken_37 Q n x1 x4 x5 σ → W p l e rmX12_broken s m args below meth c H locs 0 0 (MQ below (QI E base Q) args s 0 0 (fun q => base ≤ q)) (F0 m 37 ls []) := by
  intro n
  induction n with
  | zero => intro _ _ _; intros; exact False.elim (by assumption)
  | succ n ih =>
    intro x1 x4 x5 σ H locs ls hl g h
    refine lv_iload C.1 C.2.1 dX12_broken_37 (lv_at hl 3 rfl) ?_
    refine lv_aload_n C.1 C.2.1 dX12_broken_39 rfl (lv_at hl 0 rfl) ?_
    refine gx_getI C g fl_X12_307 dX12_broken_40 sh_11 rfl ?_
    refine lv_icmp_ge (tgt := 102) C.1 C.2.1 dX12_broken_43 (by decide) (fun c1 => ?_) (fun c1 => ?_)
    · have h := h.1 c1
      refine lv_iconst (v := -1) C.1 C.2.1 dX12_broken_102 (by decide) ?_
      exact gx_iret C hr g dX12_broken_103 h
    · have h := h.2 c1
      refine lv_iconst (v := 0) C.1 C.2.1 dX12_broken_46 (by decide) ?_
      refine lv_istore (lv' := [(6, .int (0 : Int32)), (0, .ref (ga E 11)), (1, .int x1), (4, .int x4), (5, .int x5)]) C.1 C.2.1 dX12_broken_47 hl (by decide) rfl (fun ls hl => ?_)
      obtain ⟨j, h⟩ := h
      exact tX12_broken_49 C hr ih j x1 x4 x5 (0 : Int32) _ _ _ _ (lv_sub hl [1, 2, 3, 4, 0] rfl) g h
set_option maxHeartbeats 4000000 in
set_option maxRecDepth 100000 in
theorem tX12_broken_0 {p : Program} {l : Launch} {e : Env} {s : State} {m : MethodId} {args : Array Value} {below : List Frame} {meth : Method} {c : Code} {E : EE} {base : Nat} (C : Cx p E base s m args meth c cX12_broken 7 RX12) (hr : meth.sig.returnType = (some .int)) {Q : Int32 → St → Prop} : ∀ (x1 : Int32) (x2 : Int32) (x3 : Int32) (σ : St) (H : Heap) (locs : List Loc) (ls : Array Slot), lv_has ls 7 [(0, .ref (ga E 11)), (1, .int x1), (2, .int x2), (3, .int x3)] → GW E base s σ H locs → wX12_broken x1 x2 x3 σ Q → W p l e rmX12_broken s m args below meth c H locs 0 0 (MQ below (QI E base Q) args s 0 0 (fun q => base ≤ q)) (F0 m 0 ls []) := by
  intro x1 x2 x3 σ H locs ls hl g h
  refine lv_iload_n C.1 C.2.1 dX12_broken_0 rfl (lv_at hl 1 rfl) ?_
  refine lv_if_lt (tgt := 23) C.1 C.2.1 dX12_broken_1 (by decide) (fun c1 => ?_) (fun c1 => ?_)
  · have h := h.1 c1
    refine lv_iconst (v := -1) C.1 C.2.1 dX12_broken_23 (by decide) ?_
    exact gx_iret C hr g dX12_broken_24 h
  · have h := h.2 c1
    refine lv_iload_n C.1 C.2.1 dX12_broken_4 rfl (lv_at hl 1 rfl) ?_
    refine lv_sipush (v := 240) C.1 C.2.1 dX12_broken_5 (by decide) ?_
    refine lv_icmp_ge (tgt := 23) C.1 C.2.1 dX12_broken_8 (by decide) (fun c2 => ?_) (fun c2 => ?_)
    · have h := h.1 c2
      refine lv_iconst (v := -1) C.1 C.2.1 dX12_broken_23 (by decide) ?_
      exact gx_iret C hr g dX12_broken_24 h
    · have h := h.2 c2
      refine lv_aload_n C.1 C.2.1 dX12_broken_11 rfl (lv_at hl 0 rfl) ?_
      refine lv_iload_n C.1 C.2.1 dX12_broken_12 rfl (lv_at hl 2 rfl) ?_
      refine gx_calli0 g (gx_runV (k := 11) (rest := []) C g mb_X12_isKnown ml_X12_357 rfl sh_11 (mX12_isKnown x2 _ _ h) ⟨Nat.le_of_ble_eq_true rfl, Nat.le_of_ble_eq_true rfl⟩ ⟨Nat.le_refl _, Nat.le_refl _⟩ rfl hl.1 rfl (Nat.le_of_ble_eq_true rfl) dX12_broken_13) rfl rfl (fun r3 σ4 H locs h g => ?_)
      refine lv_if_eq (tgt := 23) C.1 C.2.1 dX12_broken_16 (by decide) (fun c5 => ?_) (fun c5 => ?_)
      · have h := h.1 c5
        refine lv_iconst (v := -1) C.1 C.2.1 dX12_broken_23 (by decide) ?_
        exact gx_iret C hr g dX12_broken_24 h
      · have h := h.2 c5
        refine lv_iload_n C.1 C.2.1 dX12_broken_19 rfl (lv_at hl 3 rfl) ?_
        refine lv_if_ge (tgt := 25) C.1 C.2.1 dX12_broken_20 (by decide) (fun c6 => ?_) (fun c6 => ?_)
        · have h := h.1 c6
          refine lv_aload_n C.1 C.2.1 dX12_broken_25 rfl (lv_at hl 0 rfl) ?_
          refine lv_iload_n C.1 C.2.1 dX12_broken_26 rfl (lv_at hl 2 rfl) ?_
          refine lv_iconst (v := -1) C.1 C.2.1 dX12_broken_27 (by decide) ?_
          refine gx_callv0 g (gx_runV (k := 11) (rest := []) C g mb_X12_works ml_X12_361 rfl sh_11 (mX12_works x2 (-1 : Int32) _ _ h) ⟨Nat.le_of_ble_eq_true rfl, Nat.le_of_ble_eq_true rfl⟩ ⟨Nat.le_refl _, Nat.le_refl _⟩ rfl hl.1 rfl (Nat.le_of_ble_eq_true rfl) dX12_broken_28) rfl rfl (fun σ8 H locs h g => ?_)
          refine lv_iload_n C.1 C.2.1 dX12_broken_31 rfl (lv_at hl 3 rfl) ?_
          refine lv_istore (lv' := [(4, .int x3), (0, .ref (ga E 11)), (1, .int x1), (2, .int x2), (3, .int x3)]) C.1 C.2.1 dX12_broken_32 hl (by decide) rfl (fun ls hl => ?_)
          refine lv_iconst (v := 0) C.1 C.2.1 dX12_broken_34 (by decide) ?_
          refine lv_istore (lv' := [(5, .int (0 : Int32)), (4, .int x3), (0, .ref (ga E 11)), (1, .int x1), (2, .int x2), (3, .int x3)]) C.1 C.2.1 dX12_broken_35 hl (by decide) rfl (fun ls hl => ?_)
          obtain ⟨j, h⟩ := h
          exact tX12_broken_37 C hr j x1 x3 (0 : Int32) _ _ _ _ (lv_sub hl [2, 3, 1, 0] rfl) g h
        · have h := h.2 c6
          refine lv_iconst (v := -1) C.1 C.2.1 dX12_broken_23 (by decide) ?_
          exact gx_iret C hr g dX12_broken_24 h
theorem mX12_broken {l : Launch} {E : EE} {base : Nat} (x1 : Int32) (x2 : Int32) (x3 : Int32) (σ : St) (Q : Int32 → St → Prop) (h : wX12_broken x1 x2 x3 σ Q) : Met l yX12_broken (wy yX12_broken cX12_broken 7 (some .int)) rmX12_broken (va_Pc [.ref (ga E 11), .int x1, .int x2, .int x3] (fun U => SW E base σ U)) (QI E base Q) (rmX12_broken).cells (rmX12_broken).slots (fun q => base ≤ q) :=
  met_of (by decide) (Nat.le_of_ble_eq_true rfl) (fun p e s m args below meth c C hr g ls hl => tX12_broken_0 C hr x1 x2 x3 _ _ _ _ hl g h)
set_option maxHeartbeats 4000000 in
set_option maxRecDepth 100000 in
theorem tX12_first_54 {p : Program} {l : Launch} {e : Env} {s : State} {m : MethodId} {args : Array Value} {below : List Frame} {meth : Method} {c : Code} {E : EE} {base : Nat} (C : Cx p E base s m args meth c cX12_first 7 RX12) (hr : meth.sig.returnType = (some .int)) {Q : Int32 → St → Prop} {K33 : Int32 → Int32 → St → Prop} (hK33 : ∀ (x2 : Int32) (x4 : Int32) (σ : St) (H : Heap) (locs : List Loc) (ls : Array Slot), lv_has ls 7 [(0, .ref (ga E 11)), (2, .int x2), (4, .int x4)] → GW E base s σ H locs → K33 x2 x4 σ → W p l e rmX12_first s m args below meth c H locs 0 0 (MQ below (QI E base Q) args s 0 0 (fun q => base ≤ q)) (F0 m 33 ls [])) {K42 : Int32 → Int32 → Int32 → St → Prop} (hK42 : ∀ (x2 : Int32) (x4 : Int32) (x5 : Int32) (σ : St) (H : Heap) (locs : List Loc) (ls : Array Slot), lv_has ls 7 [(0, .ref (ga E 11)), (2, .int x2), (4, .int x4), (5, .int x5)] → GW E base s σ H locs → K42 x2 x4 x5 σ → W p l e rmX12_first s m args below meth c H locs 0 0 (MQ below (QI E base Q) args s 0 0 (fun q => base ≤ q)) (F0 m 42 ls [])) : ∀ (n : Nat) (x2 : Int32) (x4 : Int32) (x5 : Int32) (x6 : Int32) (σ : St) (H : Heap) (locs : List Loc) (ls : Array Slot), lv_has ls 7 [(0, .ref (ga E 11)), (2, .int x2), (4, .int x4), (5, .int x5), (6, .int x6)] → GW E base s σ H locs → wX12_first_54 Q K33 K42 n x2 x4 x5 x6 σ → W p l e rmX12_first s m args below meth c H locs 0 0 (MQ below (QI E base Q) args s 0 0 (fun q => base ≤ q)) (F0 m 54 ls []) := by
  intro n
  induction n with
  | zero => intro _ _ _ _; intros; exact False.elim (by assumption)
  | succ n ih =>
    intro x2 x4 x5 x6 σ H locs ls hl g h
    refine lv_iload C.1 C.2.1 dX12_first_54 (lv_at hl 4 rfl) ?_
    refine lv_aload_n C.1 C.2.1 dX12_first_56 rfl (lv_at hl 0 rfl) ?_
    refine gx_getI C g fl_X12_263 dX12_first_57 sh_11 rfl ?_
    refine lv_icmp_ge (tgt := 85) C.1 C.2.1 dX12_first_60 (by decide) (fun c1 => ?_) (fun c1 => ?_)
    · have h := h.1 c1
      obtain ⟨x5_2, ex5_2⟩ : ∃ y : Int32, y = x5 + 1 := ⟨_, rfl⟩
      have h := h x5_2 ex5_2
      refine lv_iinc (v := x5_2) (lv' := [(5, .int x5_2), (0, .ref (ga E 11)), (2, .int x2), (4, .int x4), (6, .int x6)]) C.1 C.2.1 dX12_first_85 hl (k := 3) rfl (by rw [ex5_2]; rfl) (by decide) rfl (fun ls hl => ?_)
      refine lv_goto (tgt := 42) C.1 C.2.1 dX12_first_88 (by decide) ?_
      exact hK42 x2 x4 x5_2 _ _ _ _ (lv_sub hl [1, 2, 3, 0] rfl) g h
    · have h := h.2 c1
      refine lv_aload_n C.1 C.2.1 dX12_first_63 rfl (lv_at hl 0 rfl) ?_
      refine lv_iload C.1 C.2.1 dX12_first_64 (lv_at hl 4 rfl) ?_
      refine lv_iload C.1 C.2.1 dX12_first_66 (lv_at hl 3 rfl) ?_
      refine lv_iload C.1 C.2.1 dX12_first_68 (lv_at hl 2 rfl) ?_
      refine gx_calli0 g (gx_runV (k := 11) (rest := []) C g mb_X12_breaks ml_X12_367 rfl sh_11 (mX12_breaks x6 x5 x4 _ _ h) ⟨Nat.le_of_ble_eq_true rfl, Nat.le_of_ble_eq_true rfl⟩ ⟨Nat.le_refl _, Nat.le_refl _⟩ rfl hl.1 rfl (Nat.le_of_ble_eq_true rfl) dX12_first_70) rfl rfl (fun r3 σ4 H locs h g => ?_)
      refine lv_if_eq (tgt := 79) C.1 C.2.1 dX12_first_73 (by decide) (fun c5 => ?_) (fun c5 => ?_)
      · have h := h.1 c5
        obtain ⟨x6_6, ex6_6⟩ : ∃ y : Int32, y = x6 + 1 := ⟨_, rfl⟩
        have h := h x6_6 ex6_6
        refine lv_iinc (v := x6_6) (lv' := [(6, .int x6_6), (0, .ref (ga E 11)), (2, .int x2), (4, .int x4), (5, .int x5)]) C.1 C.2.1 dX12_first_79 hl (k := 4) rfl (by rw [ex6_6]; rfl) (by decide) rfl (fun ls hl => ?_)
        refine lv_goto (tgt := 54) C.1 C.2.1 dX12_first_82 (by decide) ?_
        exact ih x2 x4 x5 x6_6 _ _ _ _ (lv_sub hl [1, 2, 3, 4, 0] rfl) g h
      · have h := h.2 c5
        refine lv_iload C.1 C.2.1 dX12_first_76 (lv_at hl 2 rfl) ?_
        exact gx_iret C hr g dX12_first_78 h
set_option maxHeartbeats 4000000 in
set_option maxRecDepth 100000 in
theorem tX12_first_42 {p : Program} {l : Launch} {e : Env} {s : State} {m : MethodId} {args : Array Value} {below : List Frame} {meth : Method} {c : Code} {E : EE} {base : Nat} (C : Cx p E base s m args meth c cX12_first 7 RX12) (hr : meth.sig.returnType = (some .int)) {Q : Int32 → St → Prop} {K33 : Int32 → Int32 → St → Prop} (hK33 : ∀ (x2 : Int32) (x4 : Int32) (σ : St) (H : Heap) (locs : List Loc) (ls : Array Slot), lv_has ls 7 [(0, .ref (ga E 11)), (2, .int x2), (4, .int x4)] → GW E base s σ H locs → K33 x2 x4 σ → W p l e rmX12_first s m args below meth c H locs 0 0 (MQ below (QI E base Q) args s 0 0 (fun q => base ≤ q)) (F0 m 33 ls [])) : ∀ (n : Nat) (x2 : Int32) (x4 : Int32) (x5 : Int32) (σ : St) (H : Heap) (locs : List Loc) (ls : Array Slot), lv_has ls 7 [(0, .ref (ga E 11)), (2, .int x2), (4, .int x4), (5, .int x5)] → GW E base s σ H locs → wX12_first_42 Q K33 n x2 x4 x5 σ → W p l e rmX12_first s m args below meth c H locs 0 0 (MQ below (QI E base Q) args s 0 0 (fun q => base ≤ q)) (F0 m 42 ls []) := by
  intro n
  induction n with
  | zero => intro _ _ _; intros; exact False.elim (by assumption)
  | succ n ih =>
    intro x2 x4 x5 σ H locs ls hl g h
    refine lv_iload C.1 C.2.1 dX12_first_42 (lv_at hl 3 rfl) ?_
    refine lv_aload_n C.1 C.2.1 dX12_first_44 rfl (lv_at hl 0 rfl) ?_
    refine gx_getI C g fl_X12_307 dX12_first_45 sh_11 rfl ?_
    refine lv_icmp_ge (tgt := 91) C.1 C.2.1 dX12_first_48 (by decide) (fun c1 => ?_) (fun c1 => ?_)
    · have h := h.1 c1
      obtain ⟨x4_2, ex4_2⟩ : ∃ y : Int32, y = x4 + 1 := ⟨_, rfl⟩
      have h := h x4_2 ex4_2
      refine lv_iinc (v := x4_2) (lv' := [(4, .int x4_2), (0, .ref (ga E 11)), (2, .int x2), (5, .int x5)]) C.1 C.2.1 dX12_first_91 hl (k := 2) rfl (by rw [ex4_2]; rfl) (by decide) rfl (fun ls hl => ?_)
      refine lv_goto (tgt := 33) C.1 C.2.1 dX12_first_94 (by decide) ?_
      exact hK33 x2 x4_2 _ _ _ _ (lv_sub hl [1, 2, 0] rfl) g h
    · have h := h.2 c1
      refine lv_iconst (v := 0) C.1 C.2.1 dX12_first_51 (by decide) ?_
      refine lv_istore (lv' := [(6, .int (0 : Int32)), (0, .ref (ga E 11)), (2, .int x2), (4, .int x4), (5, .int x5)]) C.1 C.2.1 dX12_first_52 hl (by decide) rfl (fun ls hl => ?_)
      obtain ⟨j, h⟩ := h
      exact tX12_first_54 C hr hK33 ih j x2 x4 x5 (0 : Int32) _ _ _ _ (lv_sub hl [1, 2, 3, 4, 0] rfl) g h
set_option maxHeartbeats 4000000 in
set_option maxRecDepth 100000 in
theorem tX12_first_33 {p : Program} {l : Launch} {e : Env} {s : State} {m : MethodId} {args : Array Value} {below : List Frame} {meth : Method} {c : Code} {E : EE} {base : Nat} (C : Cx p E base s m args meth c cX12_first 7 RX12) (hr : meth.sig.returnType = (some .int)) {Q : Int32 → St → Prop} : ∀ (n : Nat) (x2 : Int32) (x4 : Int32) (σ : St) (H : Heap) (locs : List Loc) (ls : Array Slot), lv_has ls 7 [(0, .ref (ga E 11)), (2, .int x2), (4, .int x4)] → GW E base s σ H locs → wX12_first_33 Q n x2 x4 σ → W p l e rmX12_first s m args below meth c H locs 0 0 (MQ below (QI E base Q) args s 0 0 (fun q => base ≤ q)) (F0 m 33 ls []) := by
  intro n
  induction n with
  | zero => intro _ _; intros; exact False.elim (by assumption)
  | succ n ih =>
    intro x2 x4 σ H locs ls hl g h
    refine lv_iload C.1 C.2.1 dX12_first_33 (lv_at hl 2 rfl) ?_
    refine lv_iload_n C.1 C.2.1 dX12_first_35 rfl (lv_at hl 1 rfl) ?_
    refine lv_icmp_ge (tgt := 97) C.1 C.2.1 dX12_first_36 (by decide) (fun c1 => ?_) (fun c1 => ?_)
    · have h := h.1 c1
      refine lv_iconst (v := -1) C.1 C.2.1 dX12_first_97 (by decide) ?_
      exact gx_iret C hr g dX12_first_98 h
    · have h := h.2 c1
      refine lv_iconst (v := 0) C.1 C.2.1 dX12_first_39 (by decide) ?_
      refine lv_istore (lv' := [(5, .int (0 : Int32)), (0, .ref (ga E 11)), (2, .int x2), (4, .int x4)]) C.1 C.2.1 dX12_first_40 hl (by decide) rfl (fun ls hl => ?_)
      obtain ⟨j, h⟩ := h
      exact tX12_first_42 C hr ih j x2 x4 (0 : Int32) _ _ _ _ (lv_sub hl [1, 2, 3, 0] rfl) g h
set_option maxHeartbeats 4000000 in
set_option maxRecDepth 100000 in
theorem tX12_first_0 {p : Program} {l : Launch} {e : Env} {s : State} {m : MethodId} {args : Array Value} {below : List Frame} {meth : Method} {c : Code} {E : EE} {base : Nat} (C : Cx p E base s m args meth c cX12_first 7 RX12) (hr : meth.sig.returnType = (some .int)) {Q : Int32 → St → Prop} : ∀ (x1 : Int32) (x2 : Int32) (x3 : Int32) (σ : St) (H : Heap) (locs : List Loc) (ls : Array Slot), lv_has ls 7 [(0, .ref (ga E 11)), (1, .int x1), (2, .int x2), (3, .int x3)] → GW E base s σ H locs → wX12_first x1 x2 x3 σ Q → W p l e rmX12_first s m args below meth c H locs 0 0 (MQ below (QI E base Q) args s 0 0 (fun q => base ≤ q)) (F0 m 0 ls []) := by
  intro x1 x2 x3 σ H locs ls hl g h
  refine lv_iload_n C.1 C.2.1 dX12_first_0 rfl (lv_at hl 1 rfl) ?_
  refine gx_calli0 g (gx_runS (rest := []) C g ms_X12_isEnd ml_X12_364 (mX12_isEnd x1 _ _ h) ⟨Nat.le_of_ble_eq_true rfl, Nat.le_of_ble_eq_true rfl⟩ ⟨Nat.le_refl _, Nat.le_refl _⟩ rfl hl.1 rfl (Nat.le_of_ble_eq_true rfl) dX12_first_1) rfl rfl (fun r1 σ2 H locs h g => ?_)
  refine lv_if_eq (tgt := 22) C.1 C.2.1 dX12_first_4 (by decide) (fun c3 => ?_) (fun c3 => ?_)
  · have h := h.1 c3
    refine lv_iconst (v := -1) C.1 C.2.1 dX12_first_22 (by decide) ?_
    exact gx_iret C hr g dX12_first_23 h
  · have h := h.2 c3
    refine lv_iload_n C.1 C.2.1 dX12_first_7 rfl (lv_at hl 2 rfl) ?_
    refine gx_calli0 g (gx_runS (rest := []) C g ms_X12_isEnd ml_X12_364 (mX12_isEnd x2 _ _ h) ⟨Nat.le_of_ble_eq_true rfl, Nat.le_of_ble_eq_true rfl⟩ ⟨Nat.le_refl _, Nat.le_refl _⟩ rfl hl.1 rfl (Nat.le_of_ble_eq_true rfl) dX12_first_8) rfl rfl (fun r4 σ5 H locs h g => ?_)
    refine lv_if_eq (tgt := 22) C.1 C.2.1 dX12_first_11 (by decide) (fun c6 => ?_) (fun c6 => ?_)
    · have h := h.1 c6
      refine lv_iconst (v := -1) C.1 C.2.1 dX12_first_22 (by decide) ?_
      exact gx_iret C hr g dX12_first_23 h
    · have h := h.2 c6
      refine lv_aload_n C.1 C.2.1 dX12_first_14 rfl (lv_at hl 0 rfl) ?_
      refine lv_iload_n C.1 C.2.1 dX12_first_15 rfl (lv_at hl 3 rfl) ?_
      refine gx_calli0 g (gx_runV (k := 11) (rest := []) C g mb_X12_isKnown ml_X12_357 rfl sh_11 (mX12_isKnown x3 _ _ h) ⟨Nat.le_of_ble_eq_true rfl, Nat.le_of_ble_eq_true rfl⟩ ⟨Nat.le_refl _, Nat.le_refl _⟩ rfl hl.1 rfl (Nat.le_of_ble_eq_true rfl) dX12_first_16) rfl rfl (fun r7 σ8 H locs h g => ?_)
      refine lv_if_ne (tgt := 24) C.1 C.2.1 dX12_first_19 (by decide) (fun c9 => ?_) (fun c9 => ?_)
      · have h := h.2 c9
        refine lv_aload_n C.1 C.2.1 dX12_first_24 rfl (lv_at hl 0 rfl) ?_
        refine lv_iload_n C.1 C.2.1 dX12_first_25 rfl (lv_at hl 3 rfl) ?_
        refine lv_iconst (v := -1) C.1 C.2.1 dX12_first_26 (by decide) ?_
        refine gx_callv0 g (gx_runV (k := 11) (rest := []) C g mb_X12_works ml_X12_361 rfl sh_11 (mX12_works x3 (-1 : Int32) _ _ h) ⟨Nat.le_of_ble_eq_true rfl, Nat.le_of_ble_eq_true rfl⟩ ⟨Nat.le_refl _, Nat.le_refl _⟩ rfl hl.1 rfl (Nat.le_of_ble_eq_true rfl) dX12_first_27) rfl rfl (fun σ11 H locs h g => ?_)
        refine lv_iload_n C.1 C.2.1 dX12_first_30 rfl (lv_at hl 1 rfl) ?_
        refine lv_istore (lv' := [(4, .int x1), (0, .ref (ga E 11)), (1, .int x1), (2, .int x2), (3, .int x3)]) C.1 C.2.1 dX12_first_31 hl (by decide) rfl (fun ls hl => ?_)
        obtain ⟨j, h⟩ := h
        exact tX12_first_33 C hr j x2 x1 _ _ _ _ (lv_sub hl [1, 3, 0] rfl) g h
      · have h := h.1 c9
        refine lv_iconst (v := -1) C.1 C.2.1 dX12_first_22 (by decide) ?_
        exact gx_iret C hr g dX12_first_23 h
theorem mX12_first {l : Launch} {E : EE} {base : Nat} (x1 : Int32) (x2 : Int32) (x3 : Int32) (σ : St) (Q : Int32 → St → Prop) (h : wX12_first x1 x2 x3 σ Q) : Met l yX12_first (wy yX12_first cX12_first 7 (some .int)) rmX12_first (va_Pc [.ref (ga E 11), .int x1, .int x2, .int x3] (fun U => SW E base σ U)) (QI E base Q) (rmX12_first).cells (rmX12_first).slots (fun q => base ≤ q) :=
  met_of (by decide) (Nat.le_of_ble_eq_true rfl) (fun p e s m args below meth c C hr g ls hl => tX12_first_0 C hr x1 x2 x3 _ _ _ _ hl g h)
set_option maxHeartbeats 4000000 in
set_option maxRecDepth 100000 in
theorem tX12_workOf_14 {p : Program} {l : Launch} {e : Env} {s : State} {m : MethodId} {args : Array Value} {below : List Frame} {meth : Method} {c : Code} {E : EE} {base : Nat} (C : Cx p E base s m args meth c cX12_workOf 8 RX12) (hr : meth.sig.returnType = (some .int)) {Q : Int32 → St → Prop} : ∀ (n : Nat) (x1 : Int32) (x3 : Int32) (x6 : Int32) (x7 : Int32) (σ : St) (H : Heap) (locs : List Loc) (ls : Array Slot), lv_has ls 8 [(0, .ref (ga E 11)), (1, .int x1), (3, .int x3), (6, .int x6), (7, .int x7)] → GW E base s σ H locs → wX12_workOf_14 Q n x1 x3 x6 x7 σ → W p l e rmX12_workOf s m args below meth c H locs 0 0 (MQ below (QI E base Q) args s 0 0 (fun q => base ≤ q)) (F0 m 14 ls []) := by
  intro n
  induction n with
  | zero => intro _ _ _ _; intros; exact False.elim (by assumption)
  | succ n ih =>
    intro x1 x3 x6 x7 σ H locs ls hl g h
    refine lv_iload C.1 C.2.1 dX12_workOf_14 (lv_at hl 4 rfl) ?_
    refine lv_iload_n C.1 C.2.1 dX12_workOf_16 rfl (lv_at hl 2 rfl) ?_
    refine lv_icmp_ge (tgt := 49) C.1 C.2.1 dX12_workOf_17 (by decide) (fun c1 => ?_) (fun c1 => ?_)
    · have h := h.1 c1
      refine lv_iload C.1 C.2.1 dX12_workOf_49 (lv_at hl 3 rfl) ?_
      exact gx_iret C hr g dX12_workOf_51 h
    · have h := h.2 c1
      refine lv_iload C.1 C.2.1 dX12_workOf_20 (lv_at hl 3 rfl) ?_
      refine lv_aload_n C.1 C.2.1 dX12_workOf_22 rfl (lv_at hl 0 rfl) ?_
      refine gx_getR C g fl_X12_140 dX12_workOf_23 sh_11 rfl (by decide) ?_
      refine lv_bipush (v := 10) C.1 C.2.1 dX12_workOf_26 (by decide) ?_
      refine lv_bipush (v := 7) C.1 C.2.1 dX12_workOf_28 (by decide) ?_
      refine lv_iload C.1 C.2.1 dX12_workOf_30 (lv_at hl 4 rfl) ?_
      refine lv_imul C.1 C.2.1 dX12_workOf_32 ?_
      refine lv_iload_n C.1 C.2.1 dX12_workOf_33 rfl (lv_at hl 1 rfl) ?_
      refine lv_iadd C.1 C.2.1 dX12_workOf_34 ?_
      refine lv_imul C.1 C.2.1 dX12_workOf_35 ?_
      refine lv_bipush (v := 6) C.1 C.2.1 dX12_workOf_36 (by decide) ?_
      refine lv_iadd C.1 C.2.1 dX12_workOf_38 ?_
      obtain ⟨i2, h⟩ := h
      refine gx_iald C g dX12_workOf_39 sh_88 i2 ?_
      refine lv_iadd C.1 C.2.1 dX12_workOf_40 ?_
      refine lv_topi (fun x6_3 ex6_3 => ?_)
      have h := h x6_3 ex6_3
      refine lv_istore (lv' := [(6, .int x6_3), (0, .ref (ga E 11)), (1, .int x1), (3, .int x3), (7, .int x7)]) C.1 C.2.1 dX12_workOf_41 hl (by decide) rfl (fun ls hl => ?_)
      obtain ⟨x7_4, ex7_4⟩ : ∃ y : Int32, y = x7 + 1 := ⟨_, rfl⟩
      have h := h x7_4 ex7_4
      refine lv_iinc (v := x7_4) (lv' := [(7, .int x7_4), (6, .int x6_3), (0, .ref (ga E 11)), (1, .int x1), (3, .int x3)]) C.1 C.2.1 dX12_workOf_43 hl (k := 4) rfl (by rw [ex7_4]; rfl) (by decide) rfl (fun ls hl => ?_)
      refine lv_goto (tgt := 14) C.1 C.2.1 dX12_workOf_46 (by decide) ?_
      exact ih x1 x3 x6_3 x7_4 _ _ _ _ (lv_sub hl [2, 3, 4, 1, 0] rfl) g h
set_option maxHeartbeats 4000000 in
set_option maxRecDepth 100000 in
theorem tX12_workOf_0 {p : Program} {l : Launch} {e : Env} {s : State} {m : MethodId} {args : Array Value} {below : List Frame} {meth : Method} {c : Code} {E : EE} {base : Nat} (C : Cx p E base s m args meth c cX12_workOf 8 RX12) (hr : meth.sig.returnType = (some .int)) {Q : Int32 → St → Prop} : ∀ (x1 : Int32) (x2 : Int32) (x3 : Int32) (x4 : Int32) (x5 : Int32) (σ : St) (H : Heap) (locs : List Loc) (ls : Array Slot), lv_has ls 8 [(0, .ref (ga E 11)), (1, .int x1), (2, .int x2), (3, .int x3), (4, .int x4), (5, .int x5)] → GW E base s σ H locs → wX12_workOf x1 x2 x3 x4 x5 σ Q → W p l e rmX12_workOf s m args below meth c H locs 0 0 (MQ below (QI E base Q) args s 0 0 (fun q => base ≤ q)) (F0 m 0 ls []) := by
  intro x1 x2 x3 x4 x5 σ H locs ls hl g h
  refine lv_aload_n C.1 C.2.1 dX12_workOf_0 rfl (lv_at hl 0 rfl) ?_
  refine lv_iload C.1 C.2.1 dX12_workOf_1 (lv_at hl 4 rfl) ?_
  refine lv_iload C.1 C.2.1 dX12_workOf_3 (lv_at hl 5 rfl) ?_
  refine gx_callv0 g (gx_runV (k := 11) (rest := []) C g mb_X12_works ml_X12_361 rfl sh_11 (mX12_works x4 x5 _ _ h) ⟨Nat.le_of_ble_eq_true rfl, Nat.le_of_ble_eq_true rfl⟩ ⟨Nat.le_refl _, Nat.le_refl _⟩ rfl hl.1 rfl (Nat.le_of_ble_eq_true rfl) dX12_workOf_5) rfl rfl (fun σ2 H locs h g => ?_)
  refine lv_iconst (v := 0) C.1 C.2.1 dX12_workOf_8 (by decide) ?_
  refine lv_istore (lv' := [(6, .int (0 : Int32)), (0, .ref (ga E 11)), (1, .int x1), (2, .int x2), (3, .int x3), (4, .int x4), (5, .int x5)]) C.1 C.2.1 dX12_workOf_9 hl (by decide) rfl (fun ls hl => ?_)
  refine lv_iload_n C.1 C.2.1 dX12_workOf_11 rfl (lv_at hl 3 rfl) ?_
  refine lv_istore (lv' := [(7, .int x2), (6, .int (0 : Int32)), (0, .ref (ga E 11)), (1, .int x1), (2, .int x2), (3, .int x3), (4, .int x4), (5, .int x5)]) C.1 C.2.1 dX12_workOf_12 hl (by decide) rfl (fun ls hl => ?_)
  obtain ⟨j, h⟩ := h
  exact tX12_workOf_14 C hr j x1 x3 (0 : Int32) x2 _ _ _ _ (lv_sub hl [2, 3, 5, 1, 0] rfl) g h
theorem mX12_workOf {l : Launch} {E : EE} {base : Nat} (x1 : Int32) (x2 : Int32) (x3 : Int32) (x4 : Int32) (x5 : Int32) (σ : St) (Q : Int32 → St → Prop) (h : wX12_workOf x1 x2 x3 x4 x5 σ Q) : Met l yX12_workOf (wy yX12_workOf cX12_workOf 8 (some .int)) rmX12_workOf (va_Pc [.ref (ga E 11), .int x1, .int x2, .int x3, .int x4, .int x5] (fun U => SW E base σ U)) (QI E base Q) (rmX12_workOf).cells (rmX12_workOf).slots (fun q => base ≤ q) :=
  met_of (by decide) (Nat.le_of_ble_eq_true rfl) (fun p e s m args below meth c C hr g ls hl => tX12_workOf_0 C hr x1 x2 x3 x4 x5 _ _ _ _ hl g h)
set_option maxHeartbeats 4000000 in
set_option maxRecDepth 100000 in
theorem tX12_loss_0 {p : Program} {l : Launch} {e : Env} {s : State} {m : MethodId} {args : Array Value} {below : List Frame} {meth : Method} {c : Code} {E : EE} {base : Nat} (C : Cx p E base s m args meth c cX12_loss 6 RX12) (hr : meth.sig.returnType = (some .int)) {Q : Int32 → St → Prop} : ∀ (x1 : Int32) (x2 : Int32) (x3 : Int32) (x4 : Int32) (x5 : Int32) (σ : St) (H : Heap) (locs : List Loc) (ls : Array Slot), lv_has ls 6 [(0, .ref (ga E 11)), (1, .int x1), (2, .int x2), (3, .int x3), (4, .int x4), (5, .int x5)] → GW E base s σ H locs → wX12_loss x1 x2 x3 x4 x5 σ Q → W p l e rmX12_loss s m args below meth c H locs 0 0 (MQ below (QI E base Q) args s 0 0 (fun q => base ≤ q)) (F0 m 0 ls []) := by
  intro x1 x2 x3 x4 x5 σ H locs ls hl g h
  refine lv_iload_n C.1 C.2.1 dX12_loss_0 rfl (lv_at hl 1 rfl) ?_
  refine lv_if_lt (tgt := 44) C.1 C.2.1 dX12_loss_1 (by decide) (fun c1 => ?_) (fun c1 => ?_)
  · have h := h.1 c1
    refine gx_ldc_w C ck_X12_360 dX12_loss_44 ?_
    exact gx_iret C hr g dX12_loss_47 h
  · have h := h.2 c1
    refine lv_iload_n C.1 C.2.1 dX12_loss_4 rfl (lv_at hl 1 rfl) ?_
    refine lv_aload_n C.1 C.2.1 dX12_loss_5 rfl (lv_at hl 0 rfl) ?_
    refine gx_getI C g fl_X12_322 dX12_loss_6 sh_11 rfl ?_
    refine lv_icmp_ge (tgt := 44) C.1 C.2.1 dX12_loss_9 (by decide) (fun c2 => ?_) (fun c2 => ?_)
    · have h := h.1 c2
      refine gx_ldc_w C ck_X12_360 dX12_loss_44 ?_
      exact gx_iret C hr g dX12_loss_47 h
    · have h := h.2 c2
      refine lv_aload_n C.1 C.2.1 dX12_loss_12 rfl (lv_at hl 0 rfl) ?_
      refine lv_iload_n C.1 C.2.1 dX12_loss_13 rfl (lv_at hl 2 rfl) ?_
      refine gx_calli0 g (gx_runV (k := 11) (rest := []) C g mb_X12_isMill ml_X12_319 rfl sh_11 (mX12_isMill x2 _ _ h) ⟨Nat.le_of_ble_eq_true rfl, Nat.le_of_ble_eq_true rfl⟩ ⟨Nat.le_refl _, Nat.le_refl _⟩ rfl hl.1 rfl (Nat.le_of_ble_eq_true rfl) dX12_loss_14) rfl rfl (fun r3 σ4 H locs h g => ?_)
      refine lv_if_eq (tgt := 44) C.1 C.2.1 dX12_loss_17 (by decide) (fun c5 => ?_) (fun c5 => ?_)
      · have h := h.1 c5
        refine gx_ldc_w C ck_X12_360 dX12_loss_44 ?_
        exact gx_iret C hr g dX12_loss_47 h
      · have h := h.2 c5
        refine lv_iload_n C.1 C.2.1 dX12_loss_20 rfl (lv_at hl 3 rfl) ?_
        refine gx_calli0 g (gx_runS (rest := []) C g ms_X12_isEnd ml_X12_364 (mX12_isEnd x3 _ _ h) ⟨Nat.le_of_ble_eq_true rfl, Nat.le_of_ble_eq_true rfl⟩ ⟨Nat.le_refl _, Nat.le_refl _⟩ rfl hl.1 rfl (Nat.le_of_ble_eq_true rfl) dX12_loss_21) rfl rfl (fun r6 σ7 H locs h g => ?_)
        refine lv_if_eq (tgt := 44) C.1 C.2.1 dX12_loss_24 (by decide) (fun c8 => ?_) (fun c8 => ?_)
        · have h := h.1 c8
          refine gx_ldc_w C ck_X12_360 dX12_loss_44 ?_
          exact gx_iret C hr g dX12_loss_47 h
        · have h := h.2 c8
          refine lv_iload C.1 C.2.1 dX12_loss_27 (lv_at hl 4 rfl) ?_
          refine gx_calli0 g (gx_runS (rest := []) C g ms_X12_isEnd ml_X12_364 (mX12_isEnd x4 _ _ h) ⟨Nat.le_of_ble_eq_true rfl, Nat.le_of_ble_eq_true rfl⟩ ⟨Nat.le_refl _, Nat.le_refl _⟩ rfl hl.1 rfl (Nat.le_of_ble_eq_true rfl) dX12_loss_29) rfl rfl (fun r9 σ10 H locs h g => ?_)
          refine lv_if_eq (tgt := 44) C.1 C.2.1 dX12_loss_32 (by decide) (fun c11 => ?_) (fun c11 => ?_)
          · have h := h.1 c11
            refine gx_ldc_w C ck_X12_360 dX12_loss_44 ?_
            exact gx_iret C hr g dX12_loss_47 h
          · have h := h.2 c11
            refine lv_aload_n C.1 C.2.1 dX12_loss_35 rfl (lv_at hl 0 rfl) ?_
            refine lv_iload C.1 C.2.1 dX12_loss_36 (lv_at hl 5 rfl) ?_
            refine gx_calli0 g (gx_runV (k := 11) (rest := []) C g mb_X12_isKnown ml_X12_357 rfl sh_11 (mX12_isKnown x5 _ _ h) ⟨Nat.le_of_ble_eq_true rfl, Nat.le_of_ble_eq_true rfl⟩ ⟨Nat.le_refl _, Nat.le_refl _⟩ rfl hl.1 rfl (Nat.le_of_ble_eq_true rfl) dX12_loss_38) rfl rfl (fun r12 σ13 H locs h g => ?_)
            refine lv_if_ne (tgt := 48) C.1 C.2.1 dX12_loss_41 (by decide) (fun c14 => ?_) (fun c14 => ?_)
            · have h := h.2 c14
              refine lv_aload_n C.1 C.2.1 dX12_loss_48 rfl (lv_at hl 0 rfl) ?_
              refine lv_iload_n C.1 C.2.1 dX12_loss_49 rfl (lv_at hl 2 rfl) ?_
              refine lv_iload_n C.1 C.2.1 dX12_loss_50 rfl (lv_at hl 3 rfl) ?_
              refine lv_iload C.1 C.2.1 dX12_loss_51 (lv_at hl 4 rfl) ?_
              refine lv_iload C.1 C.2.1 dX12_loss_53 (lv_at hl 5 rfl) ?_
              refine lv_iload_n C.1 C.2.1 dX12_loss_55 rfl (lv_at hl 1 rfl) ?_
              refine gx_calli0 g (gx_runV (k := 11) (rest := []) C g mb_X12_workOf ml_X12_371 rfl sh_11 (mX12_workOf x2 x3 x4 x5 x1 _ _ h) ⟨Nat.le_of_ble_eq_true rfl, Nat.le_of_ble_eq_true rfl⟩ ⟨Nat.le_refl _, Nat.le_refl _⟩ rfl hl.1 rfl (Nat.le_of_ble_eq_true rfl) dX12_loss_56) rfl rfl (fun r15 σ16 H locs h g => ?_)
              refine lv_aload_n C.1 C.2.1 dX12_loss_59 rfl (lv_at hl 0 rfl) ?_
              refine lv_iload_n C.1 C.2.1 dX12_loss_60 rfl (lv_at hl 2 rfl) ?_
              refine lv_iload_n C.1 C.2.1 dX12_loss_61 rfl (lv_at hl 3 rfl) ?_
              refine lv_iload C.1 C.2.1 dX12_loss_62 (lv_at hl 4 rfl) ?_
              refine lv_iload C.1 C.2.1 dX12_loss_64 (lv_at hl 5 rfl) ?_
              refine lv_iconst (v := -1) C.1 C.2.1 dX12_loss_66 (by decide) ?_
              refine gx_calli0 g (gx_runV (k := 11) (rest := [.int r15]) C g mb_X12_workOf ml_X12_371 rfl sh_11 (mX12_workOf x2 x3 x4 x5 (-1 : Int32) _ _ h) ⟨Nat.le_of_ble_eq_true rfl, Nat.le_of_ble_eq_true rfl⟩ ⟨Nat.le_refl _, Nat.le_refl _⟩ rfl hl.1 rfl (Nat.le_of_ble_eq_true rfl) dX12_loss_67) rfl rfl (fun r17 σ18 H locs h g => ?_)
              refine lv_isub C.1 C.2.1 dX12_loss_70 ?_
              exact gx_iret C hr g dX12_loss_71 h
            · have h := h.1 c14
              refine gx_ldc_w C ck_X12_360 dX12_loss_44 ?_
              exact gx_iret C hr g dX12_loss_47 h
theorem mX12_loss {l : Launch} {E : EE} {base : Nat} (x1 : Int32) (x2 : Int32) (x3 : Int32) (x4 : Int32) (x5 : Int32) (σ : St) (Q : Int32 → St → Prop) (h : wX12_loss x1 x2 x3 x4 x5 σ Q) : Met l yX12_loss (wy yX12_loss cX12_loss 6 (some .int)) rmX12_loss (va_Pc [.ref (ga E 11), .int x1, .int x2, .int x3, .int x4, .int x5] (fun U => SW E base σ U)) (QI E base Q) (rmX12_loss).cells (rmX12_loss).slots (fun q => base ≤ q) :=
  met_of (by decide) (Nat.le_of_ble_eq_true rfl) (fun p e s m args below meth c C hr g ls hl => tX12_loss_0 C hr x1 x2 x3 x4 x5 _ _ _ _ hl g h)
set_option maxHeartbeats 4000000 in
set_option maxRecDepth 100000 in
theorem tX12_culprit_111 {p : Program} {l : Launch} {e : Env} {s : State} {m : MethodId} {args : Array Value} {below : List Frame} {meth : Method} {c : Code} {E : EE} {base : Nat} (C : Cx p E base s m args meth c cX12_culprit 10 RX12) (hr : meth.sig.returnType = (some .int)) {Q : Int32 → St → Prop} {K54 : Int32 → Int32 → Int32 → Int32 → Int32 → Int32 → Int32 → Int32 → St → Prop} (hK54 : ∀ (x1 : Int32) (x2 : Int32) (x3 : Int32) (x4 : Int32) (x5 : Int32) (x6 : Int32) (x7 : Int32) (x8 : Int32) (σ : St) (H : Heap) (locs : List Loc) (ls : Array Slot), lv_has ls 10 [(0, .ref (ga E 11)), (1, .int x1), (2, .int x2), (3, .int x3), (4, .int x4), (5, .int x5), (6, .int x6), (7, .int x7), (8, .int x8)] → GW E base s σ H locs → K54 x1 x2 x3 x4 x5 x6 x7 x8 σ → W p l e rmX12_culprit s m args below meth c H locs 0 0 (MQ below (QI E base Q) args s 0 0 (fun q => base ≤ q)) (F0 m 54 ls [])) : ∀ (x1 : Int32) (x2 : Int32) (x3 : Int32) (x4 : Int32) (x5 : Int32) (x6 : Int32) (x7 : Int32) (x8 : Int32) (σ : St) (H : Heap) (locs : List Loc) (ls : Array Slot), lv_has ls 10 [(0, .ref (ga E 11)), (1, .int x1), (2, .int x2), (3, .int x3), (4, .int x4), (5, .int x5), (6, .int x6), (7, .int x7), (8, .int x8)] → GW E base s σ H locs → wX12_culprit_111 Q K54 x1 x2 x3 x4 x5 x6 x7 x8 σ → W p l e rmX12_culprit s m args below meth c H locs 0 0 (MQ below (QI E base Q) args s 0 0 (fun q => base ≤ q)) (F0 m 111 ls []) := by
  intro x1 x2 x3 x4 x5 x6 x7 x8 σ H locs ls hl g h
  obtain ⟨x8_1, ex8_1⟩ : ∃ y : Int32, y = x8 + 1 := ⟨_, rfl⟩
  have h := h x8_1 ex8_1
  refine lv_iinc (v := x8_1) (lv' := [(8, .int x8_1), (0, .ref (ga E 11)), (1, .int x1), (2, .int x2), (3, .int x3), (4, .int x4), (5, .int x5), (6, .int x6), (7, .int x7)]) C.1 C.2.1 dX12_culprit_111 hl (k := 8) rfl (by rw [ex8_1]; rfl) (by decide) rfl (fun ls hl => ?_)
  refine lv_goto (tgt := 54) C.1 C.2.1 dX12_culprit_114 (by decide) ?_
  exact hK54 x1 x2 x3 x4 x5 x6 x7 x8_1 _ _ _ _ (lv_sub hl [1, 2, 3, 4, 5, 6, 7, 8, 0] rfl) g h
set_option maxHeartbeats 4000000 in
set_option maxRecDepth 100000 in
theorem tX12_culprit_54 {p : Program} {l : Launch} {e : Env} {s : State} {m : MethodId} {args : Array Value} {below : List Frame} {meth : Method} {c : Code} {E : EE} {base : Nat} (C : Cx p E base s m args meth c cX12_culprit 10 RX12) (hr : meth.sig.returnType = (some .int)) {Q : Int32 → St → Prop} : ∀ (n : Nat) (x1 : Int32) (x2 : Int32) (x3 : Int32) (x4 : Int32) (x5 : Int32) (x6 : Int32) (x7 : Int32) (x8 : Int32) (σ : St) (H : Heap) (locs : List Loc) (ls : Array Slot), lv_has ls 10 [(0, .ref (ga E 11)), (1, .int x1), (2, .int x2), (3, .int x3), (4, .int x4), (5, .int x5), (6, .int x6), (7, .int x7), (8, .int x8)] → GW E base s σ H locs → wX12_culprit_54 Q n x1 x2 x3 x4 x5 x6 x7 x8 σ → W p l e rmX12_culprit s m args below meth c H locs 0 0 (MQ below (QI E base Q) args s 0 0 (fun q => base ≤ q)) (F0 m 54 ls []) := by
  intro n
  induction n with
  | zero => intro _ _ _ _ _ _ _ _; intros; exact False.elim (by assumption)
  | succ n ih =>
    intro x1 x2 x3 x4 x5 x6 x7 x8 σ H locs ls hl g h
    refine lv_iload C.1 C.2.1 dX12_culprit_54 (lv_at hl 8 rfl) ?_
    refine lv_aload_n C.1 C.2.1 dX12_culprit_56 rfl (lv_at hl 0 rfl) ?_
    refine gx_getI C g fl_X12_322 dX12_culprit_57 sh_11 rfl ?_
    refine lv_icmp_ge (tgt := 117) C.1 C.2.1 dX12_culprit_60 (by decide) (fun c1 => ?_) (fun c1 => ?_)
    · have h := h.1 c1
      refine lv_iload C.1 C.2.1 dX12_culprit_117 (lv_at hl 6 rfl) ?_
      exact gx_iret C hr g dX12_culprit_119 h
    · have h := h.2 c1
      refine lv_aload_n C.1 C.2.1 dX12_culprit_63 rfl (lv_at hl 0 rfl) ?_
      refine gx_getR C g fl_X12_122 dX12_culprit_64 sh_11 rfl (by decide) ?_
      refine lv_iload C.1 C.2.1 dX12_culprit_67 (lv_at hl 8 rfl) ?_
      obtain ⟨i2, h⟩ := h
      refine gx_iald C g dX12_culprit_69 sh_82 i2 ?_
      refine lv_iload_n C.1 C.2.1 dX12_culprit_70 rfl (lv_at hl 1 rfl) ?_
      refine lv_icmp_ne (tgt := 77) C.1 C.2.1 dX12_culprit_71 (by decide) (fun c3 => ?_) (fun c3 => ?_)
      · have h := h.2 c3
        refine lv_aload_n C.1 C.2.1 dX12_culprit_77 rfl (lv_at hl 0 rfl) ?_
        refine lv_iload_n C.1 C.2.1 dX12_culprit_78 rfl (lv_at hl 1 rfl) ?_
        refine lv_iload_n C.1 C.2.1 dX12_culprit_79 rfl (lv_at hl 2 rfl) ?_
        refine lv_iload_n C.1 C.2.1 dX12_culprit_80 rfl (lv_at hl 3 rfl) ?_
        refine lv_iload C.1 C.2.1 dX12_culprit_81 (lv_at hl 4 rfl) ?_
        refine lv_iload C.1 C.2.1 dX12_culprit_83 (lv_at hl 8 rfl) ?_
        refine gx_calli0 g (gx_runV (k := 11) (rest := []) C g mb_X12_workOf ml_X12_371 rfl sh_11 (mX12_workOf x1 x2 x3 x4 x8 _ _ h) ⟨Nat.le_of_ble_eq_true rfl, Nat.le_of_ble_eq_true rfl⟩ ⟨Nat.le_refl _, Nat.le_refl _⟩ rfl hl.1 rfl (Nat.le_of_ble_eq_true rfl) dX12_culprit_85) rfl rfl (fun r4 σ5 H locs h g => ?_)
        refine lv_iload C.1 C.2.1 dX12_culprit_88 (lv_at hl 5 rfl) ?_
        refine lv_isub C.1 C.2.1 dX12_culprit_90 ?_
        refine lv_topi (fun x9_6 ex9_6 => ?_)
        have h := h x9_6 ex9_6
        refine lv_istore (lv' := [(9, .int x9_6), (0, .ref (ga E 11)), (1, .int x1), (2, .int x2), (3, .int x3), (4, .int x4), (5, .int x5), (6, .int x6), (7, .int x7), (8, .int x8)]) C.1 C.2.1 dX12_culprit_91 hl (by decide) rfl (fun ls hl => ?_)
        refine lv_iload C.1 C.2.1 dX12_culprit_93 (lv_at hl 0 rfl) ?_
        refine lv_iload C.1 C.2.1 dX12_culprit_95 (lv_at hl 8 rfl) ?_
        refine lv_icmp_gt (tgt := 103) C.1 C.2.1 dX12_culprit_97 (by decide) (fun c7 => ?_) (fun c7 => ?_)
        · have h := h.1 c7
          refine lv_iload C.1 C.2.1 dX12_culprit_103 (lv_at hl 0 rfl) ?_
          refine lv_istore (lv' := [(7, .int x9_6), (9, .int x9_6), (0, .ref (ga E 11)), (1, .int x1), (2, .int x2), (3, .int x3), (4, .int x4), (5, .int x5), (6, .int x6), (8, .int x8)]) C.1 C.2.1 dX12_culprit_105 hl (by decide) rfl (fun ls hl => ?_)
          refine lv_iload C.1 C.2.1 dX12_culprit_107 (lv_at hl 9 rfl) ?_
          refine lv_istore (lv' := [(6, .int x8), (7, .int x9_6), (9, .int x9_6), (0, .ref (ga E 11)), (1, .int x1), (2, .int x2), (3, .int x3), (4, .int x4), (5, .int x5), (8, .int x8)]) C.1 C.2.1 dX12_culprit_109 hl (by decide) rfl (fun ls hl => ?_)
          exact tX12_culprit_111 C hr ih x1 x2 x3 x4 x5 x8 x9_6 x8 _ _ _ _ (lv_sub hl [3, 4, 5, 6, 7, 8, 0, 1, 9] rfl) g h
        · have h := h.2 c7
          refine lv_goto (tgt := 111) C.1 C.2.1 dX12_culprit_100 (by decide) ?_
          exact tX12_culprit_111 C hr ih x1 x2 x3 x4 x5 x6 x7 x8 _ _ _ _ (lv_sub hl [1, 2, 3, 4, 5, 6, 7, 8, 9] rfl) g h
      · have h := h.1 c3
        refine lv_goto (tgt := 111) C.1 C.2.1 dX12_culprit_74 (by decide) ?_
        exact tX12_culprit_111 C hr ih x1 x2 x3 x4 x5 x6 x7 x8 _ _ _ _ (lv_sub hl [0, 1, 2, 3, 4, 5, 6, 7, 8] rfl) g h
set_option maxHeartbeats 4000000 in
set_option maxRecDepth 100000 in
theorem tX12_culprit_0 {p : Program} {l : Launch} {e : Env} {s : State} {m : MethodId} {args : Array Value} {below : List Frame} {meth : Method} {c : Code} {E : EE} {base : Nat} (C : Cx p E base s m args meth c cX12_culprit 10 RX12) (hr : meth.sig.returnType = (some .int)) {Q : Int32 → St → Prop} : ∀ (x1 : Int32) (x2 : Int32) (x3 : Int32) (x4 : Int32) (σ : St) (H : Heap) (locs : List Loc) (ls : Array Slot), lv_has ls 10 [(0, .ref (ga E 11)), (1, .int x1), (2, .int x2), (3, .int x3), (4, .int x4)] → GW E base s σ H locs → wX12_culprit x1 x2 x3 x4 σ Q → W p l e rmX12_culprit s m args below meth c H locs 0 0 (MQ below (QI E base Q) args s 0 0 (fun q => base ≤ q)) (F0 m 0 ls []) := by
  intro x1 x2 x3 x4 σ H locs ls hl g h
  refine lv_aload_n C.1 C.2.1 dX12_culprit_0 rfl (lv_at hl 0 rfl) ?_
  refine lv_iload_n C.1 C.2.1 dX12_culprit_1 rfl (lv_at hl 1 rfl) ?_
  refine gx_calli0 g (gx_runV (k := 11) (rest := []) C g mb_X12_isMill ml_X12_319 rfl sh_11 (mX12_isMill x1 _ _ h) ⟨Nat.le_of_ble_eq_true rfl, Nat.le_of_ble_eq_true rfl⟩ ⟨Nat.le_refl _, Nat.le_refl _⟩ rfl hl.1 rfl (Nat.le_of_ble_eq_true rfl) dX12_culprit_2) rfl rfl (fun r1 σ2 H locs h g => ?_)
  refine lv_if_eq (tgt := 31) C.1 C.2.1 dX12_culprit_5 (by decide) (fun c3 => ?_) (fun c3 => ?_)
  · have h := h.1 c3
    refine lv_iconst (v := -1) C.1 C.2.1 dX12_culprit_31 (by decide) ?_
    exact gx_iret C hr g dX12_culprit_32 h
  · have h := h.2 c3
    refine lv_iload_n C.1 C.2.1 dX12_culprit_8 rfl (lv_at hl 2 rfl) ?_
    refine gx_calli0 g (gx_runS (rest := []) C g ms_X12_isEnd ml_X12_364 (mX12_isEnd x2 _ _ h) ⟨Nat.le_of_ble_eq_true rfl, Nat.le_of_ble_eq_true rfl⟩ ⟨Nat.le_refl _, Nat.le_refl _⟩ rfl hl.1 rfl (Nat.le_of_ble_eq_true rfl) dX12_culprit_9) rfl rfl (fun r4 σ5 H locs h g => ?_)
    refine lv_if_eq (tgt := 31) C.1 C.2.1 dX12_culprit_12 (by decide) (fun c6 => ?_) (fun c6 => ?_)
    · have h := h.1 c6
      refine lv_iconst (v := -1) C.1 C.2.1 dX12_culprit_31 (by decide) ?_
      exact gx_iret C hr g dX12_culprit_32 h
    · have h := h.2 c6
      refine lv_iload_n C.1 C.2.1 dX12_culprit_15 rfl (lv_at hl 3 rfl) ?_
      refine gx_calli0 g (gx_runS (rest := []) C g ms_X12_isEnd ml_X12_364 (mX12_isEnd x3 _ _ h) ⟨Nat.le_of_ble_eq_true rfl, Nat.le_of_ble_eq_true rfl⟩ ⟨Nat.le_refl _, Nat.le_refl _⟩ rfl hl.1 rfl (Nat.le_of_ble_eq_true rfl) dX12_culprit_16) rfl rfl (fun r7 σ8 H locs h g => ?_)
      refine lv_if_eq (tgt := 31) C.1 C.2.1 dX12_culprit_19 (by decide) (fun c9 => ?_) (fun c9 => ?_)
      · have h := h.1 c9
        refine lv_iconst (v := -1) C.1 C.2.1 dX12_culprit_31 (by decide) ?_
        exact gx_iret C hr g dX12_culprit_32 h
      · have h := h.2 c9
        refine lv_aload_n C.1 C.2.1 dX12_culprit_22 rfl (lv_at hl 0 rfl) ?_
        refine lv_iload C.1 C.2.1 dX12_culprit_23 (lv_at hl 4 rfl) ?_
        refine gx_calli0 g (gx_runV (k := 11) (rest := []) C g mb_X12_isKnown ml_X12_357 rfl sh_11 (mX12_isKnown x4 _ _ h) ⟨Nat.le_of_ble_eq_true rfl, Nat.le_of_ble_eq_true rfl⟩ ⟨Nat.le_refl _, Nat.le_refl _⟩ rfl hl.1 rfl (Nat.le_of_ble_eq_true rfl) dX12_culprit_25) rfl rfl (fun r10 σ11 H locs h g => ?_)
        refine lv_if_ne (tgt := 33) C.1 C.2.1 dX12_culprit_28 (by decide) (fun c12 => ?_) (fun c12 => ?_)
        · have h := h.2 c12
          refine lv_aload_n C.1 C.2.1 dX12_culprit_33 rfl (lv_at hl 0 rfl) ?_
          refine lv_iload_n C.1 C.2.1 dX12_culprit_34 rfl (lv_at hl 1 rfl) ?_
          refine lv_iload_n C.1 C.2.1 dX12_culprit_35 rfl (lv_at hl 2 rfl) ?_
          refine lv_iload_n C.1 C.2.1 dX12_culprit_36 rfl (lv_at hl 3 rfl) ?_
          refine lv_iload C.1 C.2.1 dX12_culprit_37 (lv_at hl 4 rfl) ?_
          refine lv_iconst (v := -1) C.1 C.2.1 dX12_culprit_39 (by decide) ?_
          refine gx_calli0 g (gx_runV (k := 11) (rest := []) C g mb_X12_workOf ml_X12_371 rfl sh_11 (mX12_workOf x1 x2 x3 x4 (-1 : Int32) _ _ h) ⟨Nat.le_of_ble_eq_true rfl, Nat.le_of_ble_eq_true rfl⟩ ⟨Nat.le_refl _, Nat.le_refl _⟩ rfl hl.1 rfl (Nat.le_of_ble_eq_true rfl) dX12_culprit_40) rfl rfl (fun r13 σ14 H locs h g => ?_)
          refine lv_istore (lv' := [(5, .int r13), (0, .ref (ga E 11)), (1, .int x1), (2, .int x2), (3, .int x3), (4, .int x4)]) C.1 C.2.1 dX12_culprit_43 hl (by decide) rfl (fun ls hl => ?_)
          refine lv_iconst (v := -1) C.1 C.2.1 dX12_culprit_45 (by decide) ?_
          refine lv_istore (lv' := [(6, .int (-1 : Int32)), (5, .int r13), (0, .ref (ga E 11)), (1, .int x1), (2, .int x2), (3, .int x3), (4, .int x4)]) C.1 C.2.1 dX12_culprit_46 hl (by decide) rfl (fun ls hl => ?_)
          refine lv_iconst (v := 0) C.1 C.2.1 dX12_culprit_48 (by decide) ?_
          refine lv_istore (lv' := [(7, .int (0 : Int32)), (6, .int (-1 : Int32)), (5, .int r13), (0, .ref (ga E 11)), (1, .int x1), (2, .int x2), (3, .int x3), (4, .int x4)]) C.1 C.2.1 dX12_culprit_49 hl (by decide) rfl (fun ls hl => ?_)
          refine lv_iconst (v := 0) C.1 C.2.1 dX12_culprit_51 (by decide) ?_
          refine lv_istore (lv' := [(8, .int (0 : Int32)), (7, .int (0 : Int32)), (6, .int (-1 : Int32)), (5, .int r13), (0, .ref (ga E 11)), (1, .int x1), (2, .int x2), (3, .int x3), (4, .int x4)]) C.1 C.2.1 dX12_culprit_52 hl (by decide) rfl (fun ls hl => ?_)
          obtain ⟨j, h⟩ := h
          exact tX12_culprit_54 C hr j x1 x2 x3 x4 r13 (-1 : Int32) (0 : Int32) (0 : Int32) _ _ _ _ (lv_sub hl [4, 5, 6, 7, 8, 3, 2, 1, 0] rfl) g h
        · have h := h.1 c12
          refine lv_iconst (v := -1) C.1 C.2.1 dX12_culprit_31 (by decide) ?_
          exact gx_iret C hr g dX12_culprit_32 h
theorem mX12_culprit {l : Launch} {E : EE} {base : Nat} (x1 : Int32) (x2 : Int32) (x3 : Int32) (x4 : Int32) (σ : St) (Q : Int32 → St → Prop) (h : wX12_culprit x1 x2 x3 x4 σ Q) : Met l yX12_culprit (wy yX12_culprit cX12_culprit 10 (some .int)) rmX12_culprit (va_Pc [.ref (ga E 11), .int x1, .int x2, .int x3, .int x4] (fun U => SW E base σ U)) (QI E base Q) (rmX12_culprit).cells (rmX12_culprit).slots (fun q => base ≤ q) :=
  met_of (by decide) (Nat.le_of_ble_eq_true rfl) (fun p e s m args below meth c C hr g ls hl => tX12_culprit_0 C hr x1 x2 x3 x4 _ _ _ _ hl g h)
set_option maxHeartbeats 4000000 in
set_option maxRecDepth 100000 in
theorem tX12_isGood_12 {p : Program} {l : Launch} {e : Env} {s : State} {m : MethodId} {args : Array Value} {below : List Frame} {meth : Method} {c : Code} {E : EE} {base : Nat} (C : Cx p E base s m args meth c cX12_isGood 4 RX12) (hr : meth.sig.returnType = (some .boolean)) {Q : Int32 → St → Prop} {K2 : Int32 → Int32 → St → Prop} (hK2 : ∀ (x1 : Int32) (x2 : Int32) (σ : St) (H : Heap) (locs : List Loc) (ls : Array Slot), lv_has ls 4 [(0, .ref (ga E 11)), (1, .int x1), (2, .int x2)] → GW E base s σ H locs → K2 x1 x2 σ → W p l e rmX12_isGood s m args below meth c H locs 0 0 (MQ below (QI E base Q) args s 0 0 (fun q => base ≤ q)) (F0 m 2 ls [])) : ∀ (n : Nat) (x1 : Int32) (x2 : Int32) (x3 : Int32) (σ : St) (H : Heap) (locs : List Loc) (ls : Array Slot), lv_has ls 4 [(0, .ref (ga E 11)), (1, .int x1), (2, .int x2), (3, .int x3)] → GW E base s σ H locs → wX12_isGood_12 Q K2 n x1 x2 x3 σ → W p l e rmX12_isGood s m args below meth c H locs 0 0 (MQ below (QI E base Q) args s 0 0 (fun q => base ≤ q)) (F0 m 12 ls []) := by
  intro n
  induction n with
  | zero => intro _ _ _; intros; exact False.elim (by assumption)
  | succ n ih =>
    intro x1 x2 x3 σ H locs ls hl g h
    refine lv_iload_n C.1 C.2.1 dX12_isGood_12 rfl (lv_at hl 3 rfl) ?_
    refine lv_aload_n C.1 C.2.1 dX12_isGood_13 rfl (lv_at hl 0 rfl) ?_
    refine gx_getI C g fl_X12_263 dX12_isGood_14 sh_11 rfl ?_
    refine lv_icmp_ge (tgt := 38) C.1 C.2.1 dX12_isGood_17 (by decide) (fun c1 => ?_) (fun c1 => ?_)
    · have h := h.1 c1
      obtain ⟨x2_2, ex2_2⟩ : ∃ y : Int32, y = x2 + 1 := ⟨_, rfl⟩
      have h := h x2_2 ex2_2
      refine lv_iinc (v := x2_2) (lv' := [(2, .int x2_2), (0, .ref (ga E 11)), (1, .int x1), (3, .int x3)]) C.1 C.2.1 dX12_isGood_38 hl (k := 2) rfl (by rw [ex2_2]; rfl) (by decide) rfl (fun ls hl => ?_)
      refine lv_goto (tgt := 2) C.1 C.2.1 dX12_isGood_41 (by decide) ?_
      exact hK2 x1 x2_2 _ _ _ _ (lv_sub hl [1, 2, 0] rfl) g h
    · have h := h.2 c1
      refine lv_aload_n C.1 C.2.1 dX12_isGood_20 rfl (lv_at hl 0 rfl) ?_
      refine lv_iload_n C.1 C.2.1 dX12_isGood_21 rfl (lv_at hl 3 rfl) ?_
      refine lv_iload_n C.1 C.2.1 dX12_isGood_22 rfl (lv_at hl 2 rfl) ?_
      refine lv_iload_n C.1 C.2.1 dX12_isGood_23 rfl (lv_at hl 1 rfl) ?_
      refine gx_calli0 g (gx_runV (k := 11) (rest := []) C g mb_X12_breaks ml_X12_367 rfl sh_11 (mX12_breaks x3 x2 x1 _ _ h) ⟨Nat.le_of_ble_eq_true rfl, Nat.le_of_ble_eq_true rfl⟩ ⟨Nat.le_refl _, Nat.le_refl _⟩ rfl hl.1 rfl (Nat.le_of_ble_eq_true rfl) dX12_isGood_24) rfl rfl (fun r3 σ4 H locs h g => ?_)
      refine lv_if_eq (tgt := 32) C.1 C.2.1 dX12_isGood_27 (by decide) (fun c5 => ?_) (fun c5 => ?_)
      · have h := h.1 c5
        obtain ⟨x3_6, ex3_6⟩ : ∃ y : Int32, y = x3 + 1 := ⟨_, rfl⟩
        have h := h x3_6 ex3_6
        refine lv_iinc (v := x3_6) (lv' := [(3, .int x3_6), (0, .ref (ga E 11)), (1, .int x1), (2, .int x2)]) C.1 C.2.1 dX12_isGood_32 hl (k := 3) rfl (by rw [ex3_6]; rfl) (by decide) rfl (fun ls hl => ?_)
        refine lv_goto (tgt := 12) C.1 C.2.1 dX12_isGood_35 (by decide) ?_
        exact ih x1 x2 x3_6 _ _ _ _ (lv_sub hl [1, 2, 3, 0] rfl) g h
      · have h := h.2 c5
        refine lv_iconst (v := 0) C.1 C.2.1 dX12_isGood_30 (by decide) ?_
        exact gx_zret C hr g dX12_isGood_31 (by decide) h
set_option maxHeartbeats 4000000 in
set_option maxRecDepth 100000 in
theorem tX12_isGood_2 {p : Program} {l : Launch} {e : Env} {s : State} {m : MethodId} {args : Array Value} {below : List Frame} {meth : Method} {c : Code} {E : EE} {base : Nat} (C : Cx p E base s m args meth c cX12_isGood 4 RX12) (hr : meth.sig.returnType = (some .boolean)) {Q : Int32 → St → Prop} : ∀ (n : Nat) (x1 : Int32) (x2 : Int32) (σ : St) (H : Heap) (locs : List Loc) (ls : Array Slot), lv_has ls 4 [(0, .ref (ga E 11)), (1, .int x1), (2, .int x2)] → GW E base s σ H locs → wX12_isGood_2 Q n x1 x2 σ → W p l e rmX12_isGood s m args below meth c H locs 0 0 (MQ below (QI E base Q) args s 0 0 (fun q => base ≤ q)) (F0 m 2 ls []) := by
  intro n
  induction n with
  | zero => intro _ _; intros; exact False.elim (by assumption)
  | succ n ih =>
    intro x1 x2 σ H locs ls hl g h
    refine lv_iload_n C.1 C.2.1 dX12_isGood_2 rfl (lv_at hl 2 rfl) ?_
    refine lv_aload_n C.1 C.2.1 dX12_isGood_3 rfl (lv_at hl 0 rfl) ?_
    refine gx_getI C g fl_X12_307 dX12_isGood_4 sh_11 rfl ?_
    refine lv_icmp_ge (tgt := 44) C.1 C.2.1 dX12_isGood_7 (by decide) (fun c1 => ?_) (fun c1 => ?_)
    · have h := h.1 c1
      refine lv_iconst (v := 1) C.1 C.2.1 dX12_isGood_44 (by decide) ?_
      exact gx_zret C hr g dX12_isGood_45 (by decide) h
    · have h := h.2 c1
      refine lv_iconst (v := 0) C.1 C.2.1 dX12_isGood_10 (by decide) ?_
      refine lv_istore_n (lv' := [(3, .int (0 : Int32)), (0, .ref (ga E 11)), (1, .int x1), (2, .int x2)]) C.1 C.2.1 dX12_isGood_11 rfl hl (by decide) rfl (fun ls hl => ?_)
      obtain ⟨j, h⟩ := h
      exact tX12_isGood_12 C hr ih j x1 x2 (0 : Int32) _ _ _ _ (lv_sub hl [1, 2, 3, 0] rfl) g h
set_option maxHeartbeats 4000000 in
set_option maxRecDepth 100000 in
theorem tX12_isGood_0 {p : Program} {l : Launch} {e : Env} {s : State} {m : MethodId} {args : Array Value} {below : List Frame} {meth : Method} {c : Code} {E : EE} {base : Nat} (C : Cx p E base s m args meth c cX12_isGood 4 RX12) (hr : meth.sig.returnType = (some .boolean)) {Q : Int32 → St → Prop} : ∀ (x1 : Int32) (σ : St) (H : Heap) (locs : List Loc) (ls : Array Slot), lv_has ls 4 [(0, .ref (ga E 11)), (1, .int x1)] → GW E base s σ H locs → wX12_isGood x1 σ Q → W p l e rmX12_isGood s m args below meth c H locs 0 0 (MQ below (QI E base Q) args s 0 0 (fun q => base ≤ q)) (F0 m 0 ls []) := by
  intro x1 σ H locs ls hl g h
  refine lv_iconst (v := 0) C.1 C.2.1 dX12_isGood_0 (by decide) ?_
  refine lv_istore_n (lv' := [(2, .int (0 : Int32)), (0, .ref (ga E 11)), (1, .int x1)]) C.1 C.2.1 dX12_isGood_1 rfl hl (by decide) rfl (fun ls hl => ?_)
  obtain ⟨j, h⟩ := h
  exact tX12_isGood_2 C hr j x1 (0 : Int32) _ _ _ _ (lv_sub hl [1, 2, 0] rfl) g h
theorem mX12_isGood {l : Launch} {E : EE} {base : Nat} (x1 : Int32) (σ : St) (Q : Int32 → St → Prop) (h : wX12_isGood x1 σ Q) : Met l yX12_isGood (wy yX12_isGood cX12_isGood 4 (some .boolean)) rmX12_isGood (va_Pc [.ref (ga E 11), .int x1] (fun U => SW E base σ U)) (QI E base Q) (rmX12_isGood).cells (rmX12_isGood).slots (fun q => base ≤ q) :=
  met_of (by decide) (Nat.le_of_ble_eq_true rfl) (fun p e s m args below meth c C hr g ls hl => tX12_isGood_0 C hr x1 _ _ _ _ hl g h)
set_option maxHeartbeats 4000000 in
set_option maxRecDepth 100000 in
theorem tX12_plan_292 {p : Program} {l : Launch} {e : Env} {s : State} {m : MethodId} {args : Array Value} {below : List Frame} {meth : Method} {c : Code} {E : EE} {base : Nat} (C : Cx p E base s m args meth c cX12_plan 9 RX12) (hr : meth.sig.returnType = (some .int)) {Q : Int32 → St → Prop} {K71 : Int32 → Int32 → Int32 → Int32 → Int32 → St → Prop} (hK71 : ∀ (x1 : Int32) (x2 : Int32) (x3 : Int32) (x4 : Int32) (x5 : Int32) (σ : St) (H : Heap) (locs : List Loc) (ls : Array Slot), lv_has ls 9 [(0, .ref (ga E 11)), (1, .int x1), (2, .int x2), (3, .int x3), (4, .int x4), (5, .int x5)] → GW E base s σ H locs → K71 x1 x2 x3 x4 x5 σ → W p l e rmX12_plan s m args below meth c H locs 0 0 (MQ below (QI E base Q) args s 0 0 (fun q => base ≤ q)) (F0 m 71 ls [])) : ∀ (n : Nat) (x1 : Int32) (x2 : Int32) (x3 : Int32) (x4 : Int32) (x5 : Int32) (x8 : Int32) (σ : St) (H : Heap) (locs : List Loc) (ls : Array Slot), lv_has ls 9 [(0, .ref (ga E 11)), (1, .int x1), (2, .int x2), (3, .int x3), (4, .int x4), (5, .int x5), (8, .int x8)] → GW E base s σ H locs → wX12_plan_292 Q K71 n x1 x2 x3 x4 x5 x8 σ → W p l e rmX12_plan s m args below meth c H locs 0 0 (MQ below (QI E base Q) args s 0 0 (fun q => base ≤ q)) (F0 m 292 ls []) := by
  intro n
  induction n with
  | zero => intro _ _ _ _ _ _; intros; exact False.elim (by assumption)
  | succ n ih =>
    intro x1 x2 x3 x4 x5 x8 σ H locs ls hl g h
    refine lv_iload C.1 C.2.1 dX12_plan_292 (lv_at hl 6 rfl) ?_
    refine lv_iload_n C.1 C.2.1 dX12_plan_294 rfl (lv_at hl 2 rfl) ?_
    refine lv_icmp_ge (tgt := 318) C.1 C.2.1 dX12_plan_295 (by decide) (fun c1 => ?_) (fun c1 => ?_)
    · have h := h.1 c1
      refine lv_goto (tgt := 71) C.1 C.2.1 dX12_plan_318 (by decide) ?_
      exact hK71 x1 x2 x3 x4 x5 _ _ _ _ (lv_sub hl [0, 1, 2, 3, 4, 5] rfl) g h
    · have h := h.2 c1
      refine lv_aload_n C.1 C.2.1 dX12_plan_298 rfl (lv_at hl 0 rfl) ?_
      refine gx_getR C g fl_X12_167 dX12_plan_299 sh_11 rfl (by decide) ?_
      refine lv_iload C.1 C.2.1 dX12_plan_302 (lv_at hl 6 rfl) ?_
      refine lv_aload_n C.1 C.2.1 dX12_plan_304 rfl (lv_at hl 0 rfl) ?_
      refine gx_getR C g fl_X12_164 dX12_plan_305 sh_11 rfl (by decide) ?_
      refine lv_iload C.1 C.2.1 dX12_plan_308 (lv_at hl 6 rfl) ?_
      obtain ⟨i2, h⟩ := h
      refine gx_iald C g dX12_plan_310 sh_94 i2 ?_
      obtain ⟨i3, h⟩ := h
      refine gx_iast C g dX12_plan_311 sh_95 i3 (fun H locs σ4 eσ4 g => ?_)
      have h := h σ4 eσ4
      obtain ⟨x8_5, ex8_5⟩ : ∃ y : Int32, y = x8 + 1 := ⟨_, rfl⟩
      have h := h x8_5 ex8_5
      refine lv_iinc (v := x8_5) (lv' := [(8, .int x8_5), (0, .ref (ga E 11)), (1, .int x1), (2, .int x2), (3, .int x3), (4, .int x4), (5, .int x5)]) C.1 C.2.1 dX12_plan_312 hl (k := 6) rfl (by rw [ex8_5]; rfl) (by decide) rfl (fun ls hl => ?_)
      refine lv_goto (tgt := 292) C.1 C.2.1 dX12_plan_315 (by decide) ?_
      exact ih x1 x2 x3 x4 x5 x8_5 _ _ _ _ (lv_sub hl [1, 2, 3, 4, 5, 6, 0] rfl) g h
set_option maxHeartbeats 4000000 in
set_option maxRecDepth 100000 in
theorem tX12_plan_229 {p : Program} {l : Launch} {e : Env} {s : State} {m : MethodId} {args : Array Value} {below : List Frame} {meth : Method} {c : Code} {E : EE} {base : Nat} (C : Cx p E base s m args meth c cX12_plan 9 RX12) (hr : meth.sig.returnType = (some .int)) {Q : Int32 → St → Prop} {K71 : Int32 → Int32 → Int32 → Int32 → Int32 → St → Prop} (hK71 : ∀ (x1 : Int32) (x2 : Int32) (x3 : Int32) (x4 : Int32) (x5 : Int32) (σ : St) (H : Heap) (locs : List Loc) (ls : Array Slot), lv_has ls 9 [(0, .ref (ga E 11)), (1, .int x1), (2, .int x2), (3, .int x3), (4, .int x4), (5, .int x5)] → GW E base s σ H locs → K71 x1 x2 x3 x4 x5 σ → W p l e rmX12_plan s m args below meth c H locs 0 0 (MQ below (QI E base Q) args s 0 0 (fun q => base ≤ q)) (F0 m 71 ls [])) : ∀ (x1 : Int32) (x2 : Int32) (x3 : Int32) (x4 : Int32) (x5 : Int32) (x6 : Int32) (σ : St) (H : Heap) (locs : List Loc) (ls : Array Slot), lv_has ls 9 [(0, .ref (ga E 11)), (1, .int x1), (2, .int x2), (3, .int x3), (4, .int x4), (5, .int x5), (6, .int x6)] → GW E base s σ H locs → wX12_plan_229 Q K71 x1 x2 x3 x4 x5 x6 σ → W p l e rmX12_plan s m args below meth c H locs 0 0 (MQ below (QI E base Q) args s 0 0 (fun q => base ≤ q)) (F0 m 229 ls []) := by
  intro x1 x2 x3 x4 x5 x6 σ H locs ls hl g h
  refine lv_aload_n C.1 C.2.1 dX12_plan_229 rfl (lv_at hl 0 rfl) ?_
  refine lv_iload C.1 C.2.1 dX12_plan_230 (lv_at hl 6 rfl) ?_
  refine gx_calli0 g (gx_runV (k := 11) (rest := []) C g mb_X12_isGood ml_X12_374 rfl sh_11 (mX12_isGood x6 _ _ h) ⟨Nat.le_of_ble_eq_true rfl, Nat.le_of_ble_eq_true rfl⟩ ⟨Nat.le_refl _, Nat.le_refl _⟩ rfl hl.1 rfl (Nat.le_of_ble_eq_true rfl) dX12_plan_232) rfl rfl (fun r1 σ2 H locs h g => ?_)
  refine lv_if_ne (tgt := 241) C.1 C.2.1 dX12_plan_235 (by decide) (fun c3 => ?_) (fun c3 => ?_)
  · have h := h.2 c3
    refine lv_iload C.1 C.2.1 dX12_plan_241 (lv_at hl 5 rfl) ?_
    refine lv_iconst (v := 1) C.1 C.2.1 dX12_plan_243 (by decide) ?_
    refine lv_iadd C.1 C.2.1 dX12_plan_244 ?_
    refine lv_iload_n C.1 C.2.1 dX12_plan_245 rfl (lv_at hl 2 rfl) ?_
    refine lv_icmp_ge (tgt := 263) C.1 C.2.1 dX12_plan_246 (by decide) (fun c4 => ?_) (fun c4 => ?_)
    · have h := h.1 c4
      refine lv_aload_n C.1 C.2.1 dX12_plan_263 rfl (lv_at hl 0 rfl) ?_
      refine gx_getR C g fl_X12_170 dX12_plan_264 sh_11 rfl (by decide) ?_
      refine lv_iload_n C.1 C.2.1 dX12_plan_267 rfl (lv_at hl 2 rfl) ?_
      obtain ⟨i5, h⟩ := h
      refine gx_iald C g dX12_plan_268 sh_96 i5 ?_
      refine lv_iload_n C.1 C.2.1 dX12_plan_269 rfl (lv_at hl 3 rfl) ?_
      refine lv_icmp_ge (tgt := 276) C.1 C.2.1 dX12_plan_270 (by decide) (fun c6 => ?_) (fun c6 => ?_)
      · have h := h.1 c6
        refine lv_aload_n C.1 C.2.1 dX12_plan_276 rfl (lv_at hl 0 rfl) ?_
        refine gx_getR C g fl_X12_173 dX12_plan_277 sh_11 rfl (by decide) ?_
        refine lv_iload_n C.1 C.2.1 dX12_plan_280 rfl (lv_at hl 2 rfl) ?_
        obtain ⟨i7, h⟩ := h
        refine gx_iald C g dX12_plan_281 sh_97 i7 ?_
        refine lv_topi (fun x4_8 ex4_8 => ?_)
        have h := h x4_8 ex4_8
        refine lv_istore (lv' := [(4, .int x4_8), (0, .ref (ga E 11)), (1, .int x1), (2, .int x2), (3, .int x3), (5, .int x5), (6, .int x6)]) C.1 C.2.1 dX12_plan_282 hl (by decide) rfl (fun ls hl => ?_)
        refine lv_aload_n C.1 C.2.1 dX12_plan_284 rfl (lv_at hl 1 rfl) ?_
        refine lv_iload_n C.1 C.2.1 dX12_plan_285 rfl (lv_at hl 3 rfl) ?_
        refine gx_putI C g fi_X12_377 dX12_plan_286 sh_11 rfl (fun H locs σ9 eσ9 g => ?_)
        have h := h σ9 eσ9
        refine lv_iconst (v := 0) C.1 C.2.1 dX12_plan_289 (by decide) ?_
        refine lv_istore (lv' := [(8, .int (0 : Int32)), (4, .int x4_8), (0, .ref (ga E 11)), (1, .int x1), (2, .int x2), (3, .int x3), (5, .int x5), (6, .int x6)]) C.1 C.2.1 dX12_plan_290 hl (by decide) rfl (fun ls hl => ?_)
        obtain ⟨j, h⟩ := h
        exact tX12_plan_292 C hr hK71 j x1 x2 x3 x4_8 x5 (0 : Int32) _ _ _ _ (lv_sub hl [2, 3, 4, 5, 1, 6, 0] rfl) g h
      · have h := h.2 c6
        refine lv_goto (tgt := 71) C.1 C.2.1 dX12_plan_273 (by decide) ?_
        exact hK71 x1 x2 x3 x4 x5 _ _ _ _ (lv_sub hl [0, 1, 2, 3, 4, 5] rfl) g h
    · have h := h.2 c4
      obtain ⟨x5_10, ex5_10⟩ : ∃ y : Int32, y = x5 + 1 := ⟨_, rfl⟩
      have h := h x5_10 ex5_10
      refine lv_iinc (v := x5_10) (lv' := [(5, .int x5_10), (0, .ref (ga E 11)), (1, .int x1), (2, .int x2), (3, .int x3), (4, .int x4), (6, .int x6)]) C.1 C.2.1 dX12_plan_249 hl (k := 5) rfl (by rw [ex5_10]; rfl) (by decide) rfl (fun ls hl => ?_)
      refine lv_aload_n C.1 C.2.1 dX12_plan_252 rfl (lv_at hl 1 rfl) ?_
      refine gx_getR C g fl_X12_164 dX12_plan_253 sh_11 rfl (by decide) ?_
      refine lv_iload C.1 C.2.1 dX12_plan_256 (lv_at hl 0 rfl) ?_
      refine lv_iconst (v := -1) C.1 C.2.1 dX12_plan_258 (by decide) ?_
      obtain ⟨i11, h⟩ := h
      refine gx_iast C g dX12_plan_259 sh_94 i11 (fun H locs σ12 eσ12 g => ?_)
      have h := h σ12 eσ12
      refine lv_goto (tgt := 71) C.1 C.2.1 dX12_plan_260 (by decide) ?_
      exact hK71 x1 x2 x3 x4 x5_10 _ _ _ _ (lv_sub hl [1, 2, 3, 4, 5, 0] rfl) g h
  · have h := h.1 c3
    refine lv_goto (tgt := 71) C.1 C.2.1 dX12_plan_238 (by decide) ?_
    exact hK71 x1 x2 x3 x4 x5 _ _ _ _ (lv_sub hl [0, 1, 2, 3, 4, 5] rfl) g h
set_option maxHeartbeats 4000000 in
set_option maxRecDepth 100000 in
theorem tX12_plan_71 {p : Program} {l : Launch} {e : Env} {s : State} {m : MethodId} {args : Array Value} {below : List Frame} {meth : Method} {c : Code} {E : EE} {base : Nat} (C : Cx p E base s m args meth c cX12_plan 9 RX12) (hr : meth.sig.returnType = (some .int)) {Q : Int32 → St → Prop} : ∀ (n : Nat) (x1 : Int32) (x2 : Int32) (x3 : Int32) (x4 : Int32) (x5 : Int32) (σ : St) (H : Heap) (locs : List Loc) (ls : Array Slot), lv_has ls 9 [(0, .ref (ga E 11)), (1, .int x1), (2, .int x2), (3, .int x3), (4, .int x4), (5, .int x5)] → GW E base s σ H locs → wX12_plan_71 Q n x1 x2 x3 x4 x5 σ → W p l e rmX12_plan s m args below meth c H locs 0 0 (MQ below (QI E base Q) args s 0 0 (fun q => base ≤ q)) (F0 m 71 ls []) := by
  intro n
  induction n with
  | zero => intro _ _ _ _ _; intros; exact False.elim (by assumption)
  | succ n ih =>
    intro x1 x2 x3 x4 x5 σ H locs ls hl g h
    refine lv_iload C.1 C.2.1 dX12_plan_71 (lv_at hl 5 rfl) ?_
    refine lv_if_lt (tgt := 321) C.1 C.2.1 dX12_plan_73 (by decide) (fun c1 => ?_) (fun c1 => ?_)
    · have h := h.1 c1
      refine lv_iload C.1 C.2.1 dX12_plan_321 (lv_at hl 4 rfl) ?_
      exact gx_iret C hr g dX12_plan_323 h
    · have h := h.2 c1
      refine lv_aload_n C.1 C.2.1 dX12_plan_76 rfl (lv_at hl 0 rfl) ?_
      refine gx_getR C g fl_X12_164 dX12_plan_77 sh_11 rfl (by decide) ?_
      refine lv_iload C.1 C.2.1 dX12_plan_80 (lv_at hl 5 rfl) ?_
      refine lv_dup2_11 C.1 C.2.1 dX12_plan_82 rfl rfl ?_
      obtain ⟨i2, h⟩ := h
      refine gx_iald C g dX12_plan_83 sh_94 i2 ?_
      refine lv_iconst (v := 1) C.1 C.2.1 dX12_plan_84 (by decide) ?_
      refine lv_iadd C.1 C.2.1 dX12_plan_85 ?_
      obtain ⟨i3, h⟩ := h
      refine gx_iast C g dX12_plan_86 sh_94 i3 (fun H locs σ4 eσ4 g => ?_)
      have h := h σ4 eσ4
      refine lv_aload_n C.1 C.2.1 dX12_plan_87 rfl (lv_at hl 0 rfl) ?_
      refine gx_getR C g fl_X12_164 dX12_plan_88 sh_11 rfl (by decide) ?_
      refine lv_iload C.1 C.2.1 dX12_plan_91 (lv_at hl 5 rfl) ?_
      obtain ⟨i5, h⟩ := h
      refine gx_iald C g dX12_plan_93 sh_94 i5 ?_
      refine lv_aload_n C.1 C.2.1 dX12_plan_94 rfl (lv_at hl 0 rfl) ?_
      refine gx_getR C g fl_X12_101 dX12_plan_95 sh_11 rfl (by decide) ?_
      refine lv_iload_n C.1 C.2.1 dX12_plan_98 rfl (lv_at hl 1 rfl) ?_
      obtain ⟨i6, h⟩ := h
      refine gx_iald C g dX12_plan_99 sh_75 i6 ?_
      refine lv_icmp_le (tgt := 109) C.1 C.2.1 dX12_plan_100 (by decide) (fun c7 => ?_) (fun c7 => ?_)
      · have h := h.1 c7
        refine lv_aload_n C.1 C.2.1 dX12_plan_109 rfl (lv_at hl 0 rfl) ?_
        refine gx_getI C g fl_X12_310 dX12_plan_110 sh_11 rfl ?_
        refine lv_iload C.1 C.2.1 dX12_plan_113 (lv_at hl 5 rfl) ?_
        refine lv_iadd C.1 C.2.1 dX12_plan_115 ?_
        refine lv_topi (fun x6_8 ex6_8 => ?_)
        have h := h x6_8 ex6_8
        refine lv_istore (lv' := [(6, .int x6_8), (0, .ref (ga E 11)), (1, .int x1), (2, .int x2), (3, .int x3), (4, .int x4), (5, .int x5)]) C.1 C.2.1 dX12_plan_116 hl (by decide) rfl (fun ls hl => ?_)
        refine lv_aload_n C.1 C.2.1 dX12_plan_118 rfl (lv_at hl 1 rfl) ?_
        refine lv_iload C.1 C.2.1 dX12_plan_119 (lv_at hl 0 rfl) ?_
        refine lv_iload_n C.1 C.2.1 dX12_plan_121 rfl (lv_at hl 2 rfl) ?_
        refine lv_aload_n C.1 C.2.1 dX12_plan_122 rfl (lv_at hl 1 rfl) ?_
        refine gx_getR C g fl_X12_164 dX12_plan_123 sh_11 rfl (by decide) ?_
        refine lv_iload C.1 C.2.1 dX12_plan_126 (lv_at hl 6 rfl) ?_
        obtain ⟨i9, h⟩ := h
        refine gx_iald C g dX12_plan_128 sh_94 i9 ?_
        refine gx_callv0 g (gx_runV (k := 11) (rest := []) C g mb_X12_steps ml_X12_353 rfl sh_11 (mX12_steps x6_8 x1 (gv σ4 94 x5.toNatClampNeg) _ _ h) ⟨Nat.le_of_ble_eq_true rfl, Nat.le_of_ble_eq_true rfl⟩ ⟨Nat.le_refl _, Nat.le_refl _⟩ rfl hl.1 rfl (Nat.le_of_ble_eq_true rfl) dX12_plan_129) rfl rfl (fun σ11 H locs h g => ?_)
        refine lv_bipush (v := 10) C.1 C.2.1 dX12_plan_132 (by decide) ?_
        refine lv_bipush (v := 7) C.1 C.2.1 dX12_plan_134 (by decide) ?_
        refine lv_iload C.1 C.2.1 dX12_plan_136 (lv_at hl 0 rfl) ?_
        refine lv_imul C.1 C.2.1 dX12_plan_138 ?_
        refine lv_iload_n C.1 C.2.1 dX12_plan_139 rfl (lv_at hl 2 rfl) ?_
        refine lv_iadd C.1 C.2.1 dX12_plan_140 ?_
        refine lv_imul C.1 C.2.1 dX12_plan_141 ?_
        refine lv_topi (fun x7_12 ex7_12 => ?_)
        have h := h x7_12 ex7_12
        refine lv_istore (lv' := [(7, .int x7_12), (6, .int x6_8), (0, .ref (ga E 11)), (1, .int x1), (2, .int x2), (3, .int x3), (4, .int x4), (5, .int x5)]) C.1 C.2.1 dX12_plan_142 hl (by decide) rfl (fun ls hl => ?_)
        refine lv_aload_n C.1 C.2.1 dX12_plan_144 rfl (lv_at hl 2 rfl) ?_
        refine gx_getR C g fl_X12_170 dX12_plan_145 sh_11 rfl (by decide) ?_
        refine lv_iload C.1 C.2.1 dX12_plan_148 (lv_at hl 7 rfl) ?_
        refine lv_iconst (v := 1) C.1 C.2.1 dX12_plan_150 (by decide) ?_
        refine lv_iadd C.1 C.2.1 dX12_plan_151 ?_
        refine lv_aload_n C.1 C.2.1 dX12_plan_152 rfl (lv_at hl 2 rfl) ?_
        refine gx_getR C g fl_X12_170 dX12_plan_153 sh_11 rfl (by decide) ?_
        refine lv_iload C.1 C.2.1 dX12_plan_156 (lv_at hl 7 rfl) ?_
        obtain ⟨i13, h⟩ := h
        refine gx_iald C g dX12_plan_158 sh_96 i13 ?_
        refine lv_aload_n C.1 C.2.1 dX12_plan_159 rfl (lv_at hl 2 rfl) ?_
        refine gx_getR C g fl_X12_140 dX12_plan_160 sh_11 rfl (by decide) ?_
        refine lv_iload C.1 C.2.1 dX12_plan_163 (lv_at hl 0 rfl) ?_
        refine lv_bipush (v := 6) C.1 C.2.1 dX12_plan_165 (by decide) ?_
        refine lv_iadd C.1 C.2.1 dX12_plan_167 ?_
        obtain ⟨i14, h⟩ := h
        refine gx_iald C g dX12_plan_168 sh_88 i14 ?_
        refine lv_iadd C.1 C.2.1 dX12_plan_169 ?_
        obtain ⟨i15, h⟩ := h
        refine gx_iast C g dX12_plan_170 sh_96 i15 (fun H locs σ16 eσ16 g => ?_)
        have h := h σ16 eσ16
        refine lv_aload_n C.1 C.2.1 dX12_plan_171 rfl (lv_at hl 2 rfl) ?_
        refine gx_getR C g fl_X12_173 dX12_plan_172 sh_11 rfl (by decide) ?_
        refine lv_iload C.1 C.2.1 dX12_plan_175 (lv_at hl 7 rfl) ?_
        refine lv_iconst (v := 1) C.1 C.2.1 dX12_plan_177 (by decide) ?_
        refine lv_iadd C.1 C.2.1 dX12_plan_178 ?_
        refine lv_aload_n C.1 C.2.1 dX12_plan_179 rfl (lv_at hl 2 rfl) ?_
        refine gx_getR C g fl_X12_173 dX12_plan_180 sh_11 rfl (by decide) ?_
        refine lv_iload C.1 C.2.1 dX12_plan_183 (lv_at hl 7 rfl) ?_
        obtain ⟨i17, h⟩ := h
        refine gx_iald C g dX12_plan_185 sh_97 i17 ?_
        refine lv_aload_n C.1 C.2.1 dX12_plan_186 rfl (lv_at hl 2 rfl) ?_
        refine gx_getR C g fl_X12_140 dX12_plan_187 sh_11 rfl (by decide) ?_
        refine lv_iload C.1 C.2.1 dX12_plan_190 (lv_at hl 0 rfl) ?_
        refine lv_bipush (v := 7) C.1 C.2.1 dX12_plan_192 (by decide) ?_
        refine lv_iadd C.1 C.2.1 dX12_plan_194 ?_
        obtain ⟨i18, h⟩ := h
        refine gx_iald C g dX12_plan_195 sh_88 i18 ?_
        refine lv_iadd C.1 C.2.1 dX12_plan_196 ?_
        refine lv_aload_n C.1 C.2.1 dX12_plan_197 rfl (lv_at hl 2 rfl) ?_
        refine gx_getR C g fl_X12_140 dX12_plan_198 sh_11 rfl (by decide) ?_
        refine lv_iload C.1 C.2.1 dX12_plan_201 (lv_at hl 0 rfl) ?_
        refine lv_bipush (v := 8) C.1 C.2.1 dX12_plan_203 (by decide) ?_
        refine lv_iadd C.1 C.2.1 dX12_plan_205 ?_
        obtain ⟨i19, h⟩ := h
        refine gx_iald C g dX12_plan_206 sh_88 i19 ?_
        refine lv_iadd C.1 C.2.1 dX12_plan_207 ?_
        obtain ⟨i20, h⟩ := h
        refine gx_iast C g dX12_plan_208 sh_97 i20 (fun H locs σ21 eσ21 g => ?_)
        have h := h σ21 eσ21
        refine lv_iload C.1 C.2.1 dX12_plan_209 (lv_at hl 6 rfl) ?_
        refine lv_iconst (v := -1) C.1 C.2.1 dX12_plan_211 (by decide) ?_
        refine lv_icmp_eq (tgt := 229) C.1 C.2.1 dX12_plan_212 (by decide) (fun c22 => ?_) (fun c22 => ?_)
        · have h := h.1 c22
          exact tX12_plan_229 C hr ih x1 x2 x3 x4 x5 x6_8 _ _ _ _ (lv_sub hl [2, 3, 4, 5, 6, 7, 1] rfl) g h
        · have h := h.2 c22
          refine lv_aload_n C.1 C.2.1 dX12_plan_215 rfl (lv_at hl 2 rfl) ?_
          refine gx_getR C g fl_X12_173 dX12_plan_216 sh_11 rfl (by decide) ?_
          refine lv_iload C.1 C.2.1 dX12_plan_219 (lv_at hl 7 rfl) ?_
          refine lv_iconst (v := 1) C.1 C.2.1 dX12_plan_221 (by decide) ?_
          refine lv_iadd C.1 C.2.1 dX12_plan_222 ?_
          obtain ⟨i23, h⟩ := h
          refine gx_iald C g dX12_plan_223 sh_97 i23 ?_
          refine lv_iload C.1 C.2.1 dX12_plan_224 (lv_at hl 6 rfl) ?_
          refine lv_icmp_ge (tgt := 71) C.1 C.2.1 dX12_plan_226 (by decide) (fun c24 => ?_) (fun c24 => ?_)
          · have h := h.1 c24
            exact ih x1 x2 x3 x4 x5 _ _ _ _ (lv_sub hl [2, 3, 4, 5, 6, 7] rfl) g h
          · have h := h.2 c24
            exact tX12_plan_229 C hr ih x1 x2 x3 x4 x5 x6_8 _ _ _ _ (lv_sub hl [2, 3, 4, 5, 6, 7, 1] rfl) g h
      · have h := h.2 c7
        obtain ⟨x5_25, ex5_25⟩ : ∃ y : Int32, y = x5 + (-1) := ⟨_, rfl⟩
        have h := h x5_25 ex5_25
        refine lv_iinc (v := x5_25) (lv' := [(5, .int x5_25), (0, .ref (ga E 11)), (1, .int x1), (2, .int x2), (3, .int x3), (4, .int x4)]) C.1 C.2.1 dX12_plan_103 hl (k := 5) rfl (by rw [ex5_25]; rfl) (by decide) rfl (fun ls hl => ?_)
        refine lv_goto (tgt := 71) C.1 C.2.1 dX12_plan_106 (by decide) ?_
        exact ih x1 x2 x3 x4 x5_25 _ _ _ _ (lv_sub hl [1, 2, 3, 4, 5, 0] rfl) g h
set_option maxHeartbeats 4000000 in
set_option maxRecDepth 100000 in
theorem tX12_plan_0 {p : Program} {l : Launch} {e : Env} {s : State} {m : MethodId} {args : Array Value} {below : List Frame} {meth : Method} {c : Code} {E : EE} {base : Nat} (C : Cx p E base s m args meth c cX12_plan 9 RX12) (hr : meth.sig.returnType = (some .int)) {Q : Int32 → St → Prop} : ∀ (x1 : Int32) (x2 : Int32) (x3 : Int32) (σ : St) (H : Heap) (locs : List Loc) (ls : Array Slot), lv_has ls 9 [(0, .ref (ga E 11)), (1, .int x1), (2, .int x2), (3, .int x3)] → GW E base s σ H locs → wX12_plan x1 x2 x3 σ Q → W p l e rmX12_plan s m args below meth c H locs 0 0 (MQ below (QI E base Q) args s 0 0 (fun q => base ≤ q)) (F0 m 0 ls []) := by
  intro x1 x2 x3 σ H locs ls hl g h
  refine lv_aload_n C.1 C.2.1 dX12_plan_0 rfl (lv_at hl 0 rfl) ?_
  refine lv_iload_n C.1 C.2.1 dX12_plan_1 rfl (lv_at hl 1 rfl) ?_
  refine gx_calli0 g (gx_runV (k := 11) (rest := []) C g mb_X12_isMill ml_X12_319 rfl sh_11 (mX12_isMill x1 _ _ h) ⟨Nat.le_of_ble_eq_true rfl, Nat.le_of_ble_eq_true rfl⟩ ⟨Nat.le_refl _, Nat.le_refl _⟩ rfl hl.1 rfl (Nat.le_of_ble_eq_true rfl) dX12_plan_2) rfl rfl (fun r1 σ2 H locs h g => ?_)
  refine lv_if_eq (tgt := 42) C.1 C.2.1 dX12_plan_5 (by decide) (fun c3 => ?_) (fun c3 => ?_)
  · have h := h.1 c3
    refine lv_bipush (v := -2) C.1 C.2.1 dX12_plan_42 (by decide) ?_
    exact gx_iret C hr g dX12_plan_44 h
  · have h := h.2 c3
    refine lv_iload_n C.1 C.2.1 dX12_plan_8 rfl (lv_at hl 2 rfl) ?_
    refine lv_iconst (v := 1) C.1 C.2.1 dX12_plan_9 (by decide) ?_
    refine lv_icmp_lt (tgt := 42) C.1 C.2.1 dX12_plan_10 (by decide) (fun c4 => ?_) (fun c4 => ?_)
    · have h := h.1 c4
      refine lv_bipush (v := -2) C.1 C.2.1 dX12_plan_42 (by decide) ?_
      exact gx_iret C hr g dX12_plan_44 h
    · have h := h.2 c4
      refine lv_iload_n C.1 C.2.1 dX12_plan_13 rfl (lv_at hl 2 rfl) ?_
      refine lv_bipush (v := 6) C.1 C.2.1 dX12_plan_14 (by decide) ?_
      refine lv_icmp_gt (tgt := 42) C.1 C.2.1 dX12_plan_16 (by decide) (fun c5 => ?_) (fun c5 => ?_)
      · have h := h.1 c5
        refine lv_bipush (v := -2) C.1 C.2.1 dX12_plan_42 (by decide) ?_
        exact gx_iret C hr g dX12_plan_44 h
      · have h := h.2 c5
        refine lv_aload_n C.1 C.2.1 dX12_plan_19 rfl (lv_at hl 0 rfl) ?_
        refine gx_getI C g fl_X12_310 dX12_plan_20 sh_11 rfl ?_
        refine lv_iload_n C.1 C.2.1 dX12_plan_23 rfl (lv_at hl 2 rfl) ?_
        refine lv_iadd C.1 C.2.1 dX12_plan_24 ?_
        refine lv_sipush (v := 240) C.1 C.2.1 dX12_plan_25 (by decide) ?_
        refine lv_icmp_gt (tgt := 42) C.1 C.2.1 dX12_plan_28 (by decide) (fun c6 => ?_) (fun c6 => ?_)
        · have h := h.1 c6
          refine lv_bipush (v := -2) C.1 C.2.1 dX12_plan_42 (by decide) ?_
          exact gx_iret C hr g dX12_plan_44 h
        · have h := h.2 c6
          refine lv_iload_n C.1 C.2.1 dX12_plan_31 rfl (lv_at hl 3 rfl) ?_
          refine lv_if_lt (tgt := 42) C.1 C.2.1 dX12_plan_32 (by decide) (fun c7 => ?_) (fun c7 => ?_)
          · have h := h.1 c7
            refine lv_bipush (v := -2) C.1 C.2.1 dX12_plan_42 (by decide) ?_
            exact gx_iret C hr g dX12_plan_44 h
          · have h := h.2 c7
            refine lv_iload_n C.1 C.2.1 dX12_plan_35 rfl (lv_at hl 3 rfl) ?_
            refine lv_sipush (v := 10000) C.1 C.2.1 dX12_plan_36 (by decide) ?_
            refine lv_icmp_le (tgt := 45) C.1 C.2.1 dX12_plan_39 (by decide) (fun c8 => ?_) (fun c8 => ?_)
            · have h := h.1 c8
              refine lv_aload_n C.1 C.2.1 dX12_plan_45 rfl (lv_at hl 0 rfl) ?_
              refine lv_aload_n C.1 C.2.1 dX12_plan_46 rfl (lv_at hl 0 rfl) ?_
              refine gx_getI C g fl_X12_316 dX12_plan_47 sh_11 rfl ?_
              refine lv_iconst (v := -1) C.1 C.2.1 dX12_plan_50 (by decide) ?_
              refine gx_callv0 g (gx_runV (k := 11) (rest := []) C g mb_X12_works ml_X12_361 rfl sh_11 (mX12_works (gv σ2 11 52) (-1 : Int32) _ _ h) ⟨Nat.le_of_ble_eq_true rfl, Nat.le_of_ble_eq_true rfl⟩ ⟨Nat.le_refl _, Nat.le_refl _⟩ rfl hl.1 rfl (Nat.le_of_ble_eq_true rfl) dX12_plan_51) rfl rfl (fun σ10 H locs h g => ?_)
              refine lv_aload_n C.1 C.2.1 dX12_plan_54 rfl (lv_at hl 0 rfl) ?_
              refine gx_callv0 g (gx_runV (k := 11) (rest := []) C g mb_X12_changes ml_X12_278 rfl sh_11 (mX12_changes _ _ h) ⟨Nat.le_of_ble_eq_true rfl, Nat.le_of_ble_eq_true rfl⟩ ⟨Nat.le_refl _, Nat.le_refl _⟩ rfl hl.1 rfl (Nat.le_of_ble_eq_true rfl) dX12_plan_55) rfl rfl (fun σ12 H locs h g => ?_)
              refine lv_iconst (v := -1) C.1 C.2.1 dX12_plan_58 (by decide) ?_
              refine lv_istore (lv' := [(4, .int (-1 : Int32)), (0, .ref (ga E 11)), (1, .int x1), (2, .int x2), (3, .int x3)]) C.1 C.2.1 dX12_plan_59 hl (by decide) rfl (fun ls hl => ?_)
              refine lv_iconst (v := 0) C.1 C.2.1 dX12_plan_61 (by decide) ?_
              refine lv_istore (lv' := [(5, .int (0 : Int32)), (4, .int (-1 : Int32)), (0, .ref (ga E 11)), (1, .int x1), (2, .int x2), (3, .int x3)]) C.1 C.2.1 dX12_plan_62 hl (by decide) rfl (fun ls hl => ?_)
              refine lv_aload_n C.1 C.2.1 dX12_plan_64 rfl (lv_at hl 2 rfl) ?_
              refine gx_getR C g fl_X12_164 dX12_plan_65 sh_11 rfl (by decide) ?_
              refine lv_iconst (v := 0) C.1 C.2.1 dX12_plan_68 (by decide) ?_
              refine lv_iconst (v := -1) C.1 C.2.1 dX12_plan_69 (by decide) ?_
              obtain ⟨i13, h⟩ := h
              refine gx_iast C g dX12_plan_70 sh_94 i13 (fun H locs σ14 eσ14 g => ?_)
              have h := h σ14 eσ14
              obtain ⟨j, h⟩ := h
              exact tX12_plan_71 C hr j x1 x2 x3 (-1 : Int32) (0 : Int32) _ _ _ _ (lv_sub hl [2, 3, 4, 5, 1, 0] rfl) g h
            · have h := h.2 c8
              refine lv_bipush (v := -2) C.1 C.2.1 dX12_plan_42 (by decide) ?_
              exact gx_iret C hr g dX12_plan_44 h
theorem mX12_plan {l : Launch} {E : EE} {base : Nat} (x1 : Int32) (x2 : Int32) (x3 : Int32) (σ : St) (Q : Int32 → St → Prop) (h : wX12_plan x1 x2 x3 σ Q) : Met l yX12_plan (wy yX12_plan cX12_plan 9 (some .int)) rmX12_plan (va_Pc [.ref (ga E 11), .int x1, .int x2, .int x3] (fun U => SW E base σ U)) (QI E base Q) (rmX12_plan).cells (rmX12_plan).slots (fun q => base ≤ q) :=
  met_of (by decide) (Nat.le_of_ble_eq_true rfl) (fun p e s m args below meth c C hr g ls hl => tX12_plan_0 C hr x1 x2 x3 _ _ _ _ hl g h)
set_option maxHeartbeats 4000000 in
set_option maxRecDepth 100000 in
theorem tX12_planned_12 {p : Program} {l : Launch} {e : Env} {s : State} {m : MethodId} {args : Array Value} {below : List Frame} {meth : Method} {c : Code} {E : EE} {base : Nat} (C : Cx p E base s m args meth c cX12_planned 2 RX12) (hr : meth.sig.returnType = (some .int)) {Q : Int32 → St → Prop} : ∀ (σ : St) (H : Heap) (locs : List Loc) (ls : Array Slot), lv_has ls 2 [] → GW E base s σ H locs → wX12_planned_12 Q σ → W p l e rmX12_planned s m args below meth c H locs 0 0 (MQ below (QI E base Q) args s 0 0 (fun q => base ≤ q)) (F0 m 12 ls []) := by
  intro σ H locs ls hl g h
  refine lv_iconst (v := -1) C.1 C.2.1 dX12_planned_12 (by decide) ?_
  refine lv_goto (tgt := 22) C.1 C.2.1 dX12_planned_13 (by decide) ?_
  exact gx_iret C hr g dX12_planned_22 h
set_option maxHeartbeats 4000000 in
set_option maxRecDepth 100000 in
theorem tX12_planned_0 {p : Program} {l : Launch} {e : Env} {s : State} {m : MethodId} {args : Array Value} {below : List Frame} {meth : Method} {c : Code} {E : EE} {base : Nat} (C : Cx p E base s m args meth c cX12_planned 2 RX12) (hr : meth.sig.returnType = (some .int)) {Q : Int32 → St → Prop} : ∀ (x1 : Int32) (σ : St) (H : Heap) (locs : List Loc) (ls : Array Slot), lv_has ls 2 [(0, .ref (ga E 11)), (1, .int x1)] → GW E base s σ H locs → wX12_planned x1 σ Q → W p l e rmX12_planned s m args below meth c H locs 0 0 (MQ below (QI E base Q) args s 0 0 (fun q => base ≤ q)) (F0 m 0 ls []) := by
  intro x1 σ H locs ls hl g h
  refine lv_iload_n C.1 C.2.1 dX12_planned_0 rfl (lv_at hl 1 rfl) ?_
  refine lv_if_lt (tgt := 12) C.1 C.2.1 dX12_planned_1 (by decide) (fun c1 => ?_) (fun c1 => ?_)
  · have h := h.1 c1
    exact tX12_planned_12 C hr _ _ _ _ (lv_sub hl [] rfl) g h
  · have h := h.2 c1
    refine lv_iload_n C.1 C.2.1 dX12_planned_4 rfl (lv_at hl 1 rfl) ?_
    refine lv_aload_n C.1 C.2.1 dX12_planned_5 rfl (lv_at hl 0 rfl) ?_
    refine gx_getI C g fl_X12_377 dX12_planned_6 sh_11 rfl ?_
    refine lv_icmp_lt (tgt := 16) C.1 C.2.1 dX12_planned_9 (by decide) (fun c2 => ?_) (fun c2 => ?_)
    · have h := h.1 c2
      refine lv_aload_n C.1 C.2.1 dX12_planned_16 rfl (lv_at hl 0 rfl) ?_
      refine gx_getR C g fl_X12_167 dX12_planned_17 sh_11 rfl (by decide) ?_
      refine lv_iload_n C.1 C.2.1 dX12_planned_20 rfl (lv_at hl 1 rfl) ?_
      obtain ⟨i3, h⟩ := h
      refine gx_iald C g dX12_planned_21 sh_95 i3 ?_
      exact gx_iret C hr g dX12_planned_22 h
    · have h := h.2 c2
      exact tX12_planned_12 C hr _ _ _ _ (lv_sub hl [] rfl) g h
theorem mX12_planned {l : Launch} {E : EE} {base : Nat} (x1 : Int32) (σ : St) (Q : Int32 → St → Prop) (h : wX12_planned x1 σ Q) : Met l yX12_planned (wy yX12_planned cX12_planned 2 (some .int)) rmX12_planned (va_Pc [.ref (ga E 11), .int x1] (fun U => SW E base σ U)) (QI E base Q) (rmX12_planned).cells (rmX12_planned).slots (fun q => base ≤ q) :=
  met_of (by decide) (Nat.le_of_ble_eq_true rfl) (fun p e s m args below meth c C hr g ls hl => tX12_planned_0 C hr x1 _ _ _ _ hl g h)
set_option maxHeartbeats 4000000 in
set_option maxRecDepth 100000 in
theorem tX12_grinds_224 {p : Program} {l : Launch} {e : Env} {s : State} {m : MethodId} {args : Array Value} {below : List Frame} {meth : Method} {c : Code} {E : EE} {base : Nat} (C : Cx p E base s m args meth c cX12_grinds 8 RX12) (hr : meth.sig.returnType = none) {Q : St → Prop} {K38 : Int32 → Int32 → St → Prop} (hK38 : ∀ (x2 : Int32) (x3 : Int32) (σ : St) (H : Heap) (locs : List Loc) (ls : Array Slot), lv_has ls 8 [(0, .ref (ga E 11)), (2, .int x2), (3, .int x3)] → GW E base s σ H locs → K38 x2 x3 σ → W p l e rmX12_grinds s m args below meth c H locs 0 0 (MQ below (QV E base Q) args s 0 0 (fun q => base ≤ q)) (F0 m 38 ls [])) {K46 : Int32 → Int32 → Int32 → St → Prop} (hK46 : ∀ (x2 : Int32) (x3 : Int32) (x4 : Int32) (σ : St) (H : Heap) (locs : List Loc) (ls : Array Slot), lv_has ls 8 [(0, .ref (ga E 11)), (2, .int x2), (3, .int x3), (4, .int x4)] → GW E base s σ H locs → K46 x2 x3 x4 σ → W p l e rmX12_grinds s m args below meth c H locs 0 0 (MQ below (QV E base Q) args s 0 0 (fun q => base ≤ q)) (F0 m 46 ls [])) : ∀ (x2 : Int32) (x3 : Int32) (x4 : Int32) (σ : St) (H : Heap) (locs : List Loc) (ls : Array Slot), lv_has ls 8 [(0, .ref (ga E 11)), (2, .int x2), (3, .int x3), (4, .int x4)] → GW E base s σ H locs → wX12_grinds_224 Q K38 K46 x2 x3 x4 σ → W p l e rmX12_grinds s m args below meth c H locs 0 0 (MQ below (QV E base Q) args s 0 0 (fun q => base ≤ q)) (F0 m 224 ls []) := by
  intro x2 x3 x4 σ H locs ls hl g h
  obtain ⟨x4_1, ex4_1⟩ : ∃ y : Int32, y = x4 + 1 := ⟨_, rfl⟩
  have h := h x4_1 ex4_1
  refine lv_iinc (v := x4_1) (lv' := [(4, .int x4_1), (0, .ref (ga E 11)), (2, .int x2), (3, .int x3)]) C.1 C.2.1 dX12_grinds_224 hl (k := 3) rfl (by rw [ex4_1]; rfl) (by decide) rfl (fun ls hl => ?_)
  refine lv_goto (tgt := 46) C.1 C.2.1 dX12_grinds_227 (by decide) ?_
  exact hK46 x2 x3 x4_1 _ _ _ _ (lv_sub hl [1, 2, 3, 0] rfl) g h
set_option maxHeartbeats 4000000 in
set_option maxRecDepth 100000 in
theorem tX12_grinds_218 {p : Program} {l : Launch} {e : Env} {s : State} {m : MethodId} {args : Array Value} {below : List Frame} {meth : Method} {c : Code} {E : EE} {base : Nat} (C : Cx p E base s m args meth c cX12_grinds 8 RX12) (hr : meth.sig.returnType = none) {Q : St → Prop} {K38 : Int32 → Int32 → St → Prop} (hK38 : ∀ (x2 : Int32) (x3 : Int32) (σ : St) (H : Heap) (locs : List Loc) (ls : Array Slot), lv_has ls 8 [(0, .ref (ga E 11)), (2, .int x2), (3, .int x3)] → GW E base s σ H locs → K38 x2 x3 σ → W p l e rmX12_grinds s m args below meth c H locs 0 0 (MQ below (QV E base Q) args s 0 0 (fun q => base ≤ q)) (F0 m 38 ls [])) {K46 : Int32 → Int32 → Int32 → St → Prop} (hK46 : ∀ (x2 : Int32) (x3 : Int32) (x4 : Int32) (σ : St) (H : Heap) (locs : List Loc) (ls : Array Slot), lv_has ls 8 [(0, .ref (ga E 11)), (2, .int x2), (3, .int x3), (4, .int x4)] → GW E base s σ H locs → K46 x2 x3 x4 σ → W p l e rmX12_grinds s m args below meth c H locs 0 0 (MQ below (QV E base Q) args s 0 0 (fun q => base ≤ q)) (F0 m 46 ls [])) {K78 : Int32 → Int32 → Int32 → Int32 → Int32 → St → Prop} (hK78 : ∀ (x2 : Int32) (x3 : Int32) (x4 : Int32) (x5 : Int32) (x6 : Int32) (σ : St) (H : Heap) (locs : List Loc) (ls : Array Slot), lv_has ls 8 [(0, .ref (ga E 11)), (2, .int x2), (3, .int x3), (4, .int x4), (5, .int x5), (6, .int x6)] → GW E base s σ H locs → K78 x2 x3 x4 x5 x6 σ → W p l e rmX12_grinds s m args below meth c H locs 0 0 (MQ below (QV E base Q) args s 0 0 (fun q => base ≤ q)) (F0 m 78 ls [])) : ∀ (x2 : Int32) (x3 : Int32) (x4 : Int32) (x5 : Int32) (x6 : Int32) (σ : St) (H : Heap) (locs : List Loc) (ls : Array Slot), lv_has ls 8 [(0, .ref (ga E 11)), (2, .int x2), (3, .int x3), (4, .int x4), (5, .int x5), (6, .int x6)] → GW E base s σ H locs → wX12_grinds_218 Q K38 K46 K78 x2 x3 x4 x5 x6 σ → W p l e rmX12_grinds s m args below meth c H locs 0 0 (MQ below (QV E base Q) args s 0 0 (fun q => base ≤ q)) (F0 m 218 ls []) := by
  intro x2 x3 x4 x5 x6 σ H locs ls hl g h
  obtain ⟨x6_1, ex6_1⟩ : ∃ y : Int32, y = x6 + 1 := ⟨_, rfl⟩
  have h := h x6_1 ex6_1
  refine lv_iinc (v := x6_1) (lv' := [(6, .int x6_1), (0, .ref (ga E 11)), (2, .int x2), (3, .int x3), (4, .int x4), (5, .int x5)]) C.1 C.2.1 dX12_grinds_218 hl (k := 5) rfl (by rw [ex6_1]; rfl) (by decide) rfl (fun ls hl => ?_)
  refine lv_goto (tgt := 78) C.1 C.2.1 dX12_grinds_221 (by decide) ?_
  exact hK78 x2 x3 x4 x5 x6_1 _ _ _ _ (lv_sub hl [1, 2, 3, 4, 5, 0] rfl) g h
set_option maxHeartbeats 4000000 in
set_option maxRecDepth 100000 in
theorem tX12_grinds_172 {p : Program} {l : Launch} {e : Env} {s : State} {m : MethodId} {args : Array Value} {below : List Frame} {meth : Method} {c : Code} {E : EE} {base : Nat} (C : Cx p E base s m args meth c cX12_grinds 8 RX12) (hr : meth.sig.returnType = none) {Q : St → Prop} {K38 : Int32 → Int32 → St → Prop} (hK38 : ∀ (x2 : Int32) (x3 : Int32) (σ : St) (H : Heap) (locs : List Loc) (ls : Array Slot), lv_has ls 8 [(0, .ref (ga E 11)), (2, .int x2), (3, .int x3)] → GW E base s σ H locs → K38 x2 x3 σ → W p l e rmX12_grinds s m args below meth c H locs 0 0 (MQ below (QV E base Q) args s 0 0 (fun q => base ≤ q)) (F0 m 38 ls [])) {K46 : Int32 → Int32 → Int32 → St → Prop} (hK46 : ∀ (x2 : Int32) (x3 : Int32) (x4 : Int32) (σ : St) (H : Heap) (locs : List Loc) (ls : Array Slot), lv_has ls 8 [(0, .ref (ga E 11)), (2, .int x2), (3, .int x3), (4, .int x4)] → GW E base s σ H locs → K46 x2 x3 x4 σ → W p l e rmX12_grinds s m args below meth c H locs 0 0 (MQ below (QV E base Q) args s 0 0 (fun q => base ≤ q)) (F0 m 46 ls [])) {K78 : Int32 → Int32 → Int32 → Int32 → Int32 → St → Prop} (hK78 : ∀ (x2 : Int32) (x3 : Int32) (x4 : Int32) (x5 : Int32) (x6 : Int32) (σ : St) (H : Heap) (locs : List Loc) (ls : Array Slot), lv_has ls 8 [(0, .ref (ga E 11)), (2, .int x2), (3, .int x3), (4, .int x4), (5, .int x5), (6, .int x6)] → GW E base s σ H locs → K78 x2 x3 x4 x5 x6 σ → W p l e rmX12_grinds s m args below meth c H locs 0 0 (MQ below (QV E base Q) args s 0 0 (fun q => base ≤ q)) (F0 m 78 ls [])) : ∀ (x2 : Int32) (x3 : Int32) (x4 : Int32) (x5 : Int32) (x6 : Int32) (xt0 : Int32) (σ : St) (H : Heap) (locs : List Loc) (ls : Array Slot), lv_has ls 8 [(0, .ref (ga E 11)), (2, .int x2), (3, .int x3), (4, .int x4), (5, .int x5), (6, .int x6)] → GW E base s σ H locs → wX12_grinds_172 Q K38 K46 K78 x2 x3 x4 x5 x6 xt0 σ → W p l e rmX12_grinds s m args below meth c H locs 0 0 (MQ below (QV E base Q) args s 0 0 (fun q => base ≤ q)) (F0 m 172 ls [.int xt0]) := by
  intro x2 x3 x4 x5 x6 xt0 σ H locs ls hl g h
  refine lv_istore (lv' := [(7, .int xt0), (0, .ref (ga E 11)), (2, .int x2), (3, .int x3), (4, .int x4), (5, .int x5), (6, .int x6)]) C.1 C.2.1 dX12_grinds_172 hl (by decide) rfl (fun ls hl => ?_)
  refine lv_aload_n C.1 C.2.1 dX12_grinds_174 rfl (lv_at hl 1 rfl) ?_
  refine gx_getR C g fl_X12_176 dX12_grinds_175 sh_11 rfl (by decide) ?_
  refine lv_iload C.1 C.2.1 dX12_grinds_178 (lv_at hl 6 rfl) ?_
  refine lv_dup2_11 C.1 C.2.1 dX12_grinds_180 rfl rfl ?_
  obtain ⟨i1, h⟩ := h
  refine gx_iald C g dX12_grinds_181 sh_98 i1 ?_
  refine lv_iload C.1 C.2.1 dX12_grinds_182 (lv_at hl 0 rfl) ?_
  refine lv_iadd C.1 C.2.1 dX12_grinds_184 ?_
  obtain ⟨i2, h⟩ := h
  refine gx_iast C g dX12_grinds_185 sh_98 i2 (fun H locs σ3 eσ3 g => ?_)
  have h := h σ3 eσ3
  refine lv_iload C.1 C.2.1 dX12_grinds_186 (lv_at hl 5 rfl) ?_
  refine lv_iload C.1 C.2.1 dX12_grinds_188 (lv_at hl 0 rfl) ?_
  refine lv_isub C.1 C.2.1 dX12_grinds_190 ?_
  refine lv_topi (fun x5_4 ex5_4 => ?_)
  have h := h x5_4 ex5_4
  refine lv_istore (lv' := [(5, .int x5_4), (7, .int xt0), (0, .ref (ga E 11)), (2, .int x2), (3, .int x3), (4, .int x4), (6, .int x6)]) C.1 C.2.1 dX12_grinds_191 hl (by decide) rfl (fun ls hl => ?_)
  refine lv_aload_n C.1 C.2.1 dX12_grinds_193 rfl (lv_at hl 2 rfl) ?_
  refine gx_getR C g fl_X12_176 dX12_grinds_194 sh_11 rfl (by decide) ?_
  refine lv_iload C.1 C.2.1 dX12_grinds_197 (lv_at hl 6 rfl) ?_
  obtain ⟨i5, h⟩ := h
  refine gx_iald C g dX12_grinds_199 sh_98 i5 ?_
  refine lv_aload_n C.1 C.2.1 dX12_grinds_200 rfl (lv_at hl 2 rfl) ?_
  refine gx_getR C g fl_X12_134 dX12_grinds_201 sh_11 rfl (by decide) ?_
  refine lv_iload C.1 C.2.1 dX12_grinds_204 (lv_at hl 6 rfl) ?_
  obtain ⟨i6, h⟩ := h
  refine gx_iald C g dX12_grinds_206 sh_86 i6 ?_
  refine lv_icmp_ne (tgt := 218) C.1 C.2.1 dX12_grinds_207 (by decide) (fun c7 => ?_) (fun c7 => ?_)
  · have h := h.2 c7
    exact tX12_grinds_218 C hr hK38 hK46 hK78 x2 x3 x4 x5_4 x6 _ _ _ _ (lv_sub hl [2, 3, 4, 5, 0, 6] rfl) g h
  · have h := h.1 c7
    refine lv_aload_n C.1 C.2.1 dX12_grinds_210 rfl (lv_at hl 2 rfl) ?_
    refine gx_getR C g fl_X12_179 dX12_grinds_211 sh_11 rfl (by decide) ?_
    refine lv_iload C.1 C.2.1 dX12_grinds_214 (lv_at hl 6 rfl) ?_
    refine lv_iload_n C.1 C.2.1 dX12_grinds_216 rfl (lv_at hl 4 rfl) ?_
    obtain ⟨i8, h⟩ := h
    refine gx_iast C g dX12_grinds_217 sh_99 i8 (fun H locs σ9 eσ9 g => ?_)
    have h := h σ9 eσ9
    exact tX12_grinds_218 C hr hK38 hK46 hK78 x2 x3 x4 x5_4 x6 _ _ _ _ (lv_sub hl [2, 3, 4, 5, 0, 6] rfl) g h
set_option maxHeartbeats 4000000 in
set_option maxRecDepth 100000 in
theorem tX12_grinds_78 {p : Program} {l : Launch} {e : Env} {s : State} {m : MethodId} {args : Array Value} {below : List Frame} {meth : Method} {c : Code} {E : EE} {base : Nat} (C : Cx p E base s m args meth c cX12_grinds 8 RX12) (hr : meth.sig.returnType = none) {Q : St → Prop} {K38 : Int32 → Int32 → St → Prop} (hK38 : ∀ (x2 : Int32) (x3 : Int32) (σ : St) (H : Heap) (locs : List Loc) (ls : Array Slot), lv_has ls 8 [(0, .ref (ga E 11)), (2, .int x2), (3, .int x3)] → GW E base s σ H locs → K38 x2 x3 σ → W p l e rmX12_grinds s m args below meth c H locs 0 0 (MQ below (QV E base Q) args s 0 0 (fun q => base ≤ q)) (F0 m 38 ls [])) {K46 : Int32 → Int32 → Int32 → St → Prop} (hK46 : ∀ (x2 : Int32) (x3 : Int32) (x4 : Int32) (σ : St) (H : Heap) (locs : List Loc) (ls : Array Slot), lv_has ls 8 [(0, .ref (ga E 11)), (2, .int x2), (3, .int x3), (4, .int x4)] → GW E base s σ H locs → K46 x2 x3 x4 σ → W p l e rmX12_grinds s m args below meth c H locs 0 0 (MQ below (QV E base Q) args s 0 0 (fun q => base ≤ q)) (F0 m 46 ls [])) : ∀ (n : Nat) (x2 : Int32) (x3 : Int32) (x4 : Int32) (x5 : Int32) (x6 : Int32) (σ : St) (H : Heap) (locs : List Loc) (ls : Array Slot), lv_has ls 8 [(0, .ref (ga E 11)), (2, .int x2), (3, .int x3), (4, .int x4), (5, .int x5), (6, .int x6)] → GW E base s σ H locs → wX12_grinds_78 Q K38 K46 n x2 x3 x4 x5 x6 σ → W p l e rmX12_grinds s m args below meth c H locs 0 0 (MQ below (QV E base Q) args s 0 0 (fun q => base ≤ q)) (F0 m 78 ls []) := by
  intro n
  induction n with
  | zero => intro _ _ _ _ _; intros; exact False.elim (by assumption)
  | succ n ih =>
    intro x2 x3 x4 x5 x6 σ H locs ls hl g h
    refine lv_iload C.1 C.2.1 dX12_grinds_78 (lv_at hl 5 rfl) ?_
    refine lv_aload_n C.1 C.2.1 dX12_grinds_80 rfl (lv_at hl 0 rfl) ?_
    refine gx_getI C g fl_X12_325 dX12_grinds_81 sh_11 rfl ?_
    refine lv_icmp_ge (tgt := 224) C.1 C.2.1 dX12_grinds_84 (by decide) (fun c1 => ?_) (fun c1 => ?_)
    · have h := h.1 c1
      exact tX12_grinds_224 C hr hK38 hK46 x2 x3 x4 _ _ _ _ (lv_sub hl [0, 1, 2, 3] rfl) g h
    · have h := h.2 c1
      refine lv_iload C.1 C.2.1 dX12_grinds_87 (lv_at hl 4 rfl) ?_
      refine lv_if_le (tgt := 224) C.1 C.2.1 dX12_grinds_89 (by decide) (fun c2 => ?_) (fun c2 => ?_)
      · have h := h.1 c2
        exact tX12_grinds_224 C hr hK38 hK46 x2 x3 x4 _ _ _ _ (lv_sub hl [0, 1, 2, 3] rfl) g h
      · have h := h.2 c2
        refine lv_aload_n C.1 C.2.1 dX12_grinds_92 rfl (lv_at hl 0 rfl) ?_
        refine gx_getR C g fl_X12_131 dX12_grinds_93 sh_11 rfl (by decide) ?_
        refine lv_iload C.1 C.2.1 dX12_grinds_96 (lv_at hl 5 rfl) ?_
        obtain ⟨i3, h⟩ := h
        refine gx_iald C g dX12_grinds_98 sh_85 i3 ?_
        refine lv_iload C.1 C.2.1 dX12_grinds_99 (lv_at hl 3 rfl) ?_
        refine lv_icmp_ne (tgt := 218) C.1 C.2.1 dX12_grinds_101 (by decide) (fun c4 => ?_) (fun c4 => ?_)
        · have h := h.2 c4
          exact tX12_grinds_218 C hr hK38 hK46 ih x2 x3 x4 x5 x6 _ _ _ _ (lv_sub hl [0, 1, 2, 3, 4, 5] rfl) g h
        · have h := h.1 c4
          refine lv_aload_n C.1 C.2.1 dX12_grinds_104 rfl (lv_at hl 0 rfl) ?_
          refine gx_getR C g fl_X12_179 dX12_grinds_105 sh_11 rfl (by decide) ?_
          refine lv_iload C.1 C.2.1 dX12_grinds_108 (lv_at hl 5 rfl) ?_
          obtain ⟨i5, h⟩ := h
          refine gx_iald C g dX12_grinds_110 sh_99 i5 ?_
          refine lv_iconst (v := -1) C.1 C.2.1 dX12_grinds_111 (by decide) ?_
          refine lv_icmp_eq (tgt := 118) C.1 C.2.1 dX12_grinds_112 (by decide) (fun c6 => ?_) (fun c6 => ?_)
          · have h := h.1 c6
            refine lv_aload_n C.1 C.2.1 dX12_grinds_118 rfl (lv_at hl 0 rfl) ?_
            refine gx_getR C g fl_X12_137 dX12_grinds_119 sh_11 rfl (by decide) ?_
            refine lv_iload C.1 C.2.1 dX12_grinds_122 (lv_at hl 5 rfl) ?_
            obtain ⟨i7, h⟩ := h
            refine gx_iald C g dX12_grinds_124 sh_87 i7 ?_
            refine lv_iload_n C.1 C.2.1 dX12_grinds_125 rfl (lv_at hl 2 rfl) ?_
            refine lv_icmp_le (tgt := 132) C.1 C.2.1 dX12_grinds_126 (by decide) (fun c8 => ?_) (fun c8 => ?_)
            · have h := h.1 c8
              refine lv_aload_n C.1 C.2.1 dX12_grinds_132 rfl (lv_at hl 0 rfl) ?_
              refine gx_getR C g fl_X12_134 dX12_grinds_133 sh_11 rfl (by decide) ?_
              refine lv_iload C.1 C.2.1 dX12_grinds_136 (lv_at hl 5 rfl) ?_
              obtain ⟨i9, h⟩ := h
              refine gx_iald C g dX12_grinds_138 sh_86 i9 ?_
              refine lv_aload_n C.1 C.2.1 dX12_grinds_139 rfl (lv_at hl 0 rfl) ?_
              refine gx_getR C g fl_X12_176 dX12_grinds_140 sh_11 rfl (by decide) ?_
              refine lv_iload C.1 C.2.1 dX12_grinds_143 (lv_at hl 5 rfl) ?_
              obtain ⟨i10, h⟩ := h
              refine gx_iald C g dX12_grinds_145 sh_98 i10 ?_
              refine lv_isub C.1 C.2.1 dX12_grinds_146 ?_
              refine lv_iload C.1 C.2.1 dX12_grinds_147 (lv_at hl 4 rfl) ?_
              refine lv_icmp_ge (tgt := 170) C.1 C.2.1 dX12_grinds_149 (by decide) (fun c11 => ?_) (fun c11 => ?_)
              · have h := h.1 c11
                refine lv_iload C.1 C.2.1 dX12_grinds_170 (lv_at hl 4 rfl) ?_
                exact tX12_grinds_172 C hr hK38 hK46 ih x2 x3 x4 x5 x6 x5 _ _ _ _ (lv_sub hl [0, 1, 2, 3, 4, 5] rfl) g h
              · have h := h.2 c11
                refine lv_aload_n C.1 C.2.1 dX12_grinds_152 rfl (lv_at hl 0 rfl) ?_
                refine gx_getR C g fl_X12_134 dX12_grinds_153 sh_11 rfl (by decide) ?_
                refine lv_iload C.1 C.2.1 dX12_grinds_156 (lv_at hl 5 rfl) ?_
                obtain ⟨i12, h⟩ := h
                refine gx_iald C g dX12_grinds_158 sh_86 i12 ?_
                refine lv_aload_n C.1 C.2.1 dX12_grinds_159 rfl (lv_at hl 0 rfl) ?_
                refine gx_getR C g fl_X12_176 dX12_grinds_160 sh_11 rfl (by decide) ?_
                refine lv_iload C.1 C.2.1 dX12_grinds_163 (lv_at hl 5 rfl) ?_
                obtain ⟨i13, h⟩ := h
                refine gx_iald C g dX12_grinds_165 sh_98 i13 ?_
                refine lv_isub C.1 C.2.1 dX12_grinds_166 ?_
                refine lv_goto (tgt := 172) C.1 C.2.1 dX12_grinds_167 (by decide) ?_
                exact tX12_grinds_172 C hr hK38 hK46 ih x2 x3 x4 x5 x6 ((gv σ 86 x6.toNatClampNeg) - (gv σ 98 x6.toNatClampNeg)) _ _ _ _ (lv_sub hl [0, 1, 2, 3, 4, 5] rfl) g h
            · have h := h.2 c8
              refine lv_goto (tgt := 224) C.1 C.2.1 dX12_grinds_129 (by decide) ?_
              exact tX12_grinds_224 C hr hK38 hK46 x2 x3 x4 _ _ _ _ (lv_sub hl [0, 1, 2, 3] rfl) g h
          · have h := h.2 c6
            refine lv_goto (tgt := 218) C.1 C.2.1 dX12_grinds_115 (by decide) ?_
            exact tX12_grinds_218 C hr hK38 hK46 ih x2 x3 x4 x5 x6 _ _ _ _ (lv_sub hl [0, 1, 2, 3, 4, 5] rfl) g h
set_option maxHeartbeats 4000000 in
set_option maxRecDepth 100000 in
theorem tX12_grinds_46 {p : Program} {l : Launch} {e : Env} {s : State} {m : MethodId} {args : Array Value} {below : List Frame} {meth : Method} {c : Code} {E : EE} {base : Nat} (C : Cx p E base s m args meth c cX12_grinds 8 RX12) (hr : meth.sig.returnType = none) {Q : St → Prop} {K38 : Int32 → Int32 → St → Prop} (hK38 : ∀ (x2 : Int32) (x3 : Int32) (σ : St) (H : Heap) (locs : List Loc) (ls : Array Slot), lv_has ls 8 [(0, .ref (ga E 11)), (2, .int x2), (3, .int x3)] → GW E base s σ H locs → K38 x2 x3 σ → W p l e rmX12_grinds s m args below meth c H locs 0 0 (MQ below (QV E base Q) args s 0 0 (fun q => base ≤ q)) (F0 m 38 ls [])) : ∀ (n : Nat) (x2 : Int32) (x3 : Int32) (x4 : Int32) (σ : St) (H : Heap) (locs : List Loc) (ls : Array Slot), lv_has ls 8 [(0, .ref (ga E 11)), (2, .int x2), (3, .int x3), (4, .int x4)] → GW E base s σ H locs → wX12_grinds_46 Q K38 n x2 x3 x4 σ → W p l e rmX12_grinds s m args below meth c H locs 0 0 (MQ below (QV E base Q) args s 0 0 (fun q => base ≤ q)) (F0 m 46 ls []) := by
  intro n
  induction n with
  | zero => intro _ _ _; intros; exact False.elim (by assumption)
  | succ n ih =>
    intro x2 x3 x4 σ H locs ls hl g h
    refine lv_iload C.1 C.2.1 dX12_grinds_46 (lv_at hl 3 rfl) ?_
    refine lv_aload_n C.1 C.2.1 dX12_grinds_48 rfl (lv_at hl 0 rfl) ?_
    refine gx_getI C g fl_X12_307 dX12_grinds_49 sh_11 rfl ?_
    refine lv_icmp_ge (tgt := 230) C.1 C.2.1 dX12_grinds_52 (by decide) (fun c1 => ?_) (fun c1 => ?_)
    · have h := h.1 c1
      obtain ⟨x3_2, ex3_2⟩ : ∃ y : Int32, y = x3 + 1 := ⟨_, rfl⟩
      have h := h x3_2 ex3_2
      refine lv_iinc (v := x3_2) (lv' := [(3, .int x3_2), (0, .ref (ga E 11)), (2, .int x2), (4, .int x4)]) C.1 C.2.1 dX12_grinds_230 hl (k := 2) rfl (by rw [ex3_2]; rfl) (by decide) rfl (fun ls hl => ?_)
      refine lv_goto (tgt := 38) C.1 C.2.1 dX12_grinds_233 (by decide) ?_
      exact hK38 x2 x3_2 _ _ _ _ (lv_sub hl [1, 2, 0] rfl) g h
    · have h := h.2 c1
      refine lv_aload_n C.1 C.2.1 dX12_grinds_55 rfl (lv_at hl 0 rfl) ?_
      refine gx_getR C g fl_X12_140 dX12_grinds_56 sh_11 rfl (by decide) ?_
      refine lv_bipush (v := 10) C.1 C.2.1 dX12_grinds_59 (by decide) ?_
      refine lv_bipush (v := 7) C.1 C.2.1 dX12_grinds_61 (by decide) ?_
      refine lv_iload_n C.1 C.2.1 dX12_grinds_63 rfl (lv_at hl 2 rfl) ?_
      refine lv_imul C.1 C.2.1 dX12_grinds_64 ?_
      refine lv_iload C.1 C.2.1 dX12_grinds_65 (lv_at hl 3 rfl) ?_
      refine lv_iadd C.1 C.2.1 dX12_grinds_67 ?_
      refine lv_imul C.1 C.2.1 dX12_grinds_68 ?_
      refine lv_bipush (v := 6) C.1 C.2.1 dX12_grinds_69 (by decide) ?_
      refine lv_iadd C.1 C.2.1 dX12_grinds_71 ?_
      obtain ⟨i3, h⟩ := h
      refine gx_iald C g dX12_grinds_72 sh_88 i3 ?_
      refine lv_topi (fun x5_4 ex5_4 => ?_)
      have h := h x5_4 ex5_4
      refine lv_istore (lv' := [(5, .int x5_4), (0, .ref (ga E 11)), (2, .int x2), (3, .int x3), (4, .int x4)]) C.1 C.2.1 dX12_grinds_73 hl (by decide) rfl (fun ls hl => ?_)
      refine lv_iconst (v := 0) C.1 C.2.1 dX12_grinds_75 (by decide) ?_
      refine lv_istore (lv' := [(6, .int (0 : Int32)), (5, .int x5_4), (0, .ref (ga E 11)), (2, .int x2), (3, .int x3), (4, .int x4)]) C.1 C.2.1 dX12_grinds_76 hl (by decide) rfl (fun ls hl => ?_)
      obtain ⟨j, h⟩ := h
      exact tX12_grinds_78 C hr hK38 ih j x2 x3 x4 x5_4 (0 : Int32) _ _ _ _ (lv_sub hl [2, 3, 4, 5, 1, 0] rfl) g h
set_option maxHeartbeats 4000000 in
set_option maxRecDepth 100000 in
theorem tX12_grinds_38 {p : Program} {l : Launch} {e : Env} {s : State} {m : MethodId} {args : Array Value} {below : List Frame} {meth : Method} {c : Code} {E : EE} {base : Nat} (C : Cx p E base s m args meth c cX12_grinds 8 RX12) (hr : meth.sig.returnType = none) {Q : St → Prop} : ∀ (n : Nat) (x2 : Int32) (x3 : Int32) (σ : St) (H : Heap) (locs : List Loc) (ls : Array Slot), lv_has ls 8 [(0, .ref (ga E 11)), (2, .int x2), (3, .int x3)] → GW E base s σ H locs → wX12_grinds_38 Q n x2 x3 σ → W p l e rmX12_grinds s m args below meth c H locs 0 0 (MQ below (QV E base Q) args s 0 0 (fun q => base ≤ q)) (F0 m 38 ls []) := by
  intro n
  induction n with
  | zero => intro _ _; intros; exact False.elim (by assumption)
  | succ n ih =>
    intro x2 x3 σ H locs ls hl g h
    refine lv_iload_n C.1 C.2.1 dX12_grinds_38 rfl (lv_at hl 2 rfl) ?_
    refine lv_iload_n C.1 C.2.1 dX12_grinds_39 rfl (lv_at hl 1 rfl) ?_
    refine lv_icmp_ge (tgt := 236) C.1 C.2.1 dX12_grinds_40 (by decide) (fun c1 => ?_) (fun c1 => ?_)
    · have h := h.1 c1
      exact gx_vret C hr g dX12_grinds_236 h
    · have h := h.2 c1
      refine lv_iconst (v := 0) C.1 C.2.1 dX12_grinds_43 (by decide) ?_
      refine lv_istore (lv' := [(4, .int (0 : Int32)), (0, .ref (ga E 11)), (2, .int x2), (3, .int x3)]) C.1 C.2.1 dX12_grinds_44 hl (by decide) rfl (fun ls hl => ?_)
      obtain ⟨j, h⟩ := h
      exact tX12_grinds_46 C hr ih j x2 x3 (0 : Int32) _ _ _ _ (lv_sub hl [1, 2, 3, 0] rfl) g h
set_option maxHeartbeats 4000000 in
set_option maxRecDepth 100000 in
theorem tX12_grinds_8 {p : Program} {l : Launch} {e : Env} {s : State} {m : MethodId} {args : Array Value} {below : List Frame} {meth : Method} {c : Code} {E : EE} {base : Nat} (C : Cx p E base s m args meth c cX12_grinds 8 RX12) (hr : meth.sig.returnType = none) {Q : St → Prop} : ∀ (n : Nat) (x2 : Int32) (x3 : Int32) (σ : St) (H : Heap) (locs : List Loc) (ls : Array Slot), lv_has ls 8 [(0, .ref (ga E 11)), (2, .int x2), (3, .int x3)] → GW E base s σ H locs → wX12_grinds_8 Q n x2 x3 σ → W p l e rmX12_grinds s m args below meth c H locs 0 0 (MQ below (QV E base Q) args s 0 0 (fun q => base ≤ q)) (F0 m 8 ls []) := by
  intro n
  induction n with
  | zero => intro _ _; intros; exact False.elim (by assumption)
  | succ n ih =>
    intro x2 x3 σ H locs ls hl g h
    refine lv_iload_n C.1 C.2.1 dX12_grinds_8 rfl (lv_at hl 2 rfl) ?_
    refine lv_aload_n C.1 C.2.1 dX12_grinds_9 rfl (lv_at hl 0 rfl) ?_
    refine gx_getI C g fl_X12_325 dX12_grinds_10 sh_11 rfl ?_
    refine lv_icmp_ge (tgt := 36) C.1 C.2.1 dX12_grinds_13 (by decide) (fun c1 => ?_) (fun c1 => ?_)
    · have h := h.1 c1
      refine lv_iconst (v := 0) C.1 C.2.1 dX12_grinds_36 (by decide) ?_
      refine lv_istore_n (lv' := [(3, .int (0 : Int32)), (0, .ref (ga E 11)), (2, .int x2)]) C.1 C.2.1 dX12_grinds_37 rfl hl (by decide) rfl (fun ls hl => ?_)
      obtain ⟨j, h⟩ := h
      exact tX12_grinds_38 C hr j x2 (0 : Int32) _ _ _ _ (lv_sub hl [1, 2, 0] rfl) g h
    · have h := h.2 c1
      refine lv_aload_n C.1 C.2.1 dX12_grinds_16 rfl (lv_at hl 0 rfl) ?_
      refine gx_getR C g fl_X12_176 dX12_grinds_17 sh_11 rfl (by decide) ?_
      refine lv_iload_n C.1 C.2.1 dX12_grinds_20 rfl (lv_at hl 2 rfl) ?_
      refine lv_iconst (v := 0) C.1 C.2.1 dX12_grinds_21 (by decide) ?_
      obtain ⟨i2, h⟩ := h
      refine gx_iast C g dX12_grinds_22 sh_98 i2 (fun H locs σ3 eσ3 g => ?_)
      have h := h σ3 eσ3
      refine lv_aload_n C.1 C.2.1 dX12_grinds_23 rfl (lv_at hl 0 rfl) ?_
      refine gx_getR C g fl_X12_179 dX12_grinds_24 sh_11 rfl (by decide) ?_
      refine lv_iload_n C.1 C.2.1 dX12_grinds_27 rfl (lv_at hl 2 rfl) ?_
      refine lv_iconst (v := -1) C.1 C.2.1 dX12_grinds_28 (by decide) ?_
      obtain ⟨i4, h⟩ := h
      refine gx_iast C g dX12_grinds_29 sh_99 i4 (fun H locs σ5 eσ5 g => ?_)
      have h := h σ5 eσ5
      obtain ⟨x3_6, ex3_6⟩ : ∃ y : Int32, y = x3 + 1 := ⟨_, rfl⟩
      have h := h x3_6 ex3_6
      refine lv_iinc (v := x3_6) (lv' := [(3, .int x3_6), (0, .ref (ga E 11)), (2, .int x2)]) C.1 C.2.1 dX12_grinds_30 hl (k := 2) rfl (by rw [ex3_6]; rfl) (by decide) rfl (fun ls hl => ?_)
      refine lv_goto (tgt := 8) C.1 C.2.1 dX12_grinds_33 (by decide) ?_
      exact ih x2 x3_6 _ _ _ _ (lv_sub hl [1, 2, 0] rfl) g h
set_option maxHeartbeats 4000000 in
set_option maxRecDepth 100000 in
theorem tX12_grinds_0 {p : Program} {l : Launch} {e : Env} {s : State} {m : MethodId} {args : Array Value} {below : List Frame} {meth : Method} {c : Code} {E : EE} {base : Nat} (C : Cx p E base s m args meth c cX12_grinds 8 RX12) (hr : meth.sig.returnType = none) {Q : St → Prop} : ∀ (x1 : Int32) (x2 : Int32) (σ : St) (H : Heap) (locs : List Loc) (ls : Array Slot), lv_has ls 8 [(0, .ref (ga E 11)), (1, .int x1), (2, .int x2)] → GW E base s σ H locs → wX12_grinds x1 x2 σ Q → W p l e rmX12_grinds s m args below meth c H locs 0 0 (MQ below (QV E base Q) args s 0 0 (fun q => base ≤ q)) (F0 m 0 ls []) := by
  intro x1 x2 σ H locs ls hl g h
  refine lv_aload_n C.1 C.2.1 dX12_grinds_0 rfl (lv_at hl 0 rfl) ?_
  refine lv_iload_n C.1 C.2.1 dX12_grinds_1 rfl (lv_at hl 1 rfl) ?_
  refine lv_iconst (v := -1) C.1 C.2.1 dX12_grinds_2 (by decide) ?_
  refine gx_callv0 g (gx_runV (k := 11) (rest := []) C g mb_X12_works ml_X12_361 rfl sh_11 (mX12_works x1 (-1 : Int32) _ _ h) ⟨Nat.le_of_ble_eq_true rfl, Nat.le_of_ble_eq_true rfl⟩ ⟨Nat.le_refl _, Nat.le_refl _⟩ rfl hl.1 rfl (Nat.le_of_ble_eq_true rfl) dX12_grinds_3) rfl rfl (fun σ2 H locs h g => ?_)
  refine lv_iconst (v := 0) C.1 C.2.1 dX12_grinds_6 (by decide) ?_
  refine lv_istore_n (lv' := [(3, .int (0 : Int32)), (0, .ref (ga E 11)), (1, .int x1), (2, .int x2)]) C.1 C.2.1 dX12_grinds_7 rfl hl (by decide) rfl (fun ls hl => ?_)
  obtain ⟨j, h⟩ := h
  exact tX12_grinds_8 C hr j x2 (0 : Int32) _ _ _ _ (lv_sub hl [1, 3, 0] rfl) g h
theorem mX12_grinds {l : Launch} {E : EE} {base : Nat} (x1 : Int32) (x2 : Int32) (σ : St) (Q : St → Prop) (h : wX12_grinds x1 x2 σ Q) : Met l yX12_grinds (wy yX12_grinds cX12_grinds 8 none) rmX12_grinds (va_Pc [.ref (ga E 11), .int x1, .int x2] (fun U => SW E base σ U)) (QV E base Q) (rmX12_grinds).cells (rmX12_grinds).slots (fun q => base ≤ q) :=
  met_of (by decide) (Nat.le_of_ble_eq_true rfl) (fun p e s m args below meth c C hr g ls hl => tX12_grinds_0 C hr x1 x2 _ _ _ _ hl g h)
set_option maxHeartbeats 4000000 in
set_option maxRecDepth 100000 in
theorem tX12_told_0 {p : Program} {l : Launch} {e : Env} {s : State} {m : MethodId} {args : Array Value} {below : List Frame} {meth : Method} {c : Code} {E : EE} {base : Nat} (C : Cx p E base s m args meth c cX12_told 4 RX12) (hr : meth.sig.returnType = (some .int)) {Q : Int32 → St → Prop} : ∀ (x1 : Int32) (x2 : Int32) (x3 : Int32) (σ : St) (H : Heap) (locs : List Loc) (ls : Array Slot), lv_has ls 4 [(0, .ref (ga E 11)), (1, .int x1), (2, .int x2), (3, .int x3)] → GW E base s σ H locs → wX12_told x1 x2 x3 σ Q → W p l e rmX12_told s m args below meth c H locs 0 0 (MQ below (QI E base Q) args s 0 0 (fun q => base ≤ q)) (F0 m 0 ls []) := by
  intro x1 x2 x3 σ H locs ls hl g h
  refine lv_iload_n C.1 C.2.1 dX12_told_0 rfl (lv_at hl 1 rfl) ?_
  refine lv_if_lt (tgt := 20) C.1 C.2.1 dX12_told_1 (by decide) (fun c1 => ?_) (fun c1 => ?_)
  · have h := h.1 c1
    refine lv_iconst (v := -1) C.1 C.2.1 dX12_told_20 (by decide) ?_
    exact gx_iret C hr g dX12_told_21 h
  · have h := h.2 c1
    refine lv_iload_n C.1 C.2.1 dX12_told_4 rfl (lv_at hl 1 rfl) ?_
    refine lv_aload_n C.1 C.2.1 dX12_told_5 rfl (lv_at hl 0 rfl) ?_
    refine gx_getI C g fl_X12_325 dX12_told_6 sh_11 rfl ?_
    refine lv_icmp_ge (tgt := 20) C.1 C.2.1 dX12_told_9 (by decide) (fun c2 => ?_) (fun c2 => ?_)
    · have h := h.1 c2
      refine lv_iconst (v := -1) C.1 C.2.1 dX12_told_20 (by decide) ?_
      exact gx_iret C hr g dX12_told_21 h
    · have h := h.2 c2
      refine lv_aload_n C.1 C.2.1 dX12_told_12 rfl (lv_at hl 0 rfl) ?_
      refine lv_iload_n C.1 C.2.1 dX12_told_13 rfl (lv_at hl 2 rfl) ?_
      refine gx_calli0 g (gx_runV (k := 11) (rest := []) C g mb_X12_isKnown ml_X12_357 rfl sh_11 (mX12_isKnown x2 _ _ h) ⟨Nat.le_of_ble_eq_true rfl, Nat.le_of_ble_eq_true rfl⟩ ⟨Nat.le_refl _, Nat.le_refl _⟩ rfl hl.1 rfl (Nat.le_of_ble_eq_true rfl) dX12_told_14) rfl rfl (fun r3 σ4 H locs h g => ?_)
      refine lv_if_ne (tgt := 22) C.1 C.2.1 dX12_told_17 (by decide) (fun c5 => ?_) (fun c5 => ?_)
      · have h := h.2 c5
        refine lv_iload_n C.1 C.2.1 dX12_told_22 rfl (lv_at hl 3 rfl) ?_
        by_cases c6 : x3 = 0
        · have h := h.1 c6
          refine gx_tabI (tgt := 56) C.1 C.2.1 dX12_told_23 (off := 33) (k := 0) c6 (by decide +kernel) (by decide) ?_
          refine lv_aload_n C.1 C.2.1 dX12_told_56 rfl (lv_at hl 0 rfl) ?_
          refine gx_getR C g fl_X12_131 dX12_told_57 sh_11 rfl (by decide) ?_
          refine lv_iload_n C.1 C.2.1 dX12_told_60 rfl (lv_at hl 1 rfl) ?_
          obtain ⟨i7, h⟩ := h
          refine gx_iald C g dX12_told_61 sh_85 i7 ?_
          exact gx_iret C hr g dX12_told_62 h
        · have h := h.2 c6
          by_cases c8 : x3 = 1
          · have h := h.1 c8
            refine gx_tabI (tgt := 63) C.1 C.2.1 dX12_told_23 (off := 40) (k := 1) c8 (by decide +kernel) (by decide) ?_
            refine lv_aload_n C.1 C.2.1 dX12_told_63 rfl (lv_at hl 0 rfl) ?_
            refine gx_getR C g fl_X12_134 dX12_told_64 sh_11 rfl (by decide) ?_
            refine lv_iload_n C.1 C.2.1 dX12_told_67 rfl (lv_at hl 1 rfl) ?_
            obtain ⟨i9, h⟩ := h
            refine gx_iald C g dX12_told_68 sh_86 i9 ?_
            exact gx_iret C hr g dX12_told_69 h
          · have h := h.2 c8
            by_cases c10 : x3 = 2
            · have h := h.1 c10
              refine gx_tabI (tgt := 70) C.1 C.2.1 dX12_told_23 (off := 47) (k := 2) c10 (by decide +kernel) (by decide) ?_
              refine lv_aload_n C.1 C.2.1 dX12_told_70 rfl (lv_at hl 0 rfl) ?_
              refine gx_getR C g fl_X12_137 dX12_told_71 sh_11 rfl (by decide) ?_
              refine lv_iload_n C.1 C.2.1 dX12_told_74 rfl (lv_at hl 1 rfl) ?_
              obtain ⟨i11, h⟩ := h
              refine gx_iald C g dX12_told_75 sh_87 i11 ?_
              exact gx_iret C hr g dX12_told_76 h
            · have h := h.2 c10
              by_cases c12 : x3 = 3
              · have h := h.1 c12
                refine gx_tabI (tgt := 77) C.1 C.2.1 dX12_told_23 (off := 54) (k := 3) c12 (by decide +kernel) (by decide) ?_
                refine lv_aload_n C.1 C.2.1 dX12_told_77 rfl (lv_at hl 0 rfl) ?_
                refine lv_iload_n C.1 C.2.1 dX12_told_78 rfl (lv_at hl 2 rfl) ?_
                refine lv_sipush (v := 240) C.1 C.2.1 dX12_told_79 (by decide) ?_
                refine gx_callv0 g (gx_runV (k := 11) (rest := []) C g mb_X12_grinds ml_X12_380 rfl sh_11 (mX12_grinds x2 (240 : Int32) _ _ h) ⟨Nat.le_of_ble_eq_true rfl, Nat.le_of_ble_eq_true rfl⟩ ⟨Nat.le_refl _, Nat.le_refl _⟩ rfl hl.1 rfl (Nat.le_of_ble_eq_true rfl) dX12_told_82) rfl rfl (fun σ14 H locs h g => ?_)
                refine lv_aload_n C.1 C.2.1 dX12_told_85 rfl (lv_at hl 0 rfl) ?_
                refine gx_getR C g fl_X12_179 dX12_told_86 sh_11 rfl (by decide) ?_
                refine lv_iload_n C.1 C.2.1 dX12_told_89 rfl (lv_at hl 1 rfl) ?_
                obtain ⟨i15, h⟩ := h
                refine gx_iald C g dX12_told_90 sh_99 i15 ?_
                exact gx_iret C hr g dX12_told_91 h
              · have h := h.2 c12
                by_cases c16 : x3 = 4
                · have h := h.1 c16
                  refine gx_tabI (tgt := 92) C.1 C.2.1 dX12_told_23 (off := 69) (k := 4) c16 (by decide +kernel) (by decide) ?_
                  refine lv_aload_n C.1 C.2.1 dX12_told_92 rfl (lv_at hl 0 rfl) ?_
                  refine lv_iload_n C.1 C.2.1 dX12_told_93 rfl (lv_at hl 2 rfl) ?_
                  refine lv_aload_n C.1 C.2.1 dX12_told_94 rfl (lv_at hl 0 rfl) ?_
                  refine gx_getI C g fl_X12_310 dX12_told_95 sh_11 rfl ?_
                  refine gx_callv0 g (gx_runV (k := 11) (rest := []) C g mb_X12_grinds ml_X12_380 rfl sh_11 (mX12_grinds x2 (gv σ4 11 51) _ _ h) ⟨Nat.le_of_ble_eq_true rfl, Nat.le_of_ble_eq_true rfl⟩ ⟨Nat.le_refl _, Nat.le_refl _⟩ rfl hl.1 rfl (Nat.le_of_ble_eq_true rfl) dX12_told_98) rfl rfl (fun σ18 H locs h g => ?_)
                  refine lv_aload_n C.1 C.2.1 dX12_told_101 rfl (lv_at hl 0 rfl) ?_
                  refine gx_getR C g fl_X12_176 dX12_told_102 sh_11 rfl (by decide) ?_
                  refine lv_iload_n C.1 C.2.1 dX12_told_105 rfl (lv_at hl 1 rfl) ?_
                  obtain ⟨i19, h⟩ := h
                  refine gx_iald C g dX12_told_106 sh_98 i19 ?_
                  exact gx_iret C hr g dX12_told_107 h
                · have h := h.2 c16
                  refine gx_tabD (tgt := 108) C.1 C.2.1 dX12_told_23 [0, 1, 2, 3, 4] (List.forall_mem_cons.mpr ⟨c6, List.forall_mem_cons.mpr ⟨c8, List.forall_mem_cons.mpr ⟨c10, List.forall_mem_cons.mpr ⟨c12, List.forall_mem_cons.mpr ⟨c16, fun _ z => by cases z⟩⟩⟩⟩⟩) (by decide +kernel) (by decide +kernel) (by decide) ?_
                  refine lv_iconst (v := -1) C.1 C.2.1 dX12_told_108 (by decide) ?_
                  exact gx_iret C hr g dX12_told_109 h
      · have h := h.1 c5
        refine lv_iconst (v := -1) C.1 C.2.1 dX12_told_20 (by decide) ?_
        exact gx_iret C hr g dX12_told_21 h
theorem mX12_told {l : Launch} {E : EE} {base : Nat} (x1 : Int32) (x2 : Int32) (x3 : Int32) (σ : St) (Q : Int32 → St → Prop) (h : wX12_told x1 x2 x3 σ Q) : Met l yX12_told (wy yX12_told cX12_told 4 (some .int)) rmX12_told (va_Pc [.ref (ga E 11), .int x1, .int x2, .int x3] (fun U => SW E base σ U)) (QI E base Q) (rmX12_told).cells (rmX12_told).slots (fun q => base ≤ q) :=
  met_of (by decide) (Nat.le_of_ble_eq_true rfl) (fun p e s m args below meth c C hr g ls hl => tX12_told_0 C hr x1 x2 x3 _ _ _ _ hl g h)
set_option maxHeartbeats 4000000 in
set_option maxRecDepth 100000 in
theorem tX12_tolls_83 {p : Program} {l : Launch} {e : Env} {s : State} {m : MethodId} {args : Array Value} {below : List Frame} {meth : Method} {c : Code} {E : EE} {base : Nat} (C : Cx p E base s m args meth c cX12_tolls 6 RX12) (hr : meth.sig.returnType = (some .int)) {Q : Int32 → St → Prop} {K37 : Int32 → Int32 → Int32 → St → Prop} (hK37 : ∀ (x1 : Int32) (x4 : Int32) (x5 : Int32) (σ : St) (H : Heap) (locs : List Loc) (ls : Array Slot), lv_has ls 6 [(0, .ref (ga E 11)), (1, .int x1), (4, .int x4), (5, .int x5)] → GW E base s σ H locs → K37 x1 x4 x5 σ → W p l e rmX12_tolls s m args below meth c H locs 0 0 (MQ below (QI E base Q) args s 0 0 (fun q => base ≤ q)) (F0 m 37 ls [])) : ∀ (x1 : Int32) (x4 : Int32) (x5 : Int32) (σ : St) (H : Heap) (locs : List Loc) (ls : Array Slot), lv_has ls 6 [(0, .ref (ga E 11)), (1, .int x1), (4, .int x4), (5, .int x5)] → GW E base s σ H locs → wX12_tolls_83 Q K37 x1 x4 x5 σ → W p l e rmX12_tolls s m args below meth c H locs 0 0 (MQ below (QI E base Q) args s 0 0 (fun q => base ≤ q)) (F0 m 83 ls []) := by
  intro x1 x4 x5 σ H locs ls hl g h
  obtain ⟨x5_1, ex5_1⟩ : ∃ y : Int32, y = x5 + 1 := ⟨_, rfl⟩
  have h := h x5_1 ex5_1
  refine lv_iinc (v := x5_1) (lv' := [(5, .int x5_1), (0, .ref (ga E 11)), (1, .int x1), (4, .int x4)]) C.1 C.2.1 dX12_tolls_83 hl (k := 3) rfl (by rw [ex5_1]; rfl) (by decide) rfl (fun ls hl => ?_)
  refine lv_goto (tgt := 37) C.1 C.2.1 dX12_tolls_86 (by decide) ?_
  exact hK37 x1 x4 x5_1 _ _ _ _ (lv_sub hl [1, 2, 3, 0] rfl) g h
set_option maxHeartbeats 4000000 in
set_option maxRecDepth 100000 in
theorem tX12_tolls_37 {p : Program} {l : Launch} {e : Env} {s : State} {m : MethodId} {args : Array Value} {below : List Frame} {meth : Method} {c : Code} {E : EE} {base : Nat} (C : Cx p E base s m args meth c cX12_tolls 6 RX12) (hr : meth.sig.returnType = (some .int)) {Q : Int32 → St → Prop} : ∀ (n : Nat) (x1 : Int32) (x4 : Int32) (x5 : Int32) (σ : St) (H : Heap) (locs : List Loc) (ls : Array Slot), lv_has ls 6 [(0, .ref (ga E 11)), (1, .int x1), (4, .int x4), (5, .int x5)] → GW E base s σ H locs → wX12_tolls_37 Q n x1 x4 x5 σ → W p l e rmX12_tolls s m args below meth c H locs 0 0 (MQ below (QI E base Q) args s 0 0 (fun q => base ≤ q)) (F0 m 37 ls []) := by
  intro n
  induction n with
  | zero => intro _ _ _; intros; exact False.elim (by assumption)
  | succ n ih =>
    intro x1 x4 x5 σ H locs ls hl g h
    refine lv_iload C.1 C.2.1 dX12_tolls_37 (lv_at hl 3 rfl) ?_
    refine lv_aload_n C.1 C.2.1 dX12_tolls_39 rfl (lv_at hl 0 rfl) ?_
    refine gx_getI C g fl_X12_325 dX12_tolls_40 sh_11 rfl ?_
    refine lv_icmp_ge (tgt := 89) C.1 C.2.1 dX12_tolls_43 (by decide) (fun c1 => ?_) (fun c1 => ?_)
    · have h := h.1 c1
      refine lv_iload C.1 C.2.1 dX12_tolls_89 (lv_at hl 2 rfl) ?_
      exact gx_iret C hr g dX12_tolls_91 h
    · have h := h.2 c1
      refine lv_aload_n C.1 C.2.1 dX12_tolls_46 rfl (lv_at hl 0 rfl) ?_
      refine gx_getR C g fl_X12_131 dX12_tolls_47 sh_11 rfl (by decide) ?_
      refine lv_iload C.1 C.2.1 dX12_tolls_50 (lv_at hl 3 rfl) ?_
      obtain ⟨i2, h⟩ := h
      refine gx_iald C g dX12_tolls_52 sh_85 i2 ?_
      refine lv_iload_n C.1 C.2.1 dX12_tolls_53 rfl (lv_at hl 1 rfl) ?_
      refine lv_icmp_ne (tgt := 83) C.1 C.2.1 dX12_tolls_54 (by decide) (fun c3 => ?_) (fun c3 => ?_)
      · have h := h.2 c3
        exact tX12_tolls_83 C hr ih x1 x4 x5 _ _ _ _ (lv_sub hl [0, 1, 2, 3] rfl) g h
      · have h := h.1 c3
        refine lv_aload_n C.1 C.2.1 dX12_tolls_57 rfl (lv_at hl 0 rfl) ?_
        refine gx_getR C g fl_X12_179 dX12_tolls_58 sh_11 rfl (by decide) ?_
        refine lv_iload C.1 C.2.1 dX12_tolls_61 (lv_at hl 3 rfl) ?_
        obtain ⟨i4, h⟩ := h
        refine gx_iald C g dX12_tolls_63 sh_99 i4 ?_
        refine lv_iconst (v := -1) C.1 C.2.1 dX12_tolls_64 (by decide) ?_
        refine lv_icmp_eq (tgt := 83) C.1 C.2.1 dX12_tolls_65 (by decide) (fun c5 => ?_) (fun c5 => ?_)
        · have h := h.1 c5
          exact tX12_tolls_83 C hr ih x1 x4 x5 _ _ _ _ (lv_sub hl [0, 1, 2, 3] rfl) g h
        · have h := h.2 c5
          refine lv_iload C.1 C.2.1 dX12_tolls_68 (lv_at hl 2 rfl) ?_
          refine lv_aload_n C.1 C.2.1 dX12_tolls_70 rfl (lv_at hl 0 rfl) ?_
          refine gx_getR C g fl_X12_134 dX12_tolls_71 sh_11 rfl (by decide) ?_
          refine lv_iload C.1 C.2.1 dX12_tolls_74 (lv_at hl 3 rfl) ?_
          obtain ⟨i6, h⟩ := h
          refine gx_iald C g dX12_tolls_76 sh_86 i6 ?_
          refine lv_bipush (v := 16) C.1 C.2.1 dX12_tolls_77 (by decide) ?_
          refine lv_idiv C.1 C.2.1 dX12_tolls_79 (by decide) ?_
          refine lv_iadd C.1 C.2.1 dX12_tolls_80 ?_
          refine lv_topi (fun x4_7 ex4_7 => ?_)
          have h := h x4_7 ex4_7
          refine lv_istore (lv' := [(4, .int x4_7), (0, .ref (ga E 11)), (1, .int x1), (5, .int x5)]) C.1 C.2.1 dX12_tolls_81 hl (by decide) rfl (fun ls hl => ?_)
          exact tX12_tolls_83 C hr ih x1 x4_7 x5 _ _ _ _ (lv_sub hl [1, 2, 0, 3] rfl) g h
set_option maxHeartbeats 4000000 in
set_option maxRecDepth 100000 in
theorem tX12_tolls_0 {p : Program} {l : Launch} {e : Env} {s : State} {m : MethodId} {args : Array Value} {below : List Frame} {meth : Method} {c : Code} {E : EE} {base : Nat} (C : Cx p E base s m args meth c cX12_tolls 6 RX12) (hr : meth.sig.returnType = (some .int)) {Q : Int32 → St → Prop} : ∀ (x1 : Int32) (x2 : Int32) (x3 : Int32) (σ : St) (H : Heap) (locs : List Loc) (ls : Array Slot), lv_has ls 6 [(0, .ref (ga E 11)), (1, .int x1), (2, .int x2), (3, .int x3)] → GW E base s σ H locs → wX12_tolls x1 x2 x3 σ Q → W p l e rmX12_tolls s m args below meth c H locs 0 0 (MQ below (QI E base Q) args s 0 0 (fun q => base ≤ q)) (F0 m 0 ls []) := by
  intro x1 x2 x3 σ H locs ls hl g h
  refine lv_aload_n C.1 C.2.1 dX12_tolls_0 rfl (lv_at hl 0 rfl) ?_
  refine lv_iload_n C.1 C.2.1 dX12_tolls_1 rfl (lv_at hl 1 rfl) ?_
  refine gx_calli0 g (gx_runV (k := 11) (rest := []) C g mb_X12_isMill ml_X12_319 rfl sh_11 (mX12_isMill x1 _ _ h) ⟨Nat.le_of_ble_eq_true rfl, Nat.le_of_ble_eq_true rfl⟩ ⟨Nat.le_refl _, Nat.le_refl _⟩ rfl hl.1 rfl (Nat.le_of_ble_eq_true rfl) dX12_tolls_2) rfl rfl (fun r1 σ2 H locs h g => ?_)
  refine lv_if_eq (tgt := 23) C.1 C.2.1 dX12_tolls_5 (by decide) (fun c3 => ?_) (fun c3 => ?_)
  · have h := h.1 c3
    refine lv_iconst (v := -1) C.1 C.2.1 dX12_tolls_23 (by decide) ?_
    exact gx_iret C hr g dX12_tolls_24 h
  · have h := h.2 c3
    refine lv_iload_n C.1 C.2.1 dX12_tolls_8 rfl (lv_at hl 2 rfl) ?_
    refine gx_calli0 g (gx_runS (rest := []) C g ms_X12_isEnd ml_X12_364 (mX12_isEnd x2 _ _ h) ⟨Nat.le_of_ble_eq_true rfl, Nat.le_of_ble_eq_true rfl⟩ ⟨Nat.le_refl _, Nat.le_refl _⟩ rfl hl.1 rfl (Nat.le_of_ble_eq_true rfl) dX12_tolls_9) rfl rfl (fun r4 σ5 H locs h g => ?_)
    refine lv_if_eq (tgt := 23) C.1 C.2.1 dX12_tolls_12 (by decide) (fun c6 => ?_) (fun c6 => ?_)
    · have h := h.1 c6
      refine lv_iconst (v := -1) C.1 C.2.1 dX12_tolls_23 (by decide) ?_
      exact gx_iret C hr g dX12_tolls_24 h
    · have h := h.2 c6
      refine lv_aload_n C.1 C.2.1 dX12_tolls_15 rfl (lv_at hl 0 rfl) ?_
      refine lv_iload_n C.1 C.2.1 dX12_tolls_16 rfl (lv_at hl 3 rfl) ?_
      refine gx_calli0 g (gx_runV (k := 11) (rest := []) C g mb_X12_isKnown ml_X12_357 rfl sh_11 (mX12_isKnown x3 _ _ h) ⟨Nat.le_of_ble_eq_true rfl, Nat.le_of_ble_eq_true rfl⟩ ⟨Nat.le_refl _, Nat.le_refl _⟩ rfl hl.1 rfl (Nat.le_of_ble_eq_true rfl) dX12_tolls_17) rfl rfl (fun r7 σ8 H locs h g => ?_)
      refine lv_if_ne (tgt := 25) C.1 C.2.1 dX12_tolls_20 (by decide) (fun c9 => ?_) (fun c9 => ?_)
      · have h := h.2 c9
        refine lv_aload_n C.1 C.2.1 dX12_tolls_25 rfl (lv_at hl 0 rfl) ?_
        refine lv_iload_n C.1 C.2.1 dX12_tolls_26 rfl (lv_at hl 3 rfl) ?_
        refine lv_iload_n C.1 C.2.1 dX12_tolls_27 rfl (lv_at hl 2 rfl) ?_
        refine gx_callv0 g (gx_runV (k := 11) (rest := []) C g mb_X12_grinds ml_X12_380 rfl sh_11 (mX12_grinds x3 x2 _ _ h) ⟨Nat.le_of_ble_eq_true rfl, Nat.le_of_ble_eq_true rfl⟩ ⟨Nat.le_refl _, Nat.le_refl _⟩ rfl hl.1 rfl (Nat.le_of_ble_eq_true rfl) dX12_tolls_28) rfl rfl (fun σ11 H locs h g => ?_)
        refine lv_iconst (v := 0) C.1 C.2.1 dX12_tolls_31 (by decide) ?_
        refine lv_istore (lv' := [(4, .int (0 : Int32)), (0, .ref (ga E 11)), (1, .int x1), (2, .int x2), (3, .int x3)]) C.1 C.2.1 dX12_tolls_32 hl (by decide) rfl (fun ls hl => ?_)
        refine lv_iconst (v := 0) C.1 C.2.1 dX12_tolls_34 (by decide) ?_
        refine lv_istore (lv' := [(5, .int (0 : Int32)), (4, .int (0 : Int32)), (0, .ref (ga E 11)), (1, .int x1), (2, .int x2), (3, .int x3)]) C.1 C.2.1 dX12_tolls_35 hl (by decide) rfl (fun ls hl => ?_)
        obtain ⟨j, h⟩ := h
        exact tX12_tolls_37 C hr j x1 (0 : Int32) (0 : Int32) _ _ _ _ (lv_sub hl [2, 3, 1, 0] rfl) g h
      · have h := h.1 c9
        refine lv_iconst (v := -1) C.1 C.2.1 dX12_tolls_23 (by decide) ?_
        exact gx_iret C hr g dX12_tolls_24 h
theorem mX12_tolls {l : Launch} {E : EE} {base : Nat} (x1 : Int32) (x2 : Int32) (x3 : Int32) (σ : St) (Q : Int32 → St → Prop) (h : wX12_tolls x1 x2 x3 σ Q) : Met l yX12_tolls (wy yX12_tolls cX12_tolls 6 (some .int)) rmX12_tolls (va_Pc [.ref (ga E 11), .int x1, .int x2, .int x3] (fun U => SW E base σ U)) (QI E base Q) (rmX12_tolls).cells (rmX12_tolls).slots (fun q => base ≤ q) :=
  met_of (by decide) (Nat.le_of_ble_eq_true rfl) (fun p e s m args below meth c C hr g ls hl => tX12_tolls_0 C hr x1 x2 x3 _ _ _ _ hl g h)
set_option maxHeartbeats 4000000 in
set_option maxRecDepth 100000 in
theorem tX12_count_0 {p : Program} {l : Launch} {e : Env} {s : State} {m : MethodId} {args : Array Value} {below : List Frame} {meth : Method} {c : Code} {E : EE} {base : Nat} (C : Cx p E base s m args meth c cX12_count 2 RX12) (hr : meth.sig.returnType = (some .int)) {Q : Int32 → St → Prop} : ∀ (x1 : Int32) (σ : St) (H : Heap) (locs : List Loc) (ls : Array Slot), lv_has ls 2 [(0, .ref (ga E 11)), (1, .int x1)] → GW E base s σ H locs → wX12_count x1 σ Q → W p l e rmX12_count s m args below meth c H locs 0 0 (MQ below (QI E base Q) args s 0 0 (fun q => base ≤ q)) (F0 m 0 ls []) := by
  intro x1 σ H locs ls hl g h
  refine lv_iload_n C.1 C.2.1 dX12_count_0 rfl (lv_at hl 1 rfl) ?_
  by_cases c1 : x1 = 0
  · have h := h.1 c1
    refine gx_tabI (tgt := 52) C.1 C.2.1 dX12_count_1 (off := 51) (k := 0) c1 (by decide +kernel) (by decide) ?_
    refine lv_aload_n C.1 C.2.1 dX12_count_52 rfl (lv_at hl 0 rfl) ?_
    refine gx_getI C g fl_X12_307 dX12_count_53 sh_11 rfl ?_
    exact gx_iret C hr g dX12_count_56 h
  · have h := h.2 c1
    by_cases c2 : x1 = 1
    · have h := h.1 c2
      refine gx_tabI (tgt := 57) C.1 C.2.1 dX12_count_1 (off := 56) (k := 1) c2 (by decide +kernel) (by decide) ?_
      refine lv_aload_n C.1 C.2.1 dX12_count_57 rfl (lv_at hl 0 rfl) ?_
      refine gx_getI C g fl_X12_316 dX12_count_58 sh_11 rfl ?_
      exact gx_iret C hr g dX12_count_61 h
    · have h := h.2 c2
      by_cases c3 : x1 = 2
      · have h := h.1 c3
        refine gx_tabI (tgt := 62) C.1 C.2.1 dX12_count_1 (off := 61) (k := 2) c3 (by decide +kernel) (by decide) ?_
        refine lv_aload_n C.1 C.2.1 dX12_count_62 rfl (lv_at hl 0 rfl) ?_
        refine gx_getI C g fl_X12_322 dX12_count_63 sh_11 rfl ?_
        exact gx_iret C hr g dX12_count_66 h
      · have h := h.2 c3
        by_cases c4 : x1 = 3
        · have h := h.1 c4
          refine gx_tabI (tgt := 67) C.1 C.2.1 dX12_count_1 (off := 66) (k := 3) c4 (by decide +kernel) (by decide) ?_
          refine lv_aload_n C.1 C.2.1 dX12_count_67 rfl (lv_at hl 0 rfl) ?_
          refine gx_getI C g fl_X12_325 dX12_count_68 sh_11 rfl ?_
          exact gx_iret C hr g dX12_count_71 h
        · have h := h.2 c4
          by_cases c5 : x1 = 4
          · have h := h.1 c5
            refine gx_tabI (tgt := 72) C.1 C.2.1 dX12_count_1 (off := 71) (k := 4) c5 (by decide +kernel) (by decide) ?_
            refine lv_aload_n C.1 C.2.1 dX12_count_72 rfl (lv_at hl 0 rfl) ?_
            refine gx_getI C g fl_X12_257 dX12_count_73 sh_11 rfl ?_
            exact gx_iret C hr g dX12_count_76 h
          · have h := h.2 c5
            by_cases c6 : x1 = 5
            · have h := h.1 c6
              refine gx_tabI (tgt := 77) C.1 C.2.1 dX12_count_1 (off := 76) (k := 5) c6 (by decide +kernel) (by decide) ?_
              refine lv_aload_n C.1 C.2.1 dX12_count_77 rfl (lv_at hl 0 rfl) ?_
              refine gx_getI C g fl_X12_263 dX12_count_78 sh_11 rfl ?_
              exact gx_iret C hr g dX12_count_81 h
            · have h := h.2 c6
              by_cases c7 : x1 = 6
              · have h := h.1 c7
                refine gx_tabI (tgt := 82) C.1 C.2.1 dX12_count_1 (off := 81) (k := 6) c7 (by decide +kernel) (by decide) ?_
                refine lv_aload_n C.1 C.2.1 dX12_count_82 rfl (lv_at hl 0 rfl) ?_
                refine gx_getI C g fl_X12_310 dX12_count_83 sh_11 rfl ?_
                exact gx_iret C hr g dX12_count_86 h
              · have h := h.2 c7
                by_cases c8 : x1 = 7
                · have h := h.1 c8
                  refine gx_tabI (tgt := 87) C.1 C.2.1 dX12_count_1 (off := 86) (k := 7) c8 (by decide +kernel) (by decide) ?_
                  refine lv_aload_n C.1 C.2.1 dX12_count_87 rfl (lv_at hl 0 rfl) ?_
                  refine gx_getI C g fl_X12_186 dX12_count_88 sh_11 rfl ?_
                  exact gx_iret C hr g dX12_count_91 h
                · have h := h.2 c8
                  by_cases c9 : x1 = 8
                  · have h := h.1 c9
                    refine gx_tabI (tgt := 92) C.1 C.2.1 dX12_count_1 (off := 91) (k := 8) c9 (by decide +kernel) (by decide) ?_
                    refine lv_aload_n C.1 C.2.1 dX12_count_92 rfl (lv_at hl 0 rfl) ?_
                    refine gx_getI C g fl_X12_189 dX12_count_93 sh_11 rfl ?_
                    exact gx_iret C hr g dX12_count_96 h
                  · have h := h.2 c9
                    refine gx_tabD (tgt := 97) C.1 C.2.1 dX12_count_1 [0, 1, 2, 3, 4, 5, 6, 7, 8] (List.forall_mem_cons.mpr ⟨c1, List.forall_mem_cons.mpr ⟨c2, List.forall_mem_cons.mpr ⟨c3, List.forall_mem_cons.mpr ⟨c4, List.forall_mem_cons.mpr ⟨c5, List.forall_mem_cons.mpr ⟨c6, List.forall_mem_cons.mpr ⟨c7, List.forall_mem_cons.mpr ⟨c8, List.forall_mem_cons.mpr ⟨c9, fun _ z => by cases z⟩⟩⟩⟩⟩⟩⟩⟩⟩) (by decide +kernel) (by decide +kernel) (by decide) ?_
                    refine lv_iconst (v := -1) C.1 C.2.1 dX12_count_97 (by decide) ?_
                    exact gx_iret C hr g dX12_count_98 h
theorem mX12_count {l : Launch} {E : EE} {base : Nat} (x1 : Int32) (σ : St) (Q : Int32 → St → Prop) (h : wX12_count x1 σ Q) : Met l yX12_count (wy yX12_count cX12_count 2 (some .int)) rmX12_count (va_Pc [.ref (ga E 11), .int x1] (fun U => SW E base σ U)) (QI E base Q) (rmX12_count).cells (rmX12_count).slots (fun q => base ≤ q) :=
  met_of (by decide) (Nat.le_of_ble_eq_true rfl) (fun p e s m args below meth c C hr g ls hl => tX12_count_0 C hr x1 _ _ _ _ hl g h)
