/-! Small arithmetic of an hour: both ways of telling the least, the most, what is left. -/
def clI (x mg : Int32) : Int32 := if x ≤ mg then x else mg
theorem i_eq {a b : Int32} (h : a.toInt = b.toInt) : a = b := Int32.toInt_inj.mp h
theorem clI_step {x v mg : Int32} : jmax (clI x mg) (jmin v mg) = clI (if v ≤ x then x else v) mg := by
  unfold clI
  simp only [jmax, jmin]
  by_cases h1 : x ≤ mg <;> by_cases h2 : mg < v <;> by_cases h3 : v ≤ x <;> simp only [h1, h2, h3, if_true, if_false] <;> rw [Int32.le_iff_toInt_le] at h1 h3 <;> rw [Int32.lt_iff_toInt_lt] at h2
  all_goals repeat' split
  all_goals first | rfl | (simp only [Int32.le_iff_toInt_le, Int32.lt_iff_toInt_lt] at *; first | omega | (apply i_eq; omega))
theorem min_le {a b : Int32} : (if a ≤ b then a else b) = jmin b a := by
  simp only [jmin]
  by_cases h : a ≤ b <;> by_cases h2 : a < b <;> simp only [h, h2, if_true, if_false]
  · simp only [Int32.le_iff_toInt_le, Int32.lt_iff_toInt_lt] at *
    apply i_eq; omega
  · simp only [Int32.le_iff_toInt_le, Int32.lt_iff_toInt_lt] at *
    omega
theorem max_le {a : Int32} : (if a ≤ 0 then 0 else a) = jmax a 0 := by
  simp only [jmax]
  by_cases h : a ≤ 0 <;> by_cases h2 : a < 0 <;> simp only [h, h2, if_true, if_false]
  · simp only [Int32.le_iff_toInt_le, Int32.lt_iff_toInt_lt] at *
    apply i_eq; omega
  · simp only [Int32.le_iff_toInt_le, Int32.lt_iff_toInt_lt] at *
    omega
/-- what is left behind a taking of at most x (0 or more) isn't below 0 -/
theorem left_pos {x w : Int32} (hx : 0 ≤ x) : 0 ≤ w - jmin x w := by
  have h0 : (0 : Int32).toInt = 0 := by decide
  rw [Int32.le_iff_toInt_le, h0] at hx
  simp only [jmin]
  by_cases h : w < x
  · rw [if_pos h]
    rw [Int32.sub_self]
    exact Int32.le_refl _
  · rw [if_neg h]
    rw [Int32.lt_iff_toInt_lt] at h
    rw [Int32.le_iff_toInt_le, h0, Int32.toInt_sub, Int.bmod_def]
    have := w.toInt_lt
    have := w.le_toInt
    omega
theorem spill_eq {l : Int32} (hl : 0 ≤ l) {c : Nat} (hc : c ≤ 1000) : jmax (l - nI c) 0 = if l ≤ nI c then 0 else l - nI c := by
  have h0 : (0 : Int32).toInt = 0 := by decide
  rw [Int32.le_iff_toInt_le, h0] at hl
  have hcI : (nI c).toInt = c := nI_toInt (by omega)
  have hs : (l - nI c).toInt = l.toInt - c := by
    rw [Int32.toInt_sub, hcI, Int.bmod_def]
    have := l.toInt_lt
    omega
  simp only [jmax]
  by_cases h : l ≤ nI c <;> by_cases h2 : l - nI c < 0 <;> simp only [h, h2, if_true, if_false]
  · rw [Int32.le_iff_toInt_le, hcI] at h
    rw [Int32.lt_iff_toInt_lt, hs, h0] at h2
    apply i_eq
    rw [hs, h0]
    omega
  · rw [Int32.le_iff_toInt_le, hcI] at h
    rw [Int32.lt_iff_toInt_lt, hs, h0] at h2
    omega
theorem lvl_eq (a b u t s : Int32) : a + b - u - t - s = a + (b - (u + t + s)) := by
  simp only [Int32.sub_eq_add_neg, Int32.neg_add]
  ac_rfl
theorem nI_nn {n : Nat} (h : n < 2 ^ 31) : (0 : Int32) ≤ nI n := nI_pos' h
/-- what is opened stays between the orders' gate and the most -/
theorem opG_bd {mg : Int32} {m : Nat} {d : Int32} {v : Nat → Int32} : ∀ (rs : List Ru) (g : Int32), g ≤ mg → g ≤ opG rs mg m d v g ∧ opG rs mg m d v g ≤ mg
  | [], g, h => ⟨Int32.le_refl _, h⟩
  | r :: rs, g, h => by
    rw [opG_cons]
    have h1 : g ≤ opS mg m d v g r ∧ opS mg m d v g r ≤ mg := by
      cases hb : (r.1 && ruF r m d v) with
      | false => rw [opS_no hb]; exact ⟨Int32.le_refl _, h⟩
      | true =>
        rw [opS_yes hb]
        generalize evX v r.2.2.2.2.2.1 = x
        simp only [jmax, jmin]
        by_cases h2 : mg < x
        · rw [if_pos h2]
          by_cases h3 : g < mg
          · rw [if_pos h3]; exact ⟨h, Int32.le_refl _⟩
          · rw [if_neg h3]; exact ⟨Int32.le_refl _, h⟩
        · rw [if_neg h2]
          by_cases h3 : g < x
          · rw [if_pos h3]; exact ⟨Int32.le_of_lt h3, i32_lt.mp h2⟩
          · rw [if_neg h3]; exact ⟨Int32.le_refl _, h⟩
    obtain ⟨q1, q2⟩ := opG_bd rs (opS mg m d v g r) h1.2
    exact ⟨Int32.le_trans h1.1 q1, q2⟩
