/-! read: the tokens of a tape. -/
def srt (c : Int32) : Nat := if 97 ≤ c ∧ c ≤ 122 then 1 else if 48 ≤ c ∧ c ≤ 57 then 2 else if c = 9 ∨ c = 10 ∨ c = 13 ∨ c = 32 then 3 else 0
section LX
variable (ch : Nat → Int32) (L : Nat)
def pkC (p : Nat) : Int32 := if p < L then ch p else -1
/-- behind all of a sort -/
def ruN (s : Nat) : Nat → Nat → Nat
  | 0, p => p
  | f + 1, p => if p < L ∧ srt (ch p) = s then ruN s f (p + 1) else p
def skL (p : Nat) : Nat := ruN ch L 3 (L - p) p
def enL (p : Nat) : Nat := if srt (pkC ch L p) = 0 then (if (pkC ch L p = 61 ∨ pkC ch L p = 33 ∨ pkC ch L p = 60) ∧ pkC ch L (p + 1) = 61 then p + 2 else p + 1) else ruN ch L (srt (pkC ch L p)) (L - (p + 1)) (p + 1)
def nmF : Nat → Nat → List Nat
  | 0, _ => []
  | f + 1, p => if p < L ∧ srt (ch p) = 1 then ((ch p) - 96).toNatClampNeg :: nmF f (p + 1) else []
def nuF : Nat → Nat → Int32 → Int32
  | 0, _, x => x
  | f + 1, p, x => if p < L ∧ srt (ch p) = 2 then nuF f (p + 1) (10 * x + ch p - 48) else x
end LX
def KwD : List (List Nat) := [[1, 3, 20], [6, 18, 15, 13], [21, 14, 20, 9, 12], [5, 14, 4], [13, 21, 19, 20], [9, 6], [15, 16, 5, 14, 19], [13, 9, 12, 12], [1, 14, 25], [15, 18], [1, 14, 4], [12, 5, 22, 5, 12], [13, 1, 18, 11], [3, 1, 16], [2, 5, 12, 15, 23], [1, 2, 15, 22, 5], [9, 14], [23, 8, 5, 5, 12], [7, 1, 20, 5], [8, 15, 21, 18], [4, 1, 25], [23, 15, 18, 11], [15, 21, 20]]
def KwM : List (List Nat) := [[1, 3, 20], [6, 18, 15, 13], [21, 14, 20, 9, 12], [5, 14, 4], [13, 9, 12, 12], [1, 14, 25], [13, 21, 19, 20], [15, 16, 5, 14, 19], [9, 6], [15, 18], [1, 14, 4], [12, 5, 22, 5, 12], [13, 1, 18, 11], [3, 1, 16], [2, 5, 12, 15, 23], [1, 2, 15, 22, 5], [9, 14], [23, 8, 5, 5, 12], [7, 1, 20, 5], [8, 15, 21, 18], [4, 1, 25], [23, 15, 18, 11], [15, 21, 20]]
/-- a word's kind, from the w-th on -/
def wdS (l : List Nat) : Nat → Nat → Nat
  | 0, _ => 3
  | f + 1, w => if KwD[w]? = some l then 16 + w else wdS l f (w + 1)
def rfS (l : List Nat) : Nat → Nat → Nat → Nat
  | 0, _, x => x
  | f + 1, k, x => rfS l f (k + 1) (if KwM[k]? = some l then 20 + k else x)
theorem wdS_no {l : List Nat} : ∀ f w, l ∉ KwD → wdS l f w = 3
  | 0, _, _ => rfl
  | f + 1, w, h => by
    rw [wdS, if_neg (fun q => h (List.mem_of_getElem? q))]
    exact wdS_no f (w + 1) h
theorem rfS_no {l : List Nat} {x : Nat} : ∀ f k, l ∉ KwM → rfS l f k x = x
  | 0, _, _ => rfl
  | f + 1, k, h => by
    rw [rfS, if_neg (fun q => h (List.mem_of_getElem? q))]
    exact rfS_no f (k + 1) h
theorem Kw_R {l : List Nat} : l ∈ KwD ↔ l ∈ KwM := by
  have h1 : ∀ x ∈ KwD, x ∈ KwM := by decide
  have h2 : ∀ x ∈ KwM, x ∈ KwD := by decide
  exact ⟨h1 l, h2 l⟩
theorem word_eq (l : List Nat) : rfS l 23 0 1 = kN (wdS l 23 0) := by
  by_cases h : l ∈ KwM
  · have : ∀ x ∈ KwM, rfS x 23 0 1 = kN (wdS x 23 0) := by decide
    exact this l h
  · rw [rfS_no 23 0 h, wdS_no 23 0 (fun q => h (Kw_R.mp q))]
    rfl
theorem word_long {l : List Nat} (h : 5 < l.length) : wdS l 23 0 = 3 := by
  refine wdS_no 23 0 (fun q => ?_)
  have : ∀ x ∈ KwD, x.length ≤ 5 := by decide
  have := this l q
  omega
theorem wdS_le {l : List Nat} : ∀ f w, w + f ≤ 23 → wdS l f w ≤ 38
  | 0, _, _ => by show 3 ≤ 38; decide
  | f + 1, w, h => by
    rw [wdS]
    by_cases q : KwD[w]? = some l
    · rw [if_pos q]; omega
    · rw [if_neg q]; exact wdS_le f (w + 1) (by omega)
theorem wdS_ge {l : List Nat} : ∀ f w, 3 ≤ wdS l f w ∧ wdS l f w ≠ 4
  | 0, _ => by show 3 ≤ 3 ∧ 3 ≠ 4; decide
  | f + 1, w => by
    rw [wdS]
    by_cases q : KwD[w]? = some l
    · rw [if_pos q]; omega
    · rw [if_neg q]; exact wdS_ge f (w + 1)
def sgK (c : Int32) (two : Bool) : Nat := if c = 33 then (if two then 12 else 1) else if c = 40 then 6 else if c = 41 then 7 else if c = 42 then 10 else if c = 43 then 8 else if c = 45 then 9 else if c = 58 then 5 else if c = 59 then 4 else if c = 60 then (if two then 14 else 13) else if c = 61 then (if two then 11 else 1) else 1
theorem sgK_le (c : Int32) (two : Bool) : sgK c two ≤ 14 ∧ sgK c two ≠ 2 ∧ sgK c two ≠ 3 ∧ sgK c two ≠ 0 := by
  unfold sgK
  repeat' split
  all_goals decide
section LY
variable (ch : Nat → Int32) (L : Nat)
def kdL (p : Nat) : Nat := if srt (pkC ch L p) = 1 then (if enL ch L p - p ≤ 8 then wdS (nmF ch L 8 p) 23 0 else 1) else if srt (pkC ch L p) = 2 then (if enL ch L p - p ≤ 4 then 2 else 1) else if pkC ch L p = -1 then 0 else sgK (pkC ch L p) (decide (enL ch L p - p = 2))
def tkp : Nat → Nat
  | 0 => skL ch L 0
  | i + 1 => skL ch L (enL ch L (tkp i))
def tkK (i : Nat) : Nat := kdL ch L (tkp ch L i)
def tkV (i : Nat) : Int32 := nuF ch L 4 (tkp ch L i) 0
def tkN (i : Nat) : List Nat := nmF ch L 8 (tkp ch L i)
def mxF : Nat → Nat → Nat
  | 0, i => i
  | f + 1, i => if tkK ch L i ≤ 1 then i else mxF f (i + 1)
end LY
section LZ
variable {ch : Nat → Int32} {L : Nat}
theorem ru_ge {s : Nat} : ∀ f p, p ≤ ruN ch L s f p
  | 0, _ => Nat.le_refl _
  | f + 1, p => by
    rw [ruN]
    by_cases q : p < L ∧ srt (ch p) = s
    · rw [if_pos q]
      have := ru_ge (s := s) f (p + 1)
      omega
    · rw [if_neg q]
      exact Nat.le_refl _
theorem ru_le {s : Nat} : ∀ f p, p ≤ L → ruN ch L s f p ≤ L
  | 0, _, h => h
  | f + 1, p, h => by
    rw [ruN]
    by_cases q : p < L ∧ srt (ch p) = s
    · rw [if_pos q]
      exact ru_le f (p + 1) (by omega)
    · rw [if_neg q]
      exact h
/-- with fuel enough it stops at another sort, or at the end -/
theorem ru_st {s : Nat} : ∀ f p, L ≤ p + f → p ≤ L → ¬ (ruN ch L s f p < L ∧ srt (ch (ruN ch L s f p)) = s)
  | 0, p, h, h2 => fun q => by
    have : ruN ch L s 0 p = p := rfl
    rw [this] at q
    omega
  | f + 1, p, h, h2 => by
    rw [ruN]
    by_cases q : p < L ∧ srt (ch p) = s
    · rw [if_pos q]
      exact ru_st f (p + 1) (by omega) (by omega)
    · rw [if_neg q]
      exact q
/-- all ahead is of the sort -/
theorem ru_al {s : Nat} : ∀ f p q, p ≤ q → q < ruN ch L s f p → q < L ∧ srt (ch q) = s
  | 0, p, q, h1, h2 => by
    have : ruN ch L s 0 p = p := rfl
    omega
  | f + 1, p, q, h1, h2 => by
    rw [ruN] at h2
    by_cases c : p < L ∧ srt (ch p) = s
    · rw [if_pos c] at h2
      by_cases z : q = p
      · rw [z]; exact c
      · exact ru_al f (p + 1) q (by omega) h2
    · rw [if_neg c] at h2
      omega
theorem sk_ge (p : Nat) : p ≤ skL ch L p := ru_ge _ _
theorem en_gt (p : Nat) : p < enL ch L p := by
  unfold enL
  by_cases c : srt (pkC ch L p) = 0
  · rw [if_pos c]
    split <;> omega
  · rw [if_neg c]
    have := ru_ge (ch := ch) (L := L) (s := srt (pkC ch L p)) (L - (p + 1)) (p + 1)
    omega
theorem pk_m1' {p : Nat} (h : ¬ p < L) : pkC ch L p = -1 := if_neg h
theorem srt_m1 : srt (-1) = 0 := by decide
theorem en_le {p : Nat} (hp : p < L) (hch : ∀ q, ch q ≠ -1) : enL ch L p ≤ L := by
  unfold enL
  by_cases c : srt (pkC ch L p) = 0
  · rw [if_pos c]
    split
    · rename_i h
      have : p + 1 < L := Nat.not_le.mp (fun q => by
        have := h.2
        rw [pk_m1' (by omega)] at this
        exact absurd this (by decide))
      omega
    · omega
  · rw [if_neg c]
    exact ru_le _ _ (by omega)
theorem tkp_lt (i : Nat) : tkp ch L i < tkp ch L (i + 1) := by
  rw [tkp]
  have h1 := en_gt (ch := ch) (L := L) (tkp ch L i)
  have h2 := sk_ge (ch := ch) (L := L) (enL ch L (tkp ch L i))
  omega
theorem tkp_mono {i j : Nat} (h : i < j) : tkp ch L i < tkp ch L j := by
  obtain ⟨d, rfl⟩ : ∃ d, j = i + 1 + d := ⟨j - (i + 1), by omega⟩
  induction d with
  | zero => exact tkp_lt i
  | succ d ih =>
    have h1 := ih (by omega)
    have h2 := tkp_lt (ch := ch) (L := L) (i + 1 + d)
    exact Nat.lt_trans h1 h2
/-- a kind of a token inside the tape -/
theorem kd_in {p : Nat} (h : 1 < kdL ch L p) : p < L := by
  refine Nat.not_le.mp (fun q => ?_)
  unfold kdL at h
  rw [pk_m1' (by omega), srt_m1, if_neg (by decide), if_neg (by decide), if_pos rfl] at h
  omega
theorem kd_le (p : Nat) : kdL ch L p ≤ 38 := by
  unfold kdL
  split
  · split
    · exact wdS_le 23 0 (by omega)
    · decide
  · split
    · split <;> decide
    · split
      · decide
      · have := (sgK_le (pkC ch L p) (decide (enL ch L p - p = 2))).1
        omega
theorem mx_sp : ∀ f i, i ≤ mxF ch L f i ∧ mxF ch L f i ≤ i + f ∧ (mxF ch L f i = i + f ∨ tkK ch L (mxF ch L f i) ≤ 1) ∧ ∀ k, i ≤ k → k < mxF ch L f i → 1 < tkK ch L k
  | 0, i => ⟨Nat.le_refl _, Nat.le_refl _, Or.inl rfl, fun k h1 h2 => by
    have : mxF ch L 0 i = i := rfl
    omega⟩
  | f + 1, i => by
    rw [mxF]
    by_cases c : tkK ch L i ≤ 1
    · rw [if_pos c]
      exact ⟨Nat.le_refl _, by omega, Or.inr c, fun k h1 h2 => by omega⟩
    · rw [if_neg c]
      obtain ⟨h1, h2, h3, h4⟩ := mx_sp f (i + 1)
      refine ⟨by omega, by omega, ?_, fun k h5 h6 => ?_⟩
      · rcases h3 with q | q
        · exact Or.inl (by omega)
        · exact Or.inr q
      · by_cases z : k = i
        · rw [z]; omega
        · exact h4 k (by omega) h6
theorem tkp_le (hch : ∀ q, ch q ≠ -1) : ∀ i, (∀ k, k < i → 1 < tkK ch L k) → tkp ch L i ≤ L
  | 0, _ => ru_le _ _ (by omega)
  | i + 1, h => by
    rw [tkp]
    exact ru_le _ _ (en_le (kd_in (h i (by omega))) hch)
theorem dig_c {c : Int32} (h : srt c = 2) : ∃ d, 48 ≤ d ∧ d ≤ 57 ∧ c = nI d := by
  unfold srt at h
  by_cases c1 : 97 ≤ c ∧ c ≤ 122
  · rw [if_pos c1] at h; cases h
  rw [if_neg c1] at h
  by_cases c2 : 48 ≤ c ∧ c ≤ 57
  · have z : (0 : Int32) ≤ c := Int32.le_trans (by decide) c2.1
    obtain ⟨d, hd, rfl⟩ := nI_of (x := c) (i32_lt.mpr z)
    exact ⟨d, (nI_leI (a := 48) (by decide) hd).mp c2.1, (nI_leI (b := 57) hd (by decide)).mp c2.2, rfl⟩
  · rw [if_neg c2] at h
    split at h <;> cases h
theorem let_c {c : Int32} (h : srt c = 1) : ∃ d, 97 ≤ d ∧ d ≤ 122 ∧ c = nI d := by
  unfold srt at h
  by_cases c1 : 97 ≤ c ∧ c ≤ 122
  · have z : (0 : Int32) ≤ c := Int32.le_trans (by decide) c1.1
    obtain ⟨d, hd, rfl⟩ := nI_of (x := c) (i32_lt.mpr z)
    exact ⟨d, (nI_leI (a := 97) (by decide) hd).mp c1.1, (nI_leI (b := 122) hd (by decide)).mp c1.2, rfl⟩
  · rw [if_neg c1] at h
    repeat' split at h
    all_goals cases h
theorem nu_bd : ∀ f p v, v < 10000 → (v + 1) * 10 ^ f ≤ 10000 → ∃ w, w ≤ 9999 ∧ nuF ch L f p (nI v) = nI w
  | 0, _, v, h, _ => ⟨v, by omega, rfl⟩
  | f + 1, p, v, h, h2 => by
    rw [nuF]
    by_cases c : p < L ∧ srt (ch p) = 2
    · rw [if_pos c]
      obtain ⟨d, d1, d2, e⟩ := dig_c c.2
      have e2 : (10 : Int32) * nI v + ch p - 48 = nI (10 * v + d - 48) := by
        rw [e, show (10 : Int32) = nI 10 from rfl, pk_mul, nI_add, show (48 : Int32) = nI 48 from rfl, pk_sub (by omega)]
      rw [e2]
      have h3 : (10 * v + d - 48 + 1) * 10 ^ f ≤ (v + 1) * 10 ^ (f + 1) := by
        rw [Nat.pow_succ, Nat.mul_comm (10 ^ f) 10, ← Nat.mul_assoc]
        exact Nat.mul_le_mul_right _ (by omega)
      have h4 : 10 * v + d - 48 + 1 ≤ (10 * v + d - 48 + 1) * 10 ^ f := Nat.le_mul_of_pos_right _ (Nat.pow_pos (by decide))
      exact nu_bd f (p + 1) _ (by omega) (by omega)
    · rw [if_neg c]
      exact ⟨v, by omega, rfl⟩
theorem nm_ok : ∀ f p, (nmF ch L f p).length ≤ f ∧ ∀ c ∈ nmF ch L f p, 1 ≤ c ∧ c ≤ 26
  | 0, _ => ⟨Nat.le_refl _, fun c hc => by cases hc⟩
  | f + 1, p => by
    rw [nmF]
    by_cases c : p < L ∧ srt (ch p) = 1
    · rw [if_pos c]
      obtain ⟨i1, i2⟩ := nm_ok f (p + 1)
      refine ⟨by rw [List.length_cons]; omega, fun x hx => ?_⟩
      rw [List.mem_cons] at hx
      rcases hx with q | q
      · obtain ⟨d, d1, d2, e⟩ := let_c c.2
        rw [q, e, show (96 : Int32) = nI 96 from rfl, pk_sub (by omega), nI_clamp (by omega)]
        omega
      · exact i2 x q
    · rw [if_neg c]
      exact ⟨by simp, fun x hx => by cases hx⟩
theorem OkT_lx : OkT (tkK ch L) (tkV ch L) := by
  refine ⟨fun i => kd_le _, fun i _ => ?_⟩
  obtain ⟨w, h1, h2⟩ := nu_bd (ch := ch) (L := L) 4 (tkp ch L i) 0 (by decide) (by decide)
  exact ⟨w, h1, h2⟩
theorem okN_lx {i : Nat} (h : tkK ch L i = 3) : okN (tkN ch L i) := by
  obtain ⟨h1, h2⟩ := nm_ok (ch := ch) (L := L) 8 (tkp ch L i)
  refine ⟨?_, h1, h2⟩
  have hk : srt (pkC ch L (tkp ch L i)) = 1 := by
    unfold tkK kdL at h
    by_cases c : srt (pkC ch L (tkp ch L i)) = 1
    · exact c
    · rw [if_neg c] at h
      by_cases c2 : srt (pkC ch L (tkp ch L i)) = 2
      · rw [if_pos c2] at h
        split at h <;> cases h
      · rw [if_neg c2] at h
        by_cases c3 : pkC ch L (tkp ch L i) = -1
        · rw [if_pos c3] at h; cases h
        · rw [if_neg c3] at h
          exact absurd h (sgK_le _ _).2.2.1
  have hp : tkp ch L i < L := kd_in (ch := ch) (by unfold tkK at h; omega)
  unfold pkC at hk
  rw [if_pos hp] at hk
  unfold tkN
  rw [nmF, if_pos ⟨hp, hk⟩, List.length_cons]
  omega
end LZ
