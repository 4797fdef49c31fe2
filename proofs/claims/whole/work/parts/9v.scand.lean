/-! read: the class's tokens. -/
def chT (τ : St) (p : Nat) : Int32 := gv τ 24 p &&& 255
theorem and255 (x : Int32) : x &&& 255 ≠ -1 := by
  intro h
  have h2 := congrArg (fun z => z &&& (256 : Int32)) h
  have h3 : (x &&& 255) &&& 256 = 0 := by
    rw [Int32.and_assoc, show (255 : Int32) &&& 256 = 0 by decide, Int32.and_zero]
  rw [h3] at h2
  exact absurd h2 (by decide)
def xTo (a _j : Nat) : Bool := a == 25 || a == 26 || a == 204
section SC
variable {τ : St} {L : Nat} {Q : Int32 → St → Prop}
theorem peekD {p : Nat} (eL : gv τ 6 0 = nI L) (hL : L ≤ 2000) (hp : p < 2 ^ 30) (hQ : Q (pkC (chT τ) L p) τ) : wX8_peek (nI p) τ Q := by
  unfold pkC at hQ
  rw [wX8_peek, eL, nI_clamp (by omega)]
  refine ⟨fun c => absurd c (nI_pos (by omega)), fun _ => ⟨fun c => ?_, fun c => ?_⟩⟩
  · have := (nI_leI (by omega) (by omega)).mp c
    rwa [if_neg (by omega)] at hQ
  · have : p < L := Nat.not_le.mp (fun q => c (nI_le q (by omega)))
    rw [if_pos this] at hQ
    exact ⟨vp_in_nI (by omega) (by decide), hQ⟩
theorem sortD {c : Int32} (hQ : Q (nI (srt c)) τ) : wX9_sortOf c τ Q := by
  unfold srt at hQ
  have s28 : ¬ (97 ≤ c ∧ c ≤ 122) → ¬ (48 ≤ c ∧ c ≤ 57) → wX9_sortOf_28 Q c τ := by
    intro h1 h2
    rw [if_neg h1, if_neg h2] at hQ
    refine ⟨fun e => ?_, fun e1 => ⟨fun e => ?_, fun e2 => ⟨fun e => ?_, fun e3 => ⟨fun e => ?_, fun e4 => ?_⟩⟩⟩⟩
    · rw [if_pos (Or.inl e)] at hQ; exact hQ
    · rw [if_pos (Or.inr (Or.inl e))] at hQ; exact hQ
    · rw [if_pos (Or.inr (Or.inr (Or.inl e)))] at hQ; exact hQ
    · rw [if_pos (Or.inr (Or.inr (Or.inr e)))] at hQ; exact hQ
    · have hne : ¬ (c = 9 ∨ c = 10 ∨ c = 13 ∨ c = 32) := fun q => by
        rcases q with q | q | q | q
        · exact e1 q
        · exact e2 q
        · exact e3 q
        · exact e4 q
      rw [if_neg hne] at hQ
      exact hQ
  have s14 : ¬ (97 ≤ c ∧ c ≤ 122) → wX9_sortOf_14 Q c τ := by
    intro h1
    refine ⟨fun d => s28 h1 (fun q => absurd d (i32_lt.mpr q.1)), fun d => ⟨fun e => s28 h1 (fun q => absurd e (i32_lt.mpr q.2)), fun e => ?_⟩⟩
    rw [if_neg h1, if_pos ⟨i32_lt.mp d, i32_lt.mp e⟩] at hQ
    exact hQ
  refine ⟨fun d => s14 (fun q => absurd d (i32_lt.mpr q.1)), fun d => ⟨fun e => s14 (fun q => absurd e (i32_lt.mpr q.2)), fun e => ?_⟩⟩
  rw [if_pos ⟨i32_lt.mp d, i32_lt.mp e⟩] at hQ
  exact hQ
theorem srt_le (c : Int32) : srt c ≤ 3 := by
  unfold srt
  repeat' split
  all_goals decide
theorem runD (eL : gv τ 6 0 = nI L) (hL : L ≤ 2000) {s : Nat} (hs : s ≤ 3) : ∀ (f p : Nat), p + f = L ∨ (f = 0 ∧ L ≤ p) → p < 2 ^ 29 → (Q (nI (ruN (chT τ) L s f p)) τ) → wX9_endOf_71 Q (f + 1) (nI s) (nI p) τ := by
  intro f
  induction f with
  | zero =>
    intro p hp hp2 hQ
    rw [wX9_endOf_71, eL]
    exact ⟨fun _ => hQ, fun c => absurd (nI_le (by omega) (by omega)) c⟩
  | succ f ih =>
    intro p hp hp2 hQ
    rw [wX9_endOf_71, eL]
    rw [ruN] at hQ
    have hpL : p < L := by omega
    refine ⟨fun c => absurd c (nI_ge (by omega) (by omega)), fun _ => peekD eL hL (by omega) (sortD ⟨fun c => ?_, fun c => ?_⟩)⟩
    · have hsr : srt (pkC (chT τ) L p) ≤ 3 := srt_le _
      have e := (nI_eq (by omega) (by omega)).mp c
      unfold pkC at e
      rw [if_pos hpL] at e
      rw [if_pos ⟨hpL, e⟩] at hQ
      rintro x4 rfl
      rw [nI_1]
      exact ih (p + 1) (by omega) (by omega) hQ
    · have e : ¬ srt (chT τ p) = s := fun e => c (by unfold pkC; rw [if_pos hpL, e])
      rw [if_neg (fun q => e q.2)] at hQ
      exact hQ
theorem endD' (eL : gv τ 6 0 = nI L) (hL : L ≤ 2000) {p : Nat} (hp : p ≤ L) (hQ : Q (nI (enL (chT τ) L p)) τ) : wX9_endOf (nI p) τ Q := by
  have hs := srt_le (pkC (chT τ) L p)
  refine peekD eL hL (by omega) (sortD ?_)
  rintro x4 rfl
  rw [nI_1]
  unfold enL at hQ
  refine ⟨fun c => ?_, fun c => ?_⟩
  · have e0 : srt (pkC (chT τ) L p) = 0 := (nI_eq (b := 0) (by omega) (by decide)).mp c
    rw [if_pos e0] at hQ
    have one : ¬ ((pkC (chT τ) L p = 61 ∨ pkC (chT τ) L p = 33 ∨ pkC (chT τ) L p = 60) ∧ pkC (chT τ) L (p + 1) = 61) → wX9_endOf_53 Q (nI (p + 1)) τ := by
      intro h
      rw [if_neg h] at hQ
      exact ⟨fun _ => hQ, fun c => absurd rfl c⟩
    have two : (pkC (chT τ) L p = 61 ∨ pkC (chT τ) L p = 33 ∨ pkC (chT τ) L p = 60) → wX9_endOf_38 Q (nI (p + 1)) τ := by
      intro h
      refine peekD eL hL (by omega) ⟨fun d => ⟨fun c => absurd c z10, fun _ => ?_⟩, fun d => one (fun q => d q.2)⟩
      rw [if_pos ⟨h, d⟩] at hQ
      rw [nI_1]
      exact hQ
    refine ⟨fun d => two (Or.inl d), fun d1 => ⟨fun d => two (Or.inr (Or.inl d)), fun d2 => ⟨fun d => two (Or.inr (Or.inr d)), fun d3 => one (fun q => ?_)⟩⟩⟩
    rcases q.1 with z | z | z
    · exact d1 z
    · exact d2 z
    · exact d3 z
  · have e0 : ¬ srt (pkC (chT τ) L p) = 0 := fun e => c (by rw [e]; rfl)
    rw [if_neg e0] at hQ
    refine ⟨_, runD eL hL hs (L - (p + 1)) (p + 1) ?_ (by omega) hQ⟩
    by_cases z : p + 1 ≤ L
    · exact Or.inl (by omega)
    · exact Or.inr ⟨by omega, by omega⟩
theorem signD {c : Int32} {two : Bool} (hQ : Q (nI (sgK c two)) τ) : wX9_signKind c (b01 two) τ Q := by
  unfold sgK at hQ
  unfold wX9_signKind
  by_cases h1 : c = 33
  · rw [if_pos h1] at hQ
    refine ⟨fun _ => ?_, fun q => absurd h1 q⟩
    cases two with
    | false => exact ⟨fun _ => hQ, fun q => absurd rfl q⟩
    | true => exact ⟨fun q => absurd q z10, fun _ => hQ⟩
  rw [if_neg h1] at hQ
  refine ⟨fun q => absurd q h1, fun _ => ?_⟩
  by_cases h2 : c = 40
  · rw [if_pos h2] at hQ; exact ⟨fun _ => hQ, fun q => absurd h2 q⟩
  rw [if_neg h2] at hQ
  refine ⟨fun q => absurd q h2, fun _ => ?_⟩
  by_cases h3 : c = 41
  · rw [if_pos h3] at hQ; exact ⟨fun _ => hQ, fun q => absurd h3 q⟩
  rw [if_neg h3] at hQ
  refine ⟨fun q => absurd q h3, fun _ => ?_⟩
  by_cases h4 : c = 42
  · rw [if_pos h4] at hQ; exact ⟨fun _ => hQ, fun q => absurd h4 q⟩
  rw [if_neg h4] at hQ
  refine ⟨fun q => absurd q h4, fun _ => ?_⟩
  by_cases h5 : c = 43
  · rw [if_pos h5] at hQ; exact ⟨fun _ => hQ, fun q => absurd h5 q⟩
  rw [if_neg h5] at hQ
  refine ⟨fun q => absurd q h5, fun _ => ?_⟩
  by_cases h6 : c = 45
  · rw [if_pos h6] at hQ; exact ⟨fun _ => hQ, fun q => absurd h6 q⟩
  rw [if_neg h6] at hQ
  refine ⟨fun q => absurd q h6, fun _ => ?_⟩
  by_cases h7 : c = 58
  · rw [if_pos h7] at hQ; exact ⟨fun _ => hQ, fun q => absurd h7 q⟩
  rw [if_neg h7] at hQ
  refine ⟨fun q => absurd q h7, fun _ => ?_⟩
  by_cases h8 : c = 59
  · rw [if_pos h8] at hQ; exact ⟨fun _ => hQ, fun q => absurd h8 q⟩
  rw [if_neg h8] at hQ
  refine ⟨fun q => absurd q h8, fun _ => ?_⟩
  by_cases h9 : c = 60
  · rw [if_pos h9] at hQ
    refine ⟨fun _ => ?_, fun q => absurd h9 q⟩
    cases two with
    | false => exact ⟨fun _ => hQ, fun q => absurd rfl q⟩
    | true => exact ⟨fun q => absurd q z10, fun _ => hQ⟩
  rw [if_neg h9] at hQ
  refine ⟨fun q => absurd q h9, fun _ => ?_⟩
  by_cases h10 : c = 61
  · rw [if_pos h10] at hQ
    refine ⟨fun _ => ?_, fun q => absurd h10 q⟩
    cases two with
    | false => exact ⟨fun _ => hQ, fun q => absurd rfl q⟩
    | true => exact ⟨fun q => absurd q z10, fun _ => hQ⟩
  rw [if_neg h10] at hQ
  exact ⟨fun q => absurd q h10, fun _ => hQ⟩
end SC
/-- a word in eight columns -/
def coL (l : List Nat) (j : Nat) : Int32 := match l[j]? with | some x => nI (96 + x) | none => 32
theorem wch_co : ∀ w, w < 23 → ∀ j, j < 8 → wch (8 * w + j) = coL (KwD.getD w []) j := by decide +kernel
theorem coL_inj {l m : List Nat} (hl : l.length ≤ 8) (hm : m.length ≤ 8) (h1 : ∀ c ∈ l, 1 ≤ c ∧ c ≤ 26) (h2 : ∀ c ∈ m, 1 ≤ c ∧ c ≤ 26) (h : ∀ j, j < 8 → coL l j = coL m j) : l = m := by
  refine List.ext_getElem? (fun j => ?_)
  by_cases hj : j < 8
  · have e := h j hj
    unfold coL at e
    rcases q1 : l[j]? with _ | x <;> rcases q2 : m[j]? with _ | y
    · rfl
    · rw [q1, q2] at e
      have := h2 y (List.mem_of_getElem? q2)
      have := (nI_eq (a := 32) (by decide) (by omega)).mp e
      omega
    · rw [q1, q2] at e
      have := h1 x (List.mem_of_getElem? q1)
      have := (nI_eq (b := 32) (by omega) (by decide)).mp e
      omega
    · rw [q1, q2] at e
      have := h1 x (List.mem_of_getElem? q1)
      have := h2 y (List.mem_of_getElem? q2)
      have := (nI_eq (by omega) (by omega)).mp e
      rw [show x = y by omega]
  · rw [List.getElem?_eq_none (by omega), List.getElem?_eq_none (by omega)]
