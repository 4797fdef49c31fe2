/-! read: the grammar over tokens. -/
/-- a fault and its token, or the token behind and what was read -/
abbrev Rs (α : Type) : Type := (Nat × Nat) ⊕ (Nat × α)
abbrev Rs.no {α : Type} (f i : Nat) : Rs α := Sum.inl (f, i)
abbrev Rs.ok {α : Type} (i : Nat) (a : α) : Rs α := Sum.inr (i, a)
def Rs.bd {α β : Type} (x : Rs α) (g : Nat → α → Rs β) : Rs β := Sum.elim (fun p => Sum.inl p) (fun q => g q.1 q.2) x
theorem bd_ok {α β : Type} {x : Rs α} {g : Nat → α → Rs β} {j : Nat} {b : β} (h : x.bd g = .ok j b) : ∃ i a, x = .ok i a ∧ g i a = .ok j b := by
  rcases x with ⟨f, i⟩ | ⟨i, a⟩
  · cases h
  · exact ⟨i, a, rfl, h⟩
section PG
variable (K : Nat → Nat) (V : Nat → Int32) (NM : Nat → List Nat)
def tkP (k i : Nat) : Rs Unit := if K i = k then (if i < 600 then .ok (i + 1) () else .no 2 i) else .no 1 i
def unP (S : Nat → Rs Ex) (dp i : Nat) : Rs Ex :=
  if K i = 2 then (tkP K 2 i).bd fun j _ => .ok j [V i]
  else if 27 ≤ K i then (tkP K (K i) i).bd fun j _ => .ok j [-(nI (K i))]
  else if K i = 6 ∧ 8 ≤ dp then .no 2 i
  else (tkP K 6 i).bd fun j _ => (S j).bd fun k E => (tkP K 7 k).bd fun l _ => .ok l E
def prL (S : Nat → Rs Ex) (dp : Nat) : Nat → Nat → Rs Ex
  | 0, i => .ok i []
  | f + 1, i => if K i = 10 then (tkP K 10 i).bd fun j _ => (unP K V S dp j).bd fun k E => (prL S dp f k).bd fun l T => .ok l (E ++ [-10] ++ T) else .ok i []
def prP (S : Nat → Rs Ex) (dp i : Nat) : Rs Ex := (unP K V S dp i).bd fun j E => (prL K V S dp 600 j).bd fun k T => .ok k (E ++ T)
def smL (S : Nat → Rs Ex) (dp : Nat) : Nat → Nat → Rs Ex
  | 0, i => .ok i []
  | f + 1, i => if K i = 8 ∨ K i = 9 then (tkP K (K i) i).bd fun j _ => (prP K V S dp j).bd fun k E => (smL S dp f k).bd fun l T => .ok l (E ++ [-(nI (K i))] ++ T) else .ok i []
def smP (S : Nat → Rs Ex) (dp i : Nat) : Rs Ex :=
  if K i = 9 then (tkP K 9 i).bd fun j _ => (prP K V S dp j).bd fun k E => (smL K V S dp 600 k).bd fun l T => .ok l (E ++ [-15] ++ T)
  else (prP K V S dp i).bd fun k E => (smL K V S dp 600 k).bd fun l T => .ok l (E ++ T)
def smN : Nat → Nat → Nat → Rs Ex
  | 0, _, _ => .no 0 0
  | d + 1, dp, i => smP K V (smN d (dp + 1)) dp i
def rlP (i : Nat) : Rs (Ex × Nat × Ex) := (smN K V 10 0 i).bd fun j L => if K j < 11 ∨ 14 < K j then .no 1 j else (tkP K (K j) j).bd fun k _ => (smN K V 10 0 k).bd fun l R => .ok l (L, K j - 11, R)
def cdL : Nat → Nat → Rs (List Rl)
  | 0, i => .ok i []
  | f + 1, i => if K i = 26 ∨ K i = 25 then (tkP K (K i) i).bd fun j _ => (rlP K V j).bd fun k r => (cdL f k).bd fun l T => .ok l ((decide (K i = 25), r) :: T) else .ok i []
def cdP (i : Nat) : Rs (List Rl) := (rlP K V i).bd fun j r => (cdL K V 600 j).bd fun k T => .ok k ((true, r) :: T)
abbrev Lt : Type := Option (Nat × Nat)
def ntP (lt : Lt) (k j : Nat) : Lt := match lt with | some x => some x | none => some (k, j)
def whP (i : Nat) (lt : Lt) : Rs (Int32 × Lt) := if K i = 24 then (tkP K 24 i).bd fun j _ => .ok j (-1, lt) else (tkP K 23 i).bd fun j _ => (tkP K 2 j).bd fun k _ => .ok k (V j, if V j < 7 then lt else ntP lt 5 j)
/-- what a rule tells, but for its 'if' -/
def tlP (a : Nat) (fr un w : Int32) (j : Nat) : Rs Ru :=
  if K j = 22 then (tkP K 22 j).bd fun k _ => (smN K V 10 0 k).bd fun l E => .ok l (true, w, a, fr, un, E, [], [])
  else (tkP K 20 j).bd fun k _ => (cdP K V k).bd fun l cs => .ok l (false, w, a, fr, un, [], cs, [])
def ifP (l : Nat) : Rs (List Rl) := if K l = 21 then (tkP K 21 l).bd fun k _ => cdP K V k else .ok l []
def ruP (a : Nat) (fr un : Int32) (nr i : Nat) (lt : Lt) : Rs (Ru × Lt) :=
  if 30 ≤ nr then .no 2 i else (whP K V i lt).bd fun j w => (tlP K V a fr un w.1 j).bd fun l r => (ifP K V l).bd fun k ifs => (tkP K 4 k).bd fun z _ => .ok z ((r.1, r.2.1, r.2.2.1, r.2.2.2.1, r.2.2.2.2.1, r.2.2.2.2.2.1, r.2.2.2.2.2.2.1, ifs), w.2)
def rsP (a : Nat) (fr un : Int32) : Nat → Nat → Nat → Lt → Rs (List Ru × Lt)
  | 0, _, i, lt => .ok i ([], lt)
  | f + 1, nr, i, lt => if K i = 23 ∨ K i = 24 then (ruP K V a fr un nr i lt).bd fun j x => (rsP a fr un f (nr + 1) j x.2).bd fun k y => .ok k (x.1 :: y.1, y.2) else .ok i ([], lt)
/-- behind an act's name, at the day from which -/
def fuP (nm : List Nat) (l : Nat) (lt : Lt) : Rs ((List Nat × Int32 × Int32) × Lt) := (tkP K 2 l).bd fun m _ => if K m = 18 then (tkP K 18 m).bd fun p _ => (tkP K 2 p).bd fun q _ => (tkP K 4 q).bd fun z _ => .ok z ((nm, V l, V p), if V l < V p then lt else ntP lt 5 p) else (tkP K 4 m).bd fun z _ => .ok z ((nm, V l, -1), lt)
def hdP (nms : List (List Nat)) (i : Nat) (lt : Lt) : Rs ((List Nat × Int32 × Int32) × Lt) :=
  if 10 ≤ nms.length then .no 2 i else (tkP K 16 i).bd fun j _ => (tkP K 3 j).bd fun k _ => (tkP K 17 k).bd fun l _ => fuP K V (NM j) l (if NM j ∈ nms then ntP lt 3 j else lt)
def txP : Nat → List (List Nat) → Nat → Nat → Lt → Rs (List (List Nat × Int32 × Int32) × List Ru × Lt)
  | 0, _, _, i, lt => if K i = 0 then .ok i ([], [], lt) else .no 1 i
  | f + 1, nms, nr, i, lt => if K i = 16 then (hdP K V NM nms i lt).bd fun j h => (rsP K V nms.length h.1.2.1 h.1.2.2 31 nr j h.2).bd fun k x => (tkP K 19 k).bd fun l _ => (txP f (nms ++ [h.1.1]) (nr + x.1.length) l x.2).bd fun z y => .ok z (h.1 :: y.1, x.1 ++ y.2.1, y.2.2) else if K i = 0 then .ok i ([], [], lt) else .no 1 i
end PG
section PF
variable {K : Nat → Nat} {V : Nat → Int32} {NM : Nat → List Nat}
theorem tk_ok {k i j : Nat} {u : Unit} (h : tkP K k i = .ok j u) : K i = k ∧ i < 600 ∧ j = i + 1 := by
  unfold tkP at h
  by_cases c : K i = k
  · rw [if_pos c] at h
    by_cases c2 : i < 600
    · rw [if_pos c2] at h
      cases h
      exact ⟨c, c2, rfl⟩
    · rw [if_neg c2] at h
      cases h
  · rw [if_neg c] at h
    cases h
/-- tokens: ints up to 9999, at most 38 kinds -/
def OkT (K : Nat → Nat) (V : Nat → Int32) : Prop := (∀ i, K i ≤ 38) ∧ ∀ i, K i = 2 → ∃ v, v ≤ 9999 ∧ V i = nI v
def GdR (h i : Nat) (x : Rs Ex) : Prop := ∀ j E, x = .ok j E → i < j ∧ j ≤ 600 ∧ E.length + i ≤ j ∧ wfx h E 0 1 ∧ ∀ c ∈ E, gdE c
def GdT (h i : Nat) (x : Rs Ex) : Prop := ∀ j T, x = .ok j T → i ≤ j ∧ (i ≤ 600 → j ≤ 600) ∧ T.length + i ≤ j ∧ wfx h T 1 1 ∧ ∀ c ∈ T, gdE c
theorem var_gd {k : Nat} (h1 : 27 ≤ k) (h2 : k ≤ 38) : gdE (-(nI k)) ∧ psh (-(nI k)) = true := by
  rcases (show k = 27 ∨ k = 28 ∨ k = 29 ∨ k = 30 ∨ k = 31 ∨ k = 32 ∨ k = 33 ∨ k = 34 ∨ k = 35 ∨ k = 36 ∨ k = 37 ∨ k = 38 by omega) with rfl | rfl | rfl | rfl | rfl | rfl | rfl | rfl | rfl | rfl | rfl | rfl <;> exact ⟨Or.inr (Or.inl (by decide)), by decide⟩
theorem int_gd {v : Nat} (h : v ≤ 9999) : gdE (nI v) ∧ psh (nI v) = true := by
  have h0 : (0 : Int32) ≤ nI v := nI_nn (by omega)
  exact ⟨Or.inl ⟨h0, nI_le (b := 9999) h (by decide)⟩, by unfold psh; rw [decide_eq_true h0]; rfl⟩
theorem wfx_one {h d : Nat} {c : Int32} (hp : psh c = true) (hd : d < h) : wfx h [c] d (d + 1) := by
  rw [wfx, if_pos hp]
  exact ⟨hd, rfl⟩
theorem wfx_op {h : Nat} {c : Int32} (hp : psh c = false) (hc : c ≠ -15) : wfx h [c] 2 1 := by
  rw [wfx, if_neg (by rw [hp]; decide), if_neg hc]
  exact ⟨by decide, rfl⟩
theorem wfx_ng {h : Nat} : wfx h [-15] 1 1 := by
  rw [wfx, if_neg (by decide), if_pos rfl]
  exact ⟨by decide, rfl⟩
theorem un_gd (hT : OkT K V) {S : Nat → Rs Ex} {dp i : Nat} (hd : dp ≤ 8) (hS : dp < 8 → ∀ i, GdR (17 - 2 * dp) i (S i)) : GdR (17 - 2 * dp) i (unP K V S dp i) := by
  intro j E h
  unfold unP at h
  by_cases c1 : K i = 2
  · rw [if_pos c1] at h
    obtain ⟨i1, _, h1, h2⟩ := bd_ok h
    cases h2
    obtain ⟨_, q2, q3⟩ := tk_ok h1
    obtain ⟨v, hv, ev⟩ := hT.2 i c1
    rw [ev]
    refine ⟨by omega, by omega, by simp; omega, wfx_one (int_gd hv).2 (by omega), fun c hc => ?_⟩
    rw [List.mem_singleton] at hc
    rw [hc]
    exact (int_gd hv).1
  rw [if_neg c1] at h
  by_cases c2 : 27 ≤ K i
  · rw [if_pos c2] at h
    obtain ⟨i1, _, h1, h2⟩ := bd_ok h
    cases h2
    obtain ⟨_, q2, q3⟩ := tk_ok h1
    refine ⟨by omega, by omega, by simp; omega, wfx_one (var_gd c2 (hT.1 i)).2 (by omega), fun c hc => ?_⟩
    rw [List.mem_singleton] at hc
    rw [hc]
    exact (var_gd c2 (hT.1 i)).1
  rw [if_neg c2] at h
  by_cases c3 : K i = 6 ∧ 8 ≤ dp
  · rw [if_pos c3] at h
    cases h
  rw [if_neg c3] at h
  obtain ⟨i1, _, h1, h2⟩ := bd_ok h
  obtain ⟨k, E', h3, h4⟩ := bd_ok h2
  obtain ⟨l, _, h5, h6⟩ := bd_ok h4
  cases h6
  obtain ⟨q1, q2, q3⟩ := tk_ok h1
  obtain ⟨r1, r2, r3⟩ := tk_ok h5
  obtain ⟨s1, s2, s3, s4, s5⟩ := hS (by omega) i1 k E h3
  exact ⟨by omega, by omega, by omega, s4, s5⟩
theorem op_gd {k : Nat} (h : k = 8 ∨ k = 9 ∨ k = 10) : gdE (-(nI k)) ∧ psh (-(nI k)) = false ∧ -(nI k) ≠ -15 := by
  rcases h with rfl | rfl | rfl
  · exact ⟨Or.inr (Or.inr (Or.inl (by decide))), by decide, by decide⟩
  · exact ⟨Or.inr (Or.inr (Or.inr (Or.inl (by decide)))), by decide, by decide⟩
  · exact ⟨Or.inr (Or.inr (Or.inr (Or.inr (Or.inl (by decide))))), by decide, by decide⟩
theorem app_gd {E T : Ex} {c : Int32} (h1 : ∀ x ∈ E, gdE x) (h2 : gdE c) (h3 : ∀ x ∈ T, gdE x) : ∀ x ∈ E ++ [c] ++ T, gdE x := by
  intro x hx
  rw [List.mem_append, List.mem_append, List.mem_singleton] at hx
  rcases hx with (hx | hx) | hx
  · exact h1 x hx
  · rw [hx]; exact h2
  · exact h3 x hx
theorem app_gd2 {E T : Ex} (h1 : ∀ x ∈ E, gdE x) (h3 : ∀ x ∈ T, gdE x) : ∀ x ∈ E ++ T, gdE x := by
  intro x hx
  rw [List.mem_append] at hx
  rcases hx with hx | hx
  · exact h1 x hx
  · exact h3 x hx
theorem prL_gd {S : Nat → Rs Ex} {dp : Nat} (hd : dp ≤ 8) (hU : ∀ i, GdR (17 - 2 * dp) i (unP K V S dp i)) : ∀ f i, GdT (18 - 2 * dp) i (prL K V S dp f i)
  | 0, i => fun j T h => by cases h; exact ⟨by omega, fun q => q, by simp, rfl, by simp⟩
  | f + 1, i => fun j T h => by
    rw [prL] at h
    by_cases c : K i = 10
    · rw [if_pos c] at h
      obtain ⟨i1, _, h1, h2⟩ := bd_ok h
      obtain ⟨k, E, h3, h4⟩ := bd_ok h2
      obtain ⟨l, T', h5, h6⟩ := bd_ok h4
      cases h6
      obtain ⟨q1, q2, q3⟩ := tk_ok h1
      obtain ⟨s1, s2, s3, s4, s5⟩ := hU i1 k E h3
      obtain ⟨t1, t2, t3, t4, t5⟩ := prL_gd hd hU f k j T' h5
      have w1 : wfx (18 - 2 * dp) E 1 2 := by
        have := wfx_shift 1 s4
        rwa [show 17 - 2 * dp + 1 = 18 - 2 * dp by omega] at this
      refine ⟨by omega, fun _ => t2 s2, by simp; omega, wfx_app (wfx_app w1 (wfx_op (by decide) (by decide))) t4, app_gd s5 (op_gd (k := 10) (by omega)).1 t5⟩
    · rw [if_neg c] at h
      cases h
      exact ⟨by omega, fun q => q, by simp, rfl, by simp⟩
theorem prP_gd {S : Nat → Rs Ex} {dp : Nat} (hd : dp ≤ 8) (hU : ∀ i, GdR (17 - 2 * dp) i (unP K V S dp i)) (i : Nat) : GdR (18 - 2 * dp) i (prP K V S dp i) := by
  intro j E h
  unfold prP at h
  obtain ⟨i1, E1, h1, h2⟩ := bd_ok h
  obtain ⟨k, T, h3, h4⟩ := bd_ok h2
  cases h4
  obtain ⟨s1, s2, s3, s4, s5⟩ := hU i i1 E1 h1
  obtain ⟨t1, t2, t3, t4, t5⟩ := prL_gd hd hU 600 i1 j T h3
  exact ⟨by omega, t2 s2, by simp; omega, wfx_app (wfx_mono (by omega) s4) t4, app_gd2 s5 t5⟩
theorem smL_gd {S : Nat → Rs Ex} {dp : Nat} (hd : dp ≤ 8) (hP : ∀ i, GdR (18 - 2 * dp) i (prP K V S dp i)) : ∀ f i, GdT (19 - 2 * dp) i (smL K V S dp f i)
  | 0, i => fun j T h => by cases h; exact ⟨by omega, fun q => q, by simp, rfl, by simp⟩
  | f + 1, i => fun j T h => by
    rw [smL] at h
    by_cases c : K i = 8 ∨ K i = 9
    · rw [if_pos c] at h
      obtain ⟨i1, _, h1, h2⟩ := bd_ok h
      obtain ⟨k, E, h3, h4⟩ := bd_ok h2
      obtain ⟨l, T', h5, h6⟩ := bd_ok h4
      cases h6
      obtain ⟨q1, q2, q3⟩ := tk_ok h1
      obtain ⟨s1, s2, s3, s4, s5⟩ := hP i1 k E h3
      obtain ⟨t1, t2, t3, t4, t5⟩ := smL_gd hd hP f k j T' h5
      have w1 : wfx (19 - 2 * dp) E 1 2 := by
        have := wfx_shift 1 s4
        rwa [show 18 - 2 * dp + 1 = 19 - 2 * dp by omega] at this
      have o := op_gd (k := K i) (by omega)
      refine ⟨by omega, fun _ => t2 s2, by simp; omega, wfx_app (wfx_app w1 (wfx_op o.2.1 o.2.2)) t4, app_gd s5 o.1 t5⟩
    · rw [if_neg c] at h
      cases h
      exact ⟨by omega, fun q => q, by simp, rfl, by simp⟩
theorem smP_gd {S : Nat → Rs Ex} {dp : Nat} (hd : dp ≤ 8) (hP : ∀ i, GdR (18 - 2 * dp) i (prP K V S dp i)) (i : Nat) : GdR (19 - 2 * dp) i (smP K V S dp i) := by
  intro j E h
  unfold smP at h
  by_cases c : K i = 9
  · rw [if_pos c] at h
    obtain ⟨i1, _, h1, h2⟩ := bd_ok h
    obtain ⟨k, E1, h3, h4⟩ := bd_ok h2
    obtain ⟨l, T, h5, h6⟩ := bd_ok h4
    cases h6
    obtain ⟨q1, q2, q3⟩ := tk_ok h1
    obtain ⟨s1, s2, s3, s4, s5⟩ := hP i1 k E1 h3
    obtain ⟨t1, t2, t3, t4, t5⟩ := smL_gd hd hP 600 k j T h5
    exact ⟨by omega, t2 s2, by simp; omega, wfx_app (wfx_app (wfx_mono (by omega) s4) wfx_ng) t4, app_gd s5 (Or.inr (Or.inr (Or.inr (Or.inr (Or.inr rfl))))) t5⟩
  · rw [if_neg c] at h
    obtain ⟨k, E1, h3, h4⟩ := bd_ok h
    obtain ⟨l, T, h5, h6⟩ := bd_ok h4
    cases h6
    obtain ⟨s1, s2, s3, s4, s5⟩ := hP i k E1 h3
    obtain ⟨t1, t2, t3, t4, t5⟩ := smL_gd hd hP 600 k j T h5
    exact ⟨by omega, t2 s2, by simp; omega, wfx_app (wfx_mono (by omega) s4) t4, app_gd2 s5 t5⟩
theorem smN_gd (hT : OkT K V) : ∀ d dp, dp ≤ 8 → 9 ≤ dp + d → ∀ i, GdR (19 - 2 * dp) i (smN K V d dp i)
  | 0, dp, h1, h2, _ => absurd h2 (by omega)
  | d + 1, dp, h1, h2, i => by
    have hU : ∀ i, GdR (17 - 2 * dp) i (unP K V (smN K V d (dp + 1)) dp i) := fun i => un_gd hT h1 (fun q i' => by
      have := smN_gd hT d (dp + 1) (by omega) (by omega) i'
      rwa [show 19 - 2 * (dp + 1) = 17 - 2 * dp by omega] at this)
    exact smP_gd h1 (fun i => prP_gd h1 hU i) i
theorem sm_ok (hT : OkT K V) {i j : Nat} {E : Ex} (h : smN K V 10 0 i = .ok j E) : i < j ∧ j ≤ 600 ∧ E.length + i ≤ j ∧ okE E := by
  obtain ⟨a, b, c, d, e⟩ := smN_gd hT 10 0 (by omega) (by omega) i j E h
  exact ⟨a, b, c, d, e⟩
theorem rl_ok (hT : OkT K V) {i j : Nat} {r : Ex × Nat × Ex} (h : rlP K V i = .ok j r) : i < j ∧ j ≤ 600 ∧ r.1.length + r.2.2.length + 1 + i ≤ j ∧ okE r.1 ∧ r.2.1 ≤ 3 ∧ okE r.2.2 := by
  unfold rlP at h
  obtain ⟨i1, L, h1, h2⟩ := bd_ok h
  by_cases c : K i1 < 11 ∨ 14 < K i1
  · rw [if_pos c] at h2
    cases h2
  rw [if_neg c] at h2
  obtain ⟨k, _, h3, h4⟩ := bd_ok h2
  obtain ⟨l, R, h5, h6⟩ := bd_ok h4
  cases h6
  obtain ⟨q1, q2, q3⟩ := tk_ok h3
  obtain ⟨a1, a2, a3, a4⟩ := sm_ok hT h1
  obtain ⟨b1, b2, b3, b4⟩ := sm_ok hT h5
  exact ⟨by omega, by omega, by show L.length + R.length + 1 + i ≤ j; omega, a4, by show K i1 - 11 ≤ 3; omega, b4⟩
/-- how much code a condition is, and how many of its parts -/
theorem cdL_ok (hT : OkT K V) : ∀ f i j cs, cdL K V f i = .ok j cs → i ≤ j ∧ (i ≤ 600 → j ≤ 600) ∧ cs.length + i ≤ j ∧ (∀ r ∈ cs, okR r) ∧ ∀ w, (cdT w cs).length + i ≤ j + (if w then 1 else 0)
  | 0, i, j, cs, h => by
    cases h
    refine ⟨by omega, fun q => q, by simp, by simp, fun w => ?_⟩
    cases w <;> simp [cdT]; omega
  | f + 1, i, j, cs, h => by
    rw [cdL] at h
    by_cases c : K i = 26 ∨ K i = 25
    · rw [if_pos c] at h
      obtain ⟨i1, _, h1, h2⟩ := bd_ok h
      obtain ⟨k, r, h3, h4⟩ := bd_ok h2
      obtain ⟨l, T, h5, h6⟩ := bd_ok h4
      cases h6
      obtain ⟨q1, q2, q3⟩ := tk_ok h1
      obtain ⟨a1, a2, a3, a4, a5, a6⟩ := rl_ok hT h3
      obtain ⟨b1, b2, b3, b4, b5⟩ := cdL_ok hT f k j T h5
      refine ⟨by omega, fun _ => b2 a2, by simp; omega, fun x hx => ?_, fun w => ?_⟩
      · rw [List.mem_cons] at hx
        rcases hx with rfl | hx
        · exact ⟨a4, a5, a6⟩
        · exact b4 x hx
      · obtain ⟨L, s, R⟩ := r
        dsimp only at a3
        have t1 := b5 true
        have t2 := b5 w
        simp only [if_true] at t1
        cases hb : decide (K i = 25) <;> cases w <;> simp [cdT, rlX] at t1 t2 ⊢ <;> omega
    · rw [if_neg c] at h
      cases h
      refine ⟨by omega, fun q => q, by simp, by simp, fun w => ?_⟩
      cases w <;> simp [cdT]; omega
theorem cd_ok (hT : OkT K V) {i j : Nat} {cs : List Rl} (h : cdP K V i = .ok j cs) : i < j ∧ j ≤ 600 ∧ cs.length + i ≤ j ∧ okC cs ∧ cs ≠ [] ∧ (cdX cs).length + i ≤ j := by
  unfold cdP at h
  obtain ⟨i1, r, h1, h2⟩ := bd_ok h
  obtain ⟨k, T, h3, h4⟩ := bd_ok h2
  cases h4
  obtain ⟨a1, a2, a3, a4, a5, a6⟩ := rl_ok hT h1
  obtain ⟨b1, b2, b3, b4, b5⟩ := cdL_ok hT 600 i1 j T h3
  refine ⟨by omega, b2 a2, by simp; omega, ⟨fun x hx => ?_, fun x hx => ?_⟩, by simp, ?_⟩
  · rw [List.mem_cons] at hx
    rcases hx with rfl | hx
    · exact ⟨a4, a5, a6⟩
    · exact b4 x hx
  · cases hx
    rfl
  · obtain ⟨L, s, R⟩ := r
    dsimp only at a3
    have t2 := b5 false
    simp [cdX, rlX] at t2 ⊢
    omega
end PF
