/-! Numbers alone from here on: the state's cells, and what both sides keep between calls. -/
section N0
variable {σ : St} {k j a b : Nat} {x : Int32} {y : Int64} {f : Nat → Int32}
theorem gv_pv : gv (pv σ k j x) a b = if a = k ∧ b = j then x else gv σ a b := by
  unfold gv pv pa upd gr
  by_cases h1 : a = k
  · subst h1
    by_cases h2 : b = j <;> simp [h2]
  · simp [h1]
theorem gr_pv : gr (pv σ k j x) a = if a = k then upd (gr σ k) j x else gr σ a := rfl
theorem gv_pa : gv (pa σ k f) a b = if a = k then f b else gv σ a b := by
  unfold gv pa
  by_cases h1 : a = k <;> simp [h1]
theorem gr_pa : gr (pa σ k f) a = if a = k then f else gr σ a := rfl
theorem gv_pw : gv (pw σ k j y) a b = gv σ a b := rfl
theorem gr_pw : gr (pw σ k j y) a = gr σ a := rfl
theorem gw_pw : gw (pw σ k j y) a = if a = k then vp_updL (gw σ k) j y else gw σ a := rfl
theorem gw_pv : gw (pv σ k j x) a = gw σ a := rfl
theorem gw_pa : gw (pa σ k f) a = gw σ a := rfl
theorem gn_pv : gn (pv σ k j x) = gn σ := rfl
theorem gn_pa : gn (pa σ k f) = gn σ := rfl
theorem gn_pw : gn (pw σ k j y) = gn σ := rfl
theorem gv_gr : gv σ k j = gr σ k j := rfl
theorem upd_same {f : Nat → Int32} {k : Nat} {x : Int32} : upd f k x k = x := if_pos rfl
theorem upd_ne {f : Nat → Int32} {k j : Nat} {x : Int32} (h : j ≠ k) : upd f k x j = f j := if_neg h
end N0
theorem nI_neg1 {n : Nat} (h : n < 2 ^ 31) : nI n ≠ -1 := by
  intro e
  have h1 := congrArg Int32.toInt e
  rw [nI_toInt h] at h1
  have h2 : (-1 : Int32).toInt = -1 := by decide
  omega
/-! The law: postfix code, relations, rules. -/
abbrev Ex : Type := List Int32
/-- begins behind an 'or', left, sort (0 to 3), right -/
abbrev Rl : Type := Bool × Ex × Nat × Ex
/-- opens, who, the act's number, its from and until, E, must, if -/
abbrev Ru : Type := Bool × Int32 × Nat × Int32 × Int32 × Ex × List Rl × List Rl
def psh (c : Int32) : Bool := decide (0 ≤ c) || decide (c ≤ -27)
def vlc (v : Nat → Int32) (c : Int32) : Int32 := if 0 ≤ c then c else v (-c - 27).toNatClampNeg
def b01 (b : Bool) : Int32 := if b then 1 else 0
def jnd (s a b : Int32) : Int32 := if s = 8 then a + b else if s = 9 then a - b else if s = 10 then a * b else if s = 11 then b01 (decide (a = b)) else if s = 12 then b01 (decide (a ≠ b)) else if s = 13 then b01 (decide (a < b)) else if s = 14 then b01 (decide (a ≤ b)) else if s = 26 then a &&& b else a ||| b
/-- a step of the pile, its top first -/
def stp (v : Nat → Int32) (st : List Int32) (c : Int32) : List Int32 := if psh c then vlc v c :: st else if c = -15 then (match st with | a :: r => -a :: r | [] => []) else (match st with | b :: a :: r => jnd (-c) a b :: r | r => r)
def evS (v : Nat → Int32) (cs : Ex) (st : List Int32) : List Int32 := cs.foldl (stp v) st
def evX (v : Nat → Int32) (cs : Ex) : Int32 := (evS v cs []).headD 0
/-- with at most B on the pile, from d to e on it -/
def wfx (B : Nat) : Ex → Nat → Nat → Prop
  | [], d, e => d = e
  | c :: cs, d, e => if psh c then d < B ∧ wfx B cs (d + 1) e else if c = -15 then 1 ≤ d ∧ wfx B cs d e else 2 ≤ d ∧ wfx B cs (d - 1) e
def rlX (L : Ex) (s : Nat) (R : Ex) : Ex := L ++ R ++ [-(nI (11 + s))]
def cdT : Bool → List Rl → Ex
  | w, [] => if w then [-25] else []
  | w, (o, L, s, R) :: t => if o then (if w then [-25] else []) ++ rlX L s R ++ cdT true t else rlX L s R ++ [-26] ++ cdT w t
def cdX : List Rl → Ex
  | [] => []
  | (_, L, s, R) :: t => rlX L s R ++ cdT false t
def rlV (v : Nat → Int32) (L : Ex) (s : Nat) (R : Ex) : Bool := if s = 0 then decide (evX v L = evX v R) else if s = 1 then decide (evX v L ≠ evX v R) else if s = 2 then decide (evX v L < evX v R) else decide (evX v L ≤ evX v R)
/-- as the reference judges -/
def hlV (v : Nat → Int32) : Bool → List Rl → Bool
  | all, [] => all
  | all, (o, L, s, R) :: t => if o && all then true else if o || all then hlV v (rlV v L s R) t else hlV v false t
def inF (d : Int32) (fr un : Int32) : Bool := decide (fr ≤ d) && (decide (un = -1) || decide (d < un))
/-- a rule is for a mill on a day, and its 'if' holds -/
def ruF (r : Ru) (m : Nat) (d : Int32) (v : Nat → Int32) : Bool := (decide (r.2.1 = -1) || decide (r.2.1 = nI m)) && inF d r.2.2.2.1 r.2.2.2.2.1 && (r.2.2.2.2.2.2.2.isEmpty || hlV v false r.2.2.2.2.2.2.2)
def ruB (r : Ru) (m : Nat) (d : Int32) (v : Nat → Int32) : Bool := !r.1 && ruF r m d v && !hlV v false r.2.2.2.2.2.2.1
/-- what all that opens makes of a gate -/
def opS (mg : Int32) (m : Nat) (d : Int32) (v : Nat → Int32) (g : Int32) (r : Ru) : Int32 := if r.1 && ruF r m d v then jmax g (jmin (evX v r.2.2.2.2.2.1) mg) else g
def opG (rs : List Ru) (mg : Int32) (m : Nat) (d : Int32) (v : Nat → Int32) (g : Int32) : Int32 := rs.foldl (opS mg m d v) g
theorem opG_cons {r : Ru} {rs : List Ru} {mg : Int32} {m : Nat} {d : Int32} {v : Nat → Int32} {g : Int32} : opG (r :: rs) mg m d v g = opG rs mg m d v (opS mg m d v g r) := rfl
/-! Water. -/
abbrev Rw : Type := Nat → Nat → Int32
/-- mills, caps, marks, gates' mosts, the spring, factors by head, rules -/
abbrev Cf : Type := Nat × (Nat → Int32) × (Nat → Int32) × (Nat → Int32) × Int32 × (Int32 → Int32) × List Ru
def envO (c : Cf) (r : Rw) (h m : Nat) (g : Int32) : Nat → Int32
  | 0 => r 0 m
  | 1 => c.2.2.1 m
  | 2 => c.2.1 m
  | 3 => if m + 1 < c.1 then r 0 (m + 1) else 0
  | 4 => if 0 < m then r 0 (m - 1) else 0
  | 5 => r 1 m
  | 6 => r 2 m
  | 7 => g
  | 8 => nI (h % 24)
  | 9 => nI (h / 24)
  | _ => 0
/-- once the hour is settled -/
def envB (c : Cf) (r : Rw) (h m : Nat) : Nat → Int32
  | 7 => r 3 m
  | 10 => r 6 m
  | 11 => r 9 m
  | k => envO c r h m 0 k
def entW (c : Cf) (rn W : Nat → Int32) (r : Rw) : Rw := fun i m => if i = 0 then r 0 m + (r 1 m - r 9 m) else if i = 1 then rn m + (if m = 0 then c.2.2.2.2.1 else r 9 (m - 1)) else if i = 2 then W m else r i m
def gtW (c : Cf) (G : Nat → Int32) (h : Nat) (r : Rw) (m : Nat) : Int32 := opG c.2.2.2.2.2.2 (c.2.2.2.1 m) m (nI (h / 24)) (envO c r h m (G m)) (G m)
def hdW (c : Cf) (r : Rw) (m : Nat) : Int32 := r 0 m - (if m + 1 < c.1 then jmax (r 0 (m + 1) - c.2.2.1 (m + 1)) 0 else 0)
def usW (r : Rw) (m : Nat) : Int32 := jmin (2 * r 2 m) (r 0 m + r 1 m)
def thW (c : Cf) (G : Nat → Int32) (h : Nat) (r : Rw) (m : Nat) : Int32 := jmin (3 * gtW c G h r m) (r 0 m + r 1 m - usW r m)
def spW (c : Cf) (G : Nat → Int32) (h : Nat) (r : Rw) (m : Nat) : Int32 := jmax (r 0 m + r 1 m - usW r m - thW c G h r m - c.2.1 m) 0
def setW (c : Cf) (G : Nat → Int32) (h : Nat) (r : Rw) : Rw := fun i m =>
  if i = 3 then gtW c G h r m else if i = 4 then hdW c r m else if i = 5 then usW r m else if i = 6 then usW r m * c.2.2.2.2.2.1 (hdW c r m) else if i = 7 then thW c G h r m else if i = 8 then spW c G h r m else if i = 9 then usW r m + thW c G h r m + spW c G h r m else r i m
/-- the stage of hour h is simW (h + 1) -/
def simW (c : Cf) (rn W G : Nat → Nat → Int32) : Nat → Rw
  | 0 => fun _ _ => 0
  | h + 1 => setW c (G h) h (entW c (rn h) (W h) (simW c rn W G h))
/-- facts of rain: the table by the first n -/
def rtW (cl am : Nat → Int32) : Nat → Nat → Int32
  | 0, _ => 0
  | n + 1, i => if (cl n).toNatClampNeg = i then am n else rtW cl am n i
/-- orders: what is held by the first n, but for one; 0 to 6 wheels, 7 to 13 gates -/
def hdO (mi ga v : Nat → Int32) (w : Int32) : Nat → Nat → Int32
  | 0, _ => 0
  | n + 1, i => if nI n ≠ w ∧ (mi n).toNatClampNeg + (if ga n = 0 then 0 else 7) = i then v n else hdO mi ga v w n i
/-- how many are given by hour h, if k were ahead of it -/
def cnO (hr : Nat → Int32) (O h : Nat) : Nat → Nat → Nat
  | 0, k => k
  | n + 1, k => if k < O ∧ hr k ≤ nI h then cnO hr O h n (k + 1) else k
def gvO (hr : Nat → Int32) (O : Nat) : Nat → Nat
  | 0 => cnO hr O 0 O 0
  | h + 1 => cnO hr O (h + 1) O (gvO hr O h)
def fcW (fm : Int32) (f : Nat → Int32) (hd : Int32) : Int32 := if hd ≤ 0 then 0 else if fm = -1 then 1 else f (jmin (hd / 10) (fm - 1)).toNatClampNeg
/-! What both sides hold between two calls; over the cells' values alone. -/
def IvT (a b : Int32) (f g : Nat → Int32) : Prop := a = b ∧ f = g ∧ ∃ t, t ≤ 2000 ∧ a = nI t
def IvM (a b : Int32) (f12 f13 f14 f15 g73 g74 g75 g76 : Nat → Int32) : Prop := a = b ∧ f12 = g73 ∧ f13 = g74 ∧ f14 = g75 ∧ f15 = g76 ∧ ∃ n, n ≤ 7 ∧ a = nI n ∧ ∀ m, m < n → ∃ c k w g, 1 ≤ c ∧ c ≤ 1000 ∧ k ≤ c ∧ 1 ≤ w ∧ w ≤ 4 ∧ g ≤ 9 ∧ f12 m = nI c ∧ f13 m = nI k ∧ f14 m = nI w ∧ f15 m = nI g
def IvS (a b : Int32) : Prop := a = b ∧ ∃ s, s ≤ 100 ∧ a = nI s
def IvF (a b : Int32) (f g : Nat → Int32) : Prop := a = b ∧ (a = -1 ∨ ∃ n, 1 ≤ n ∧ n ≤ 20 ∧ a = nI n ∧ ∀ i, i < n → f i = g i ∧ -100 ≤ f i ∧ f i ≤ 100)
def IvC (a b : Int32) : Prop := a = b ∧ ∃ c, c < 240 ∧ a = nI c
def IvR (a b ms : Int32) (f17 f18 g78 g79 g80 : Nat → Int32) : Prop := a = b ∧ f18 = g80 ∧ ∃ F, F ≤ 400 ∧ a = nI F ∧ ∀ j, j < F → ∃ h m v, h < 240 ∧ m < ms.toNatClampNeg ∧ v ≤ 1000 ∧ g78 j = nI h ∧ g79 j = nI m ∧ f17 j = nI (7 * h + m) ∧ f18 j = nI v
def IvO (a b ms ck : Int32) (f14 f15 f20 f21 f22 f23 g81 g82 g83 g84 : Nat → Int32) : Prop := a = b ∧ f20 = g81 ∧ f21 = g82 ∧ f22 = g83 ∧ f23 = g84 ∧ ∃ O, O ≤ 200 ∧ a = nI O ∧ (∀ j, j < O → ∃ h m v, h ≤ ck.toNatClampNeg ∧ m < ms.toNatClampNeg ∧ v ≤ 9 ∧ f20 j = nI h ∧ f21 j = nI m ∧ (f22 j = 0 ∨ f22 j = 1) ∧ f23 j = nI v ∧ f23 j ≤ (if f22 j = 0 then f14 m else f15 m)) ∧ ∀ i j, i ≤ j → j < O → f20 i ≤ f20 j
def IvG (a b ms ck : Int32) (f39 f40 f41 g85 g86 g87 : Nat → Int32) : Prop := a = b ∧ f39 = g87 ∧ f40 = g85 ∧ f41 = g86 ∧ ∃ G, G ≤ 60 ∧ a = nI G ∧ (∀ j, j < G → ∃ h m w, h ≤ ck.toNatClampNeg ∧ m < ms.toNatClampNeg ∧ 1 ≤ w ∧ w ≤ 10000 ∧ f39 j = nI h ∧ f40 j = nI m ∧ f41 j = nI w) ∧ ∀ i j, i ≤ j → j < G → f39 i ≤ f39 j
def IvP (a b : Int32) (f44 g95 : Nat → Int32) : Prop := a = b ∧ ∃ n, n ≤ 6 ∧ a = nI n ∧ ∀ i, i < n → f44 i = g95 i
/-- the table of rain that the class keeps -/
def IvK (kn F : Int32) (f17 f18 f19 : Nat → Int32) : Prop := ∃ K, kn = nI K ∧ K ≤ F.toNatClampNeg ∧ ∀ i, i < 1680 → f19 i = rtW f17 f18 K i
def simO (Ls : List Ru) (ms sp fm oN : Int32) (cap mark mg fac cl am ohr omi oga ov : Nat → Int32) (n : Nat) (w : Int32) : Nat → Rw :=
  simW (ms.toNatClampNeg, cap, mark, mg, sp, fcW fm fac, Ls) (fun h m => rtW cl am n (7 * h + m)) (fun h m => hdO omi oga ov w (gvO ohr oN.toNatClampNeg h) m) (fun h m => hdO omi oga ov w (gvO ohr oN.toNatClampNeg h) (m + 7))
/-- the reference's hours, if it keeps any -/
def IvN (Ls : List Ru) (nf nw F ms sp fm oN : Int32) (cap mark mg fac cl am ohr omi oga ov now rns sts : Nat → Int32) : Prop := nf = -1 ∨ ∃ n, nf = nI n ∧ n ≤ F.toNatClampNeg ∧ (∀ h m i, h < 240 → m < ms.toNatClampNeg → i < 10 → now (10 * (7 * h + m) + i) = simO Ls ms sp fm oN cap mark mg fac cl am ohr omi oga ov n nw (h + 1) i m) ∧ (∀ i, i < 1680 → rns i = rtW cl am n i) ∧ ∀ h i, h < 240 → i < 14 → sts (14 * h + i) = hdO omi oga ov nw (gvO ohr oN.toNatClampNeg h) i
def eA (c : Int32) : Int32 := if 0 ≤ c then 0 else if c ≤ -27 then 1 else if c = -8 then 2 else if c = -9 then 3 else if c = -10 then 4 else 5
def eB (c : Int32) : Int32 := if 0 ≤ c then c else if c ≤ -27 then -c - 27 else 0
def seg (f : Nat → Int32) (s : Nat) (cs : Ex) : Prop := ∀ j c, cs[j]? = some c → f (s + j) = c
def rpE (cd ci : Nat → Int32) (l : Nat) (E : Ex) : Prop := ∀ j c, E[j]? = some c → cd (l + j) = eA c ∧ ci (l + j) = eB c
def rpR (so le ri en orr cd ci : Nat → Int32) (C : Nat) : Nat → List Rl → Prop
  | _, [] => True
  | p, (o, L, s, R) :: t => (∃ l, le p = nI l ∧ ri p = nI (l + L.length) ∧ en p = nI (l + L.length + R.length) ∧ l + L.length + R.length ≤ C ∧ rpE cd ci l L ∧ rpE cd ci (l + L.length) R) ∧ so p = nI s ∧ orr p = b01 o ∧ rpR so le ri en orr cd ci C (p + 1) t
/-- a code of an expression -/
def gdE (c : Int32) : Prop := (0 ≤ c ∧ c ≤ 9999) ∨ (-38 ≤ c ∧ c ≤ -27) ∨ c = -8 ∨ c = -9 ∨ c = -10 ∨ c = -15
def okE (E : Ex) : Prop := wfx 19 E 0 1 ∧ ∀ c ∈ E, gdE c
def okR (r : Rl) : Prop := okE r.2.1 ∧ r.2.2.1 ≤ 3 ∧ okE r.2.2.2
def okC (cs : List Rl) : Prop := (∀ r ∈ cs, okR r) ∧ ∀ r, cs[0]? = some r → r.1 = true
def bodyX (r : Ru) : Ex := if r.1 then r.2.2.2.2.2.1 else cdX r.2.2.2.2.2.2.1
/-- rule i of the class -/
def rpD (gn A C : Nat) (who opn mid end_ st act fr un code : Nat → Int32) (i : Nat) (r : Ru) : Prop := who i = r.2.1 ∧ opn i = b01 r.1 ∧ r.2.2.1 < A ∧ act i = nI r.2.2.1 ∧ fr r.2.2.1 = r.2.2.2.1 ∧ un r.2.2.1 = r.2.2.2.2.1 ∧ ∃ s, st i = nI s ∧ mid i = nI (s + (bodyX r).length) ∧ end_ i = nI (s + (bodyX r).length + (cdX r.2.2.2.2.2.2.2).length) ∧ s + (bodyX r).length + (cdX r.2.2.2.2.2.2.2).length ≤ C ∧ C ≤ gn ∧ seg code s (bodyX r) ∧ seg code (s + (bodyX r).length) (cdX r.2.2.2.2.2.2.2)
/-- rule i of the reference -/
def rpM (A NR C : Nat) (act who opn rf rt jf jt fr un so le ri en orr cd ci : Nat → Int32) (i : Nat) (r : Ru) : Prop := who i = r.2.1 ∧ opn i = b01 r.1 ∧ r.2.2.1 < A ∧ act i = nI r.2.2.1 ∧ fr r.2.2.1 = r.2.2.2.1 ∧ un r.2.2.1 = r.2.2.2.2.1 ∧
  (∃ s, rf i = nI s ∧ (if r.1 then rt i = nI (s + r.2.2.2.2.2.1.length) ∧ s + r.2.2.2.2.2.1.length ≤ C ∧ rpE cd ci s r.2.2.2.2.2.1 else rt i = nI (s + r.2.2.2.2.2.2.1.length) ∧ s + r.2.2.2.2.2.2.1.length ≤ NR ∧ rpR so le ri en orr cd ci C s r.2.2.2.2.2.2.1)) ∧
  ∃ s, jf i = nI s ∧ jt i = nI (s + r.2.2.2.2.2.2.2.length) ∧ s + r.2.2.2.2.2.2.2.length ≤ NR ∧ rpR so le ri en orr cd ci C s r.2.2.2.2.2.2.2
def okRu (r : Ru) : Prop := (r.2.1 = -1 ∨ ∃ w, w ≤ 6 ∧ r.2.1 = nI w) ∧ (r.1 = true → okE r.2.2.2.2.2.1) ∧ (r.1 = false → okC r.2.2.2.2.2.2.1 ∧ r.2.2.2.2.2.2.1 ≠ []) ∧ okC r.2.2.2.2.2.2.2
/-- letters 1 to 26 as one number -/
def pkN (b : Int64) (l : List Nat) : Int64 := l.foldl (fun s c => b * s + Int64.ofNat c) 0
def okN (l : List Nat) : Prop := 1 ≤ l.length ∧ l.length ≤ 8 ∧ ∀ c ∈ l, 1 ≤ c ∧ c ≤ 26
def IvL (Ls : List Ru) (a0 a1 a15 b18 b23 b32 b38 : Int32) (gn : Nat) (f27 f28 f29 f30 f31 f32 f34 f35 f36 g56 g57 g58 g59 g60 g61 g62 g63 g64 g65 g66 g67 g68 g69 g70 g71 : Nat → Int32) (l33 l55 : Nat → Int64) : Prop :=
  (∀ r ∈ Ls, okRu r) ∧ Ls.length ≤ 30 ∧ a1 = nI Ls.length ∧ b23 = nI Ls.length ∧ ∃ (A C NR CR : Nat) (nm : Nat → List Nat), A ≤ 10 ∧ a0 = nI A ∧ b18 = nI A ∧ a15 = nI C ∧ b32 = nI NR ∧ b38 = nI CR ∧ C ≤ 600 * A ∧ C ≤ gn ∧ gn ≤ 7000 ∧ NR ≤ 600 * A ∧ CR ≤ 600 * A ∧
  (∀ a, a < A → okN (nm a) ∧ l33 a = pkN 32 (nm a) ∧ l55 a = pkN 27 (nm a) ∧ f34 a = g56 a ∧ f35 a = g57 a) ∧
  ∀ i r, Ls[i]? = some r → rpD gn A C f27 f28 f29 f30 f31 f32 f34 f35 f36 i r ∧ rpM A NR CR g58 g59 g60 g61 g62 g63 g64 g56 g57 g65 g66 g67 g68 g69 g70 g71 i r
/-- the words' keys; a plan begins with nothing worked and nothing gone -/
def IvW (k : Nat → Int64) (a b : Int32) : Prop := k = s0k ∧ a = 0 ∧ b = 0
def Inv (σ : St) : Prop := ∃ Ls : List Ru,
  IvT (gv σ 6 0) (gv σ 11 2) (gr σ 24) (gr σ 48) ∧
  IvM (gv σ 2 4) (gv σ 11 43) (gr σ 12) (gr σ 13) (gr σ 14) (gr σ 15) (gr σ 73) (gr σ 74) (gr σ 75) (gr σ 76) ∧
  IvS (gv σ 2 5) (gv σ 11 48) ∧
  IvF (gv σ 2 6) (gv σ 11 49) (gr σ 16) (gr σ 77) ∧
  IvC (gv σ 0 5) (gv σ 11 51) ∧
  IvR (gv σ 3 0) (gv σ 11 52) (gv σ 2 4) (gr σ 17) (gr σ 18) (gr σ 78) (gr σ 79) (gr σ 80) ∧
  IvO (gv σ 4 4) (gv σ 11 56) (gv σ 2 4) (gv σ 0 5) (gr σ 14) (gr σ 15) (gr σ 20) (gr σ 21) (gr σ 22) (gr σ 23) (gr σ 81) (gr σ 82) (gr σ 83) (gr σ 84) ∧
  IvG (gv σ 9 5) (gv σ 11 61) (gv σ 2 4) (gv σ 0 5) (gr σ 39) (gr σ 40) (gr σ 41) (gr σ 85) (gr σ 86) (gr σ 87) ∧
  IvP (gv σ 10 1) (gv σ 11 75) (gr σ 44) (gr σ 95) ∧
  gv σ 5 2 = gv σ 11 17 ∧
  IvK (gv σ 3 4) (gv σ 3 0) (gr σ 17) (gr σ 18) (gr σ 19) ∧
  IvN Ls (gv σ 11 66) (gv σ 11 67) (gv σ 3 0) (gv σ 2 4) (gv σ 2 5) (gv σ 2 6) (gv σ 4 4) (gr σ 12) (gr σ 13) (gr σ 15) (gr σ 16) (gr σ 17) (gr σ 18) (gr σ 20) (gr σ 21) (gr σ 22) (gr σ 23) (gr σ 88) (gr σ 89) (gr σ 90) ∧
  IvL Ls (gv σ 8 0) (gv σ 8 1) (gv σ 8 15) (gv σ 11 18) (gv σ 11 23) (gv σ 11 32) (gv σ 11 38) (gn σ) (gr σ 27) (gr σ 28) (gr σ 29) (gr σ 30) (gr σ 31) (gr σ 32) (gr σ 34) (gr σ 35) (gr σ 36) (gr σ 56) (gr σ 57) (gr σ 58) (gr σ 59) (gr σ 60) (gr σ 61) (gr σ 62) (gr σ 63) (gr σ 64) (gr σ 65) (gr σ 66) (gr σ 67) (gr σ 68) (gr σ 69) (gr σ 70) (gr σ 71) (gw σ 33) (gw σ 55) ∧
  IvW (gw σ 54) (gv σ 96 0) (gv σ 97 0)
