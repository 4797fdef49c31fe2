/-! Bounds of the water. -/
def CfOk (c : Cf) : Prop := c.1 ≤ 7 ∧ (∀ m, m < c.1 → ∃ x, x ≤ 1000 ∧ c.2.1 m = nI x) ∧ (∃ s, s ≤ 100 ∧ c.2.2.2.2.1 = nI s) ∧ (∀ m, m < c.1 → ∃ g, g ≤ 9 ∧ c.2.2.2.1 m = nI g) ∧ ∀ x, -100 ≤ (c.2.2.2.2.2.1 x).toInt ∧ (c.2.2.2.2.2.1 x).toInt ≤ 100
def WtOk (c : Cf) (r : Rw) : Prop := ∀ m, m < c.1 → ∃ l o, r 0 m + (r 1 m - r 9 m) = nI l ∧ l ≤ 1000 ∧ r 9 m = nI o ∧ o ≤ 3000 * (m + 1)
theorem jminN {a b : Nat} (ha : a < 2 ^ 31) (hb : b < 2 ^ 31) : jmin (nI a) (nI b) = nI (min a b) := by
  simp only [jmin]
  by_cases h : nI b < nI a
  · rw [if_pos h]
    have := (nI_ltI hb ha).mp h
    rw [Nat.min_eq_right (by omega)]
  · rw [if_neg h]
    have := Nat.not_lt.mp (fun q => h ((nI_ltI hb ha).mpr q))
    rw [Nat.min_eq_left (by omega)]
theorem jmax0 {a b : Nat} (ha : a < 2 ^ 30) (hb : b < 2 ^ 30) : jmax (nI a - nI b) 0 = nI (a - b) := by
  have h0 : (0 : Int32).toInt = 0 := by decide
  simp only [jmax]
  by_cases h : nI a - nI b < 0
  · rw [if_pos h]
    rw [Int32.lt_iff_toInt_lt, pk_sub_toInt ha hb, h0] at h
    rw [show a - b = 0 by omega]
    rfl
  · rw [if_neg h]
    rw [Int32.lt_iff_toInt_lt, pk_sub_toInt ha hb, h0] at h
    exact pk_sub (by omega)
theorem mulB {u : Nat} (hu : u ≤ 8) {f : Int32} (hf : -100 ≤ f.toInt ∧ f.toInt ≤ 100) : (nI u * f).toInt = u * f.toInt ∧ -800 ≤ (nI u * f).toInt ∧ (nI u * f).toInt ≤ 800 := by
  rw [Int32.toInt_mul, nI_toInt (by omega), Int.bmod_def]
  have : -800 ≤ (u : Int) * f.toInt ∧ (u : Int) * f.toInt ≤ 800 := by
    rcases (show u = 0 ∨ u = 1 ∨ u = 2 ∨ u = 3 ∨ u = 4 ∨ u = 5 ∨ u = 6 ∨ u = 7 ∨ u = 8 by omega) with rfl | rfl | rfl | rfl | rfl | rfl | rfl | rfl | rfl <;> omega
  generalize (u : Int) * f.toInt = z at this ⊢
  omega
theorem i_add {x y : Int32} {a b : Int} (h1 : x.toInt = a) (h2 : y.toInt = b) (h3 : -2000000000 ≤ a + b) (h4 : a + b ≤ 2000000000) : (x + y).toInt = a + b := by
  rw [Int32.toInt_add, h1, h2, Int.bmod_def]
  omega
theorem i_sub {x y : Int32} {a b : Int} (h1 : x.toInt = a) (h2 : y.toInt = b) (h3 : -2000000000 ≤ a - b) (h4 : a - b ≤ 2000000000) : (x - y).toInt = a - b := by
  rw [Int32.toInt_sub, h1, h2, Int.bmod_def]
  omega
section WB
variable {c : Cf} {r : Rw} {rn W G : Nat → Int32} {h m : Nat}
theorem entW_0 : entW c rn W r 0 m = r 0 m + (r 1 m - r 9 m) := rfl
theorem entW_1 : entW c rn W r 1 m = rn m + (if m = 0 then c.2.2.2.2.1 else r 9 (m - 1)) := rfl
theorem entW_2 : entW c rn W r 2 m = W m := rfl
theorem setW_0 : setW c G h r 0 m = r 0 m := rfl
theorem setW_1 : setW c G h r 1 m = r 1 m := rfl
theorem setW_2 : setW c G h r 2 m = r 2 m := rfl
theorem setW_5 : setW c G h r 5 m = usW r m := rfl
theorem setW_6 : setW c G h r 6 m = usW r m * c.2.2.2.2.2.1 (hdW c r m) := rfl
theorem setW_7 : setW c G h r 7 m = thW c G h r m := rfl
theorem setW_8 : setW c G h r 8 m = spW c G h r m := rfl
theorem setW_9 : setW c G h r 9 m = usW r m + thW c G h r m + spW c G h r m := rfl
theorem wt_mill (hc : CfOk c) (h0 : WtOk c r) (hr : ∀ m, m < c.1 → ∃ x, x ≤ 1000 ∧ rn m = nI x) (hG : ∀ m, m < c.1 → ∃ x, x ≤ 9 ∧ G m = nI x ∧ G m ≤ c.2.2.2.1 m) (hm : m < c.1) {x : Nat} (hx : x ≤ 4) (eW : W m = nI x) :
    ∃ l i u th sp, entW c rn W r 0 m = nI l ∧ l ≤ 1000 ∧ entW c rn W r 1 m = nI i ∧ i ≤ 1100 + 3000 * m ∧ usW (entW c rn W r) m = nI u ∧ u ≤ 2 * x ∧ thW c G h (entW c rn W r) m = nI th ∧ th ≤ 27 ∧ spW c G h (entW c rn W r) m = nI sp ∧ u + th + sp ≤ l + i ∧ l + i - (u + th + sp) ≤ 1000 := by
  obtain ⟨h7, hcap, ⟨s, hs, es⟩, hmg, _⟩ := hc
  obtain ⟨l, o, el, hl, eo, ho⟩ := h0 m hm
  obtain ⟨rr, hrr, er⟩ := hr m hm
  obtain ⟨cp, hcp, ecp⟩ := hcap m hm
  obtain ⟨mg, hmg1, emg⟩ := hmg m hm
  obtain ⟨g0, hg0, eg0, leg⟩ := hG m hm
  have ei : ∃ i, entW c rn W r 1 m = nI i ∧ i ≤ 1100 + 3000 * m := by
    rw [entW_1, er]
    by_cases q : m = 0
    · rw [if_pos q, es, nI_add]
      exact ⟨_, rfl, by omega⟩
    · rw [if_neg q]
      obtain ⟨_, o', _, _, eo', ho'⟩ := h0 (m - 1) (by omega)
      rw [eo', nI_add]
      exact ⟨_, rfl, by omega⟩
  obtain ⟨i, ei, hi⟩ := ei
  have e0 : entW c rn W r 0 m = nI l := el
  have e2 : entW c rn W r 2 m = nI x := eW
  have eu : usW (entW c rn W r) m = nI (min (2 * x) (l + i)) := by
    unfold usW
    rw [e0, ei, e2, nI_add, show (2 : Int32) = nI 2 from rfl, pk_mul, jminN (by omega) (by omega)]
  have hu : min (2 * x) (l + i) ≤ 2 * x ∧ min (2 * x) (l + i) ≤ l + i := ⟨Nat.min_le_left _ _, Nat.min_le_right _ _⟩
  generalize min (2 * x) (l + i) = u at eu hu
  have eg : ∃ g, gtW c G h (entW c rn W r) m = nI g ∧ g ≤ 9 := by
    unfold gtW
    obtain ⟨q1, q2⟩ := opG_bd (m := m) (d := nI (h / 24)) (v := envO c (entW c rn W r) h m (G m)) c.2.2.2.2.2.2 (G m) leg
    generalize opG c.2.2.2.2.2.2 (c.2.2.2.1 m) m (nI (h / 24)) (envO c (entW c rn W r) h m (G m)) (G m) = z at q1 q2
    rw [eg0] at q1
    rw [emg] at q2
    obtain ⟨g, hg, rfl⟩ := nI_of (x := z) (i32_lt.mpr (Int32.le_trans (nI_nn (by omega)) q1))
    have := (nI_leI hg (by omega)).mp q2
    exact ⟨g, rfl, by omega⟩
  obtain ⟨g, eg, hg⟩ := eg
  have et : thW c G h (entW c rn W r) m = nI (min (3 * g) (l + i - u)) := by
    unfold thW
    rw [eg, eu, e0, ei, nI_add, pk_sub hu.2, show (3 : Int32) = nI 3 from rfl, pk_mul, jminN (by omega) (by omega)]
  have ht : min (3 * g) (l + i - u) ≤ 3 * g ∧ min (3 * g) (l + i - u) ≤ l + i - u := ⟨Nat.min_le_left _ _, Nat.min_le_right _ _⟩
  generalize min (3 * g) (l + i - u) = th at et ht
  have ep : spW c G h (entW c rn W r) m = nI (l + i - u - th - cp) := by
    unfold spW
    rw [et, eu, e0, ei, nI_add, pk_sub hu.2, pk_sub ht.2, ecp, jmax0 (by omega) (by omega)]
  exact ⟨l, i, u, th, _, e0, hl, ei, hi, eu, hu.1, et, by omega, ep, by omega, by omega⟩
theorem wt_step (hc : CfOk c) (h0 : WtOk c r) (hr : ∀ m, m < c.1 → ∃ x, x ≤ 1000 ∧ rn m = nI x) (hG : ∀ m, m < c.1 → ∃ x, x ≤ 9 ∧ G m = nI x ∧ G m ≤ c.2.2.2.1 m) (hW : ∀ m, m < c.1 → ∃ x, x ≤ 4 ∧ W m = nI x) : WtOk c (setW c G h (entW c rn W r)) := by
  intro m hm
  obtain ⟨x, hx, eW⟩ := hW m hm
  obtain ⟨l, i, u, th, sp, e0, hl, ei, hi, eu, hu, et, ht, ep, h1, h2⟩ := wt_mill (h := h) hc h0 hr hG hm hx eW
  refine ⟨l + i - (u + th + sp), u + th + sp, ?_, h2, ?_, by omega⟩
  · rw [setW_0, setW_1, setW_9, e0, ei, eu, et, ep, nI_add, nI_add, ← pk_sub h1, ← nI_add l i]
    simp only [Int32.sub_eq_add_neg]
    rw [Int32.add_assoc]
  · rw [setW_9, eu, et, ep, nI_add, nI_add]
theorem wt_work (hc : CfOk c) (h0 : WtOk c r) (hr : ∀ m, m < c.1 → ∃ x, x ≤ 1000 ∧ rn m = nI x) (hG : ∀ m, m < c.1 → ∃ x, x ≤ 9 ∧ G m = nI x ∧ G m ≤ c.2.2.2.1 m) (hm : m < c.1) {x : Nat} (hx : x ≤ 4) (eW : W m = nI x) : ∃ u y th sp, u ≤ 2 * x ∧ (setW c G h (entW c rn W r) 6 m).toInt = u * (c.2.2.2.2.2.1 y).toInt ∧ setW c G h (entW c rn W r) 7 m = nI th ∧ th ≤ 27 ∧ setW c G h (entW c rn W r) 8 m = nI sp ∧ sp ≤ 40000 := by
  obtain ⟨l, i, u, th, sp, e0, hl, ei, hi, eu, hu, et, ht, ep, h1, h2⟩ := wt_mill (h := h) hc h0 hr hG hm hx eW
  have h7 := hc.1
  refine ⟨u, hdW c (entW c rn W r) m, th, sp, hu, ?_, et, ht, ep, by omega⟩
  rw [setW_6, eu]
  exact (mulB (by omega) (hc.2.2.2.2 _)).1
end WB
section WS
variable {c : Cf} {rn W G : Nat → Nat → Int32}
theorem simB (hc : CfOk c) (hr : ∀ h m, m < c.1 → ∃ x, x ≤ 1000 ∧ rn h m = nI x) (hG : ∀ h m, m < c.1 → ∃ x, x ≤ 9 ∧ G h m = nI x ∧ G h m ≤ c.2.2.2.1 m) (hW : ∀ h m, m < c.1 → ∃ x, x ≤ 4 ∧ W h m = nI x) : ∀ t, WtOk c (simW c rn W G t)
  | 0 => fun m _ => ⟨0, 0, by show (0 : Int32) + (0 - 0) = nI 0; decide, by omega, rfl, by omega⟩
  | t + 1 => by
    rw [simW]
    exact wt_step hc (simB hc hr hG hW t) (hr t) (hG t) (hW t)
theorem simWk (hc : CfOk c) (hr : ∀ h m, m < c.1 → ∃ x, x ≤ 1000 ∧ rn h m = nI x) (hG : ∀ h m, m < c.1 → ∃ x, x ≤ 9 ∧ G h m = nI x ∧ G h m ≤ c.2.2.2.1 m) (hW : ∀ h m, m < c.1 → ∃ x, x ≤ 4 ∧ W h m = nI x) (t m : Nat) (hm : m < c.1) : -800 ≤ (simW c rn W G t 6 m).toInt ∧ (simW c rn W G t 6 m).toInt ≤ 800 := by
  cases t with
  | zero =>
    show -800 ≤ (0 : Int32).toInt ∧ (0 : Int32).toInt ≤ 800
    decide
  | succ t =>
    rw [simW]
    obtain ⟨x, hx, eW⟩ := hW t m hm
    obtain ⟨l, i, u, th, sp, e0, hl, ei, hi, eu, hu, et, ht, ep, h1, h2⟩ := wt_mill (h := t) hc (simB hc hr hG hW t) (hr t) (hG t) hm hx eW
    rw [setW_6, eu]
    exact (mulB (by omega) (hc.2.2.2.2 _)).2
theorem wkSB {S : Nat → Rw} {m a : Nat} (hS : ∀ t, -800 ≤ (S t 6 m).toInt ∧ (S t 6 m).toInt ≤ 800) : ∀ d : Nat, d ≤ 1000 → -800 * (d : Int) ≤ (wkS S m a d).toInt ∧ (wkS S m a d).toInt ≤ 800 * d
  | 0, _ => by
    show -800 * ((0 : Nat) : Int) ≤ (0 : Int32).toInt ∧ (0 : Int32).toInt ≤ 800 * ((0 : Nat) : Int)
    decide
  | d + 1, hd => by
    have i := wkSB hS (a := a) d (by omega)
    have h := hS (a + d + 1)
    rw [wkS, i_add rfl rfl (by omega) (by omega)]
    omega
end WS
theorem rtWB {cl am : Nat → Int32} {F : Nat} (h : ∀ j, j < F → ∃ v, v ≤ 1000 ∧ am j = nI v) : ∀ n i, n ≤ F → ∃ x, x ≤ 1000 ∧ rtW cl am n i = nI x
  | 0, _, _ => ⟨0, by omega, rfl⟩
  | n + 1, i, hn => by
    rw [rtW]
    by_cases q : (cl n).toNatClampNeg = i
    · rw [if_pos q]
      exact h n (by omega)
    · rw [if_neg q]
      exact rtWB h n i (by omega)
theorem fcWB {a : Int32} {f : Nat → Int32} (h : a = -1 ∨ ∃ n, 1 ≤ n ∧ n ≤ 20 ∧ a = nI n ∧ ∀ i, i < n → -100 ≤ f i ∧ f i ≤ 100) {B : Int} (hB0 : 0 ≤ B) (h1 : a = -1 → 1 ≤ B) (h2 : ∀ n, a = nI n → n ≤ 20 → ∀ i, i < n → (f i).toInt ≤ B) (x : Int32) : -100 ≤ (fcW a f x).toInt ∧ (fcW a f x).toInt ≤ 100 ∧ (fcW a f x).toInt ≤ B := by
  unfold fcW
  by_cases c0 : x ≤ 0
  · rw [if_pos c0, show (0 : Int32).toInt = 0 by decide]
    omega
  rw [if_neg c0]
  rcases h with rfl | ⟨n, hn1, hn2, rfl, hf⟩
  · rw [if_pos rfl, show (1 : Int32).toInt = 1 by decide]
    have := h1 rfl
    omega
  · rw [if_neg (nI_neg1 (by omega))]
    obtain ⟨y, hy, rfl⟩ := nI_of (x := x) (i32_lt.mpr (Int32.le_of_lt (i32_le.mp c0)))
    have e10 : nI y / 10 = nI (y / 10) := pk_div (d := 10) hy (by decide) (by decide)
    have e1 : nI n - 1 = nI (n - 1) := pk_sub (b := 1) hn1
    rw [e10, e1, jminN (by omega) (by omega)]
    have hlt : min (y / 10) (n - 1) < n := by
      have := Nat.min_le_right (y / 10) (n - 1)
      omega
    rw [nI_clamp (by omega)]
    obtain ⟨q1, q2⟩ := hf _ hlt
    rw [Int32.le_iff_toInt_le] at q1 q2
    rw [show (-100 : Int32).toInt = -100 by decide] at q1
    rw [show (100 : Int32).toInt = 100 by decide] at q2
    exact ⟨q1, q2, h2 n rfl hn2 _ hlt⟩
section WI
variable {σ : St} {Ls : List Ru} {n O F nn : Nat}
theorem cfD_n (B : Bun σ Ls n O F) : (cfD σ Ls).1 = n := by
  obtain ⟨_, hn, _⟩ := BunF B
  show (gv σ 2 4).toNatClampNeg = n
  rw [B.1.2.2.1, nI_clamp (by omega)]
theorem cfOk (hI : InvL Ls σ) (B : Bun σ Ls n O F) : CfOk (cfD σ Ls) := by
  have en := cfD_n B
  obtain ⟨_, hn, _⟩ := BunF B
  obtain ⟨_, hM, hS, hF, _⟩ := hI
  obtain ⟨_, _, _, _, _, n', hn', en', hm⟩ := hM
  have e : n' = n := (nI_eq (by omega) (by omega)).mp (en'.symm.trans B.1.2.2.1)
  subst e
  refine ⟨by rw [en]; exact hn', fun m hmm => ?_, ?_, fun m hmm => ?_, fun x => ?_⟩
  · rw [en] at hmm
    obtain ⟨c, k, w, g, b1, b2, b3, b4, b5, b6, b7, b8, b9, b10⟩ := hm m hmm
    exact ⟨c, b2, b7⟩
  · exact hS.2
  · rw [en] at hmm
    obtain ⟨c, k, w, g, b1, b2, b3, b4, b5, b6, b7, b8, b9, b10⟩ := hm m hmm
    exact ⟨g, b6, b10⟩
  · have q : gv σ 2 6 = -1 ∨ ∃ n, 1 ≤ n ∧ n ≤ 20 ∧ gv σ 2 6 = nI n ∧ ∀ i, i < n → -100 ≤ gr σ 16 i ∧ gr σ 16 i ≤ 100 := by
      rcases hF.2 with q | ⟨k, q1, q2, q3, q4⟩
      · exact Or.inl q
      · exact Or.inr ⟨k, q1, q2, q3, fun i hi => (q4 i hi).2⟩
    have key := fcWB q (B := 100) (by decide) (fun _ => by decide) (fun n' e' hn' i hi => ?_) x
    · exact ⟨key.1, key.2.1⟩
    · rcases q with q | ⟨k, q1, q2, q3, q4⟩
      · rw [q] at e'
        exact absurd e'.symm (nI_neg1 (by omega))
      · have ek : k = n' := (nI_eq (by omega) (by omega)).mp (q3.symm.trans e')
        have := (q4 i (by omega)).2
        rw [Int32.le_iff_toInt_le, show (100 : Int32).toInt = 100 by decide] at this
        exact this
theorem rnOk (hI : InvL Ls σ) (B : Bun σ Ls n O F) (hnn : nn ≤ F) (i : Nat) : ∃ x, x ≤ 1000 ∧ rtW (gr σ 17) (gr σ 18) nn i = nI x := by
  obtain ⟨hF4, _, _⟩ := BunF B
  obtain ⟨r1, r2, F', hF', eF', r3⟩ := hI.2.2.2.2.2.1
  have e : F' = F := (nI_eq (by omega) (by omega)).mp (eF'.symm.trans B.2.1.2.1)
  subst e
  refine rtWB (fun j hj => ?_) nn i hnn
  obtain ⟨h, m, v, q1, q2, q3, q4, q5, q6, q7⟩ := r3 j hj
  exact ⟨v, q3, q7⟩
theorem whOk (B : Bun σ Ls n O F) (w : Int32) {g m : Nat} (hg : g ≤ O) (hm : m < n) : ∃ x, x ≤ 4 ∧ hdO (gr σ 21) (gr σ 22) (gr σ 23) w g m = nI x := by
  have q := B.2.2.1.2.2.2.2.2.2.2.2.2.1 w g m hg hm
  rwa [B.2.2.2.2.2.1, B.2.2.2.2.2.2.1, B.2.2.2.2.2.2.2.1] at q
theorem gtOk (hI : InvL Ls σ) (B : Bun σ Ls n O F) (w : Int32) {g m : Nat} (hg : g ≤ O) (hm : m < n) : ∃ x, x ≤ 9 ∧ hdO (gr σ 21) (gr σ 22) (gr σ 23) w g (m + 7) = nI x ∧ hdO (gr σ 21) (gr σ 22) (gr σ 23) w g (m + 7) ≤ (cfD σ Ls).2.2.2.1 m := by
  have q := B.2.2.1.2.2.2.2.2.2.2.2.2.2 w g m hg hm
  rw [B.2.2.2.2.2.1, B.2.2.2.2.2.2.1, B.2.2.2.2.2.2.2.1] at q
  have e : gv σ 76 m = gr σ 15 m := (congrFun hI.2.1.2.2.2.2.1 m).symm
  rw [e] at q
  exact q
theorem simD_wt (hI : InvL Ls σ) (B : Bun σ Ls n O F) (hnn : nn ≤ F) (w : Int32) (t : Nat) : WtOk (cfD σ Ls) (simD σ Ls O nn w t) :=
  simB (cfOk hI B) (fun h m _ => rnOk hI B hnn _) (fun h m hm => by rw [cfD_n B] at hm; exact gtOk hI B w (gvT_le (h + 1)) hm) (fun h m hm => by rw [cfD_n B] at hm; exact whOk B w (gvT_le (h + 1)) hm) t
theorem simD_wk (hI : InvL Ls σ) (B : Bun σ Ls n O F) (hnn : nn ≤ F) (w : Int32) {m : Nat} (hm : m < n) (t : Nat) : -800 ≤ (simD σ Ls O nn w t 6 m).toInt ∧ (simD σ Ls O nn w t 6 m).toInt ≤ 800 :=
  simWk (cfOk hI B) (fun h m _ => rnOk hI B hnn _) (fun h m hm => by rw [cfD_n B] at hm; exact gtOk hI B w (gvT_le (h + 1)) hm) (fun h m hm => by rw [cfD_n B] at hm; exact whOk B w (gvT_le (h + 1)) hm) t m (by rw [cfD_n B]; exact hm)
end WI
