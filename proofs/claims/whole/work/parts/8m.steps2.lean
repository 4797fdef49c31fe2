/-! An hour in the reference. -/
def xP (a _j : Nat) : Bool := a == 88 || a == 92 || a == 93
theorem cfM_fm {X : Nat → Nat → Bool} {σ τ : St} {Ls : List Ru} (f : Fm X σ τ) (h11 : ∀ j, j = 43 ∨ j = 48 ∨ j = 49 → X 11 j = false) (hx : ∀ a j, 73 ≤ a → a ≤ 77 → X a j = false) : cfM τ Ls = cfM σ Ls := by
  unfold cfM
  rw [f.2 11 43 (h11 43 (by omega)), f.2 11 48 (h11 48 (by omega)), f.2 11 49 (h11 49 (by omega)), f.gr (fun j => hx 73 j (by decide) (by decide)), f.gr (fun j => hx 74 j (by decide) (by decide)), f.gr (fun j => hx 76 j (by decide) (by decide)), f.gr (fun j => hx 77 j (by decide) (by decide))]
theorem xP_no {a j : Nat} (h1 : a ≠ 88) (h2 : a ≠ 92) (h3 : a ≠ 93) : xP a j = false := by simp [xP, h1, h2, h3]
section S2
variable {σ : St} {Q : St → Prop} {Ls : List Ru} {h n : Nat} {e : Rw} {G : Nat → Int32}
/-- the second loop, over the mills -/
theorem st2_loop (hL : LwM σ Ls) (hn : n ≤ 7) (eN : gv σ 11 43 = nI n) (hh : h < 240) (hF : FcOk (gv σ 11 49)) (hcap : ∀ m, m < n → ∃ c, c ≤ 1000 ∧ gv σ 73 m = nI c) (hmg : ∀ m, m < n → ∃ g, g ≤ 9 ∧ gv σ 76 m = nI g) (hr : ∀ i m, i < 3 → m < n → gv σ 88 (10 * (7 * h + m) + i) = e i m) (hGs : ∀ m, m < n → gv σ 90 (14 * h + 7 + m) = G m) (hG : ∀ m, m < n → ∃ g, g ≤ 9 ∧ G m = nI g ∧ G m ≤ gv σ 76 m) (hW : ∀ m, m < n → ∃ w, w ≤ 4 ∧ e 2 m = nI w)
    (hQ : ∀ τ, Fm xP σ τ → (∀ i m, i < 10 → m < n → gv τ 88 (10 * (7 * h + m) + i) = setW (cfM σ Ls) G h e i m) → (∀ m, m < n → gv τ 93 m = setW (cfM σ Ls) G h e 0 m + (setW (cfM σ Ls) G h e 1 m - setW (cfM σ Ls) G h e 9 m)) → (∀ j, j < 70 * h → gv τ 88 j = gv σ 88 j) → (((240 : Int32) ≤ nI h + 1 → Q τ) ∧ (¬ ((240 : Int32) ≤ nI h + 1) → ∃ j : Nat, wX12_steps_568 Q j (nI h) (0 : Int32) τ))) :
    ∀ (d m : Nat) (τ : St), m + d = n → Fm xP σ τ → (∀ i m', 3 ≤ i → i < 10 → m' < m → gv τ 88 (10 * (7 * h + m') + i) = setW (cfM σ Ls) G h e i m') → (∀ m', m' < m → gv τ 93 m' = setW (cfM σ Ls) G h e 0 m' + (setW (cfM σ Ls) G h e 1 m' - setW (cfM σ Ls) G h e 9 m')) → (∀ j, (∀ i m', 3 ≤ i → i < 10 → m' < m → j ≠ 10 * (7 * h + m') + i) → gv τ 88 j = gv σ 88 j) → wX12_steps_123 Q (d + 1) (nI h) (nI m) τ := by
  have hcl : (gv σ 11 43).toNatClampNeg = n := by rw [eN]; exact nI_clamp (by omega)
  intro d
  induction d with
  | zero =>
    intro m τ hm f ha h93 hb
    have hmn : m = n := by omega
    subst hmn
    refine ⟨fun _ => hQ τ f (fun i m' hi hm' => ?_) h93 (fun j hj => hb j (fun i m' _ _ _ => by omega)), fun c => ?_⟩
    · by_cases h3 : 3 ≤ i
      · exact ha i m' h3 hi hm'
      · rw [hb _ (fun i' m'' h1 h2 _ => by omega), hr i m' (by omega) hm']
        rcases (show i = 0 ∨ i = 1 ∨ i = 2 by omega) with rfl | rfl | rfl <;> rfl
    · rw [f.2 11 43 rfl, eN] at c
      exact absurd (Int32.le_refl _) c
  | succ d ih =>
    intro m τ hm f ha h93 hb
    have hmn : m < n := by omega
    have cm : (nI m).toNatClampNeg = m := nI_clamp (by omega)
    have lo : ∀ a b, a ≠ 88 → a ≠ 92 → a ≠ 93 → gv τ a b = gv σ a b := fun a b h1 h2 h3 => f.2 a b (xP_no h1 h2 h3)
    have eNτ : gv τ 11 43 = nI n := (lo 11 43 (by decide) (by decide) (by decide)).trans eN
    have hLτ : LwM τ Ls := hL.fm f rfl (fun a j h1 h2 => xP_no (by omega) (by omega) (by omega))
    obtain ⟨g, hg9, eg, hgm⟩ := hG m hmn
    obtain ⟨mg, hmg9, emg⟩ := hmg m hmn
    rw [wX12_steps_123, eNτ]
    refine ⟨fun c => absurd c (nI_ge hmn (by omega)), fun _ => ?_⟩
    intro x5 e5
    rw [ixN] at e5
    subst e5
    have e14 : (14 : Int32) * nI h + 7 + nI m = nI (14 * h + 7 + m) := by
      rw [show (14 : Int32) = nI 14 from rfl, show (7 : Int32) = nI 7 from rfl, pk_mul, nI_add, nI_add]
    rw [e14, nI_clamp (by omega), lo 90 _ (by decide) (by decide) (by decide), hGs m hmn]
    refine ⟨vp_in_nI (by omega) (by decide), ?_⟩
    rintro x6 rfl
    refine ⟨Ls.length + 1, ?_⟩
    have hrτ : ∀ i m', i < 3 → m' < n → gv τ 88 (10 * (7 * h + m') + i) = e i m' := fun i m' hi hm' => by
      rw [hb _ (fun i' m'' h1 h2 _ => by omega)]
      exact hr i m' hi hm'
    have hog : G m ≠ -1 := by rw [eg]; exact nI_neg1 (by omega)
    have hvr := varM_O (Ls := Ls) eNτ hmn hn hh hrτ hog
    have ecf : cfM τ Ls = cfM σ Ls := cfM_fm f (fun j hj => by rcases hj with rfl | rfl | rfl <;> rfl) (fun a j h1 h2 => xP_no (by omega) (by omega) (by omega))
    rw [ecf] at hvr
    have e76 : gv τ 76 m = gv σ 76 m := lo 76 m (by decide) (by decide) (by decide)
    have hcl2 : clI (G m) (gv σ 76 m) = G m := if_pos hgm
    have ebd := opG_bd (m := m) (d := nI (h / 24)) (v := envO (cfM σ Ls) e h m (G m)) Ls (G m) hgm
    have eGt : opG Ls (gv σ 76 m) m (nI (h / 24)) (envO (cfM σ Ls) e h m (G m)) (G m) = gtW (cfM σ Ls) G h e m := rfl
    rw [eGt] at ebd
    have hGt : ∃ g', g' ≤ 9 ∧ gtW (cfM σ Ls) G h e m = nI g' := by
      rw [eg] at ebd
      obtain ⟨y, hy, ey⟩ := nI_of (x := gtW (cfM σ Ls) G h e m) (fun q => by
        have := Int32.lt_of_le_of_lt ebd.1 q
        exact nI_pos (by omega) this)
      rw [ey, emg] at ebd
      have := (nI_leI hy (by omega)).mp ebd.2
      exact ⟨y, by omega, ey⟩
    have key := opnM_loop (Q := Q) (K := fun x1' x4' σ' => wX12_steps_123 Q (d + 1) x1' x4' σ') (x5 := nI (10 * (7 * h + m))) (RES := gtW (cfM σ Ls) G h e m) hLτ (by omega) hh hvr e76 (fun f9 => ?_) Ls 0 (G m) (gr τ 92) (by omega) (fun j => by rw [Nat.zero_add]) (by rw [hcl2]; exact eGt)
    · rw [pa_self] at key
      exact key
    have f1 : Fm xP σ (pa τ 92 f9) := f.tr (Fm_pa (fun _ => rfl))
    have rd : ∀ a b, a ≠ 92 → gv (pa τ 92 f9) a b = gv τ a b := fun a b h1 => by rw [gv_pa, if_neg h1]
    have ecf1 : cfM (pa τ 92 f9) Ls = cfM σ Ls := cfM_fm f1 (fun j hj => by rcases hj with rfl | rfl | rfl <;> rfl) (fun a j h1 h2 => xP_no (by omega) (by omega) (by omega))
    refine milM (Ls := Ls) (e := e) hmn hn hh (by rw [rd 11 43 (by decide)]; exact eNτ) (by rw [f1.2 11 49 rfl]; exact hF) (by rw [f1.2 73 m rfl]; exact hcap m hmn) (fun i m' hi hm' => by rw [rd _ _ (by decide)]; exact hrτ i m' hi hm') hGt (hW m hmn) (fun υ fu uj u93 u3 u4 u5 u6 u7 u8 u9 uL => ?_)
    rw [ecf1] at u4 u6
    rw [f1.2 73 m rfl] at u8 u9 uL
    rw [f1.2 11 49 rfl, f1.gr (k := 77) (fun _ => rfl)] at u6
    have fu' : Fm xP σ υ := f1.tr (fu.mono (fun a j q => by
      unfold xP at q
      simp only [Bool.or_eq_false_iff] at q
      simp [q.1.1, q.2]))
    have eth : jmin (3 * gtW (cfM σ Ls) G h e m) (e 0 m + e 1 m - usW e m) = thW (cfM σ Ls) G h e m := rfl
    rw [eth] at u7 u8 u9 uL
    have esp : jmax (e 0 m + e 1 m - usW e m - thW (cfM σ Ls) G h e m - gv σ 73 m) 0 = spW (cfM σ Ls) G h e m := by unfold spW; rfl
    rw [esp] at u8 u9 uL
    refine ih (m + 1) υ (by omega) fu' (fun i m' h3 h10 hm' => ?_) (fun m' hm' => ?_) (fun j hj => ?_)
    · by_cases hmm : m' = m
      · subst hmm
        rcases (show i = 3 ∨ i = 4 ∨ i = 5 ∨ i = 6 ∨ i = 7 ∨ i = 8 ∨ i = 9 by omega) with rfl | rfl | rfl | rfl | rfl | rfl | rfl
        · exact u3
        · exact u4
        · exact u5
        · exact u6
        · exact u7
        · exact u8
        · exact u9
      · rw [uj _ (fun i' h1 h2 => by omega), rd _ _ (by decide)]
        exact ha i m' h3 h10 (by omega)
    · by_cases hmm : m' = m
      · subst hmm
        rw [uL]
        show _ = e 0 m' + (e 1 m' - (usW e m' + thW (cfM σ Ls) G h e m' + spW (cfM σ Ls) G h e m'))
        rw [← lvl_eq]
      · rw [u93 m' hmm, rd _ _ (by decide)]
        exact h93 m' (by omega)
    · rw [uj _ (fun i' h1 h2 => hj i' m h1 h2 (by omega)), rd _ _ (by decide)]
      exact hb j (fun i m' h1 h2 h3 => hj i m' h1 h2 (by omega))
/-- the levels at the next hour's beginning -/
theorem st3_loop (hn : n ≤ 7) (eN : gv σ 11 43 = nI n) (hh : h + 1 < 240) (hQ : ∀ τ, Fm xP σ τ → (∀ m, m < n → gv τ 88 (10 * (7 * (h + 1) + m)) = gv σ 93 m) → (∀ j, j < 70 * (h + 1) → gv τ 88 j = gv σ 88 j) → Q τ) : ∀ (d m : Nat) (τ : St), m + d = n → Fm (fun a _ => a == 88) σ τ → (∀ m', m' < m → gv τ 88 (10 * (7 * (h + 1) + m')) = gv σ 93 m') → (∀ j, j < 70 * (h + 1) → gv τ 88 j = gv σ 88 j) → wX12_steps_568 Q (d + 1) (nI h) (nI m) τ := by
  intro d
  induction d with
  | zero =>
    intro m τ hm f ha hb
    have hmn : m = n := by omega
    subst hmn
    refine ⟨fun _ => hQ τ (f.mono (fun a j q => by unfold xP at q; simp only [Bool.or_eq_false_iff] at q; exact q.1.1)) ha hb, fun c => ?_⟩
    rw [f.2 11 43 rfl, eN] at c
    exact absurd (Int32.le_refl _) c
  | succ d ih =>
    intro m τ hm f ha hb
    have hmn : m < n := by omega
    rw [wX12_steps_568, f.2 11 43 rfl, eN, nI_1, ixN, nI_clamp (by omega), nI_clamp (by omega), f.2 93 m rfl]
    refine ⟨fun c => absurd c (nI_ge hmn (by omega)), fun _ => ⟨vp_in_nI (by omega) (by decide), vp_in_nI (by omega) (by decide), ?_⟩⟩
    rintro σ4 rfl x4 rfl
    rw [nI_1]
    refine ih (m + 1) _ (by omega) (f.tr (Fm_pv rfl)) (fun m' hm' => ?_) (fun j hj => ?_)
    · rw [gv_pv]
      by_cases hmm : m' = m
      · subst hmm
        rw [if_pos ⟨rfl, rfl⟩]
      · rw [if_neg (by omega)]
        exact ha m' (by omega)
    · rw [gv_pv, if_neg (by omega)]
      exact hb j hj
end S2
