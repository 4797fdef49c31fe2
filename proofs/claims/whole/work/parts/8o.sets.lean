/-! The reference: what is known, what is set. -/
section KM
variable {σ : St} {Q : St → Prop}
theorem knows2_loop {N : Nat} {cl am : Nat → Int32} (hN : N ≤ 400) (hc : ∀ j, j < N → ∃ h m, 7 * h + m < 1680 ∧ h < 240 ∧ m < 7 ∧ gv σ 78 j = nI h ∧ gv σ 79 j = nI m ∧ cl j = nI (7 * h + m) ∧ gv σ 80 j = am j) (hQ : ∀ τ, Fm (fun a _ => a == 89) σ τ → (∀ i, i < 1680 → gv τ 89 i = rtW cl am N i) → Q τ) : ∀ (d K : Nat) (τ : St), K + d = N → Fm (fun a _ => a == 89) σ τ → (∀ i, i < 1680 → gv τ 89 i = rtW cl am K i) → wX12_knows_24 Q (d + 1) (nI N) (nI K) τ := by
  intro d
  induction d with
  | zero =>
    intro K τ hK f ht
    have e : K = N := by omega
    subst e
    exact ⟨fun _ => hQ τ f ht, fun c => absurd (Int32.le_refl _) c⟩
  | succ d ih =>
    intro K τ hK f ht
    obtain ⟨h, m, h1, h2, h3, e1, e2, e3, e4⟩ := hc K (by omega)
    have vk : vp_in (nI K) 400 := vp_in_nI (by omega) (by decide)
    have e7 : (7 : Int32) * nI h + nI m = nI (7 * h + m) := by rw [show (7 : Int32) = nI 7 from rfl, pk_mul, nI_add]
    rw [wX12_knows_24, nI_clamp (show K < 2 ^ 31 by omega), f.2 78 K rfl, f.2 79 K rfl, f.2 80 K rfl, e1, e2, e4, e7, nI_clamp (by omega)]
    refine ⟨fun c => absurd c (nI_ge (by omega) (by omega)), fun _ => ⟨vk, vk, vk, vp_in_nI h1 (by decide), ?_⟩⟩
    rintro σ6 rfl x2 rfl
    rw [nI_1]
    refine ih (K + 1) _ (by omega) (f.tr (Fm_pv rfl)) (fun i hi => ?_)
    rw [gv_pv, rtW, e3, nI_clamp (by omega)]
    by_cases q : i = 7 * h + m
    · rw [if_pos ⟨rfl, q⟩, if_pos q.symm]
    · rw [if_neg (fun z => q z.2), if_neg (fun z => q z.symm)]
      exact ht i hi
theorem knows1_loop {x1 : Int32} (hQ : ∀ τ, Fm (fun a _ => a == 89) σ τ → (∀ i, i < 1680 → gv τ 89 i = 0) → ∃ j, wX12_knows_24 Q j x1 0 τ) : ∀ (d i : Nat) (τ : St), i + d = 1680 → Fm (fun a _ => a == 89) σ τ → (∀ i', i' < i → gv τ 89 i' = 0) → wX12_knows_2 Q (d + 1) x1 (nI i) τ := by
  intro d
  induction d with
  | zero =>
    intro i τ hi f ht
    have e : i = 1680 := by omega
    subst e
    exact ⟨fun _ => hQ τ f ht, fun c => absurd (by decide) c⟩
  | succ d ih =>
    intro i τ hi f ht
    rw [wX12_knows_2, nI_clamp (show i < 2 ^ 31 by omega)]
    refine ⟨fun c => absurd c (nI_ge (show i < 1680 by omega) (by decide)), fun _ => ⟨vp_in_nI (by omega) (by decide), ?_⟩⟩
    rintro σ3 rfl x2 rfl
    rw [nI_1]
    refine ih (i + 1) _ (by omega) (f.tr (Fm_pv rfl)) (fun i' hi' => ?_)
    rw [gv_pv]
    by_cases q : i' = i
    · rw [if_pos ⟨rfl, q⟩]
    · rw [if_neg (fun z => q z.2)]
      exact ht i' (by omega)
theorem knowsM {N : Nat} {cl am : Nat → Int32} (hN : N ≤ 400) (hc : ∀ j, j < N → ∃ h m, 7 * h + m < 1680 ∧ h < 240 ∧ m < 7 ∧ gv σ 78 j = nI h ∧ gv σ 79 j = nI m ∧ cl j = nI (7 * h + m) ∧ gv σ 80 j = am j) (hQ : ∀ τ, Fm (fun a _ => a == 89) σ τ → (∀ i, i < 1680 → gv τ 89 i = rtW cl am N i) → Q τ) : wX12_knows (nI N) σ Q := by
  refine ⟨1681, knows1_loop (fun τ f ht => ⟨N + 1, knows2_loop (σ := τ) (cl := cl) (am := am) hN (fun j hj => ?_) (fun υ fu hu => hQ υ (f.tr fu) hu) N 0 τ (by omega) Fm.rf ht⟩) 1680 0 σ (by omega) Fm.rf (fun _ q => absurd q (by omega))⟩
  rw [f.2 78 j rfl, f.2 79 j rfl, f.2 80 j rfl]
  exact hc j hj
end KM
section TM
variable {σ : St} {Q : St → Prop} {O : Nat} {w : Int32}
def xW (a _j : Nat) : Bool := a == 90 || a == 91
/-- fourteen settings of an hour -/
theorem sets97 {Kk : Int32 → Int32 → Int32 → St → Prop} {x1 x2 : Int32} {h : Nat} (hh : h < 240) {σ : St} (hQ : ∀ τ, Fm (fun a _ => a == 90) σ τ → (∀ i, i < 14 → gv τ 90 (14 * h + i) = gv σ 91 i) → (∀ j, j < 14 * h → gv τ 90 j = gv σ 90 j) → Kk x1 x2 (nI (h + 1)) τ) : ∀ (d i : Nat) (τ : St), i + d = 14 → Fm (fun a _ => a == 90) σ τ → (∀ i', i' < i → gv τ 90 (14 * h + i') = gv σ 91 i') → (∀ j, j < 14 * h → gv τ 90 j = gv σ 90 j) → wX12_sets_97 Q Kk (d + 1) x1 x2 (nI h) (nI i) τ := by
  intro d
  induction d with
  | zero =>
    intro i τ hi f ha hb
    have e : i = 14 := by omega
    subst e
    refine ⟨fun _ => ?_, fun c => absurd (by decide) c⟩
    rintro x3 rfl
    rw [nI_1]
    exact hQ τ f ha hb
  | succ d ih =>
    intro i τ hi f ha hb
    have e14 : (14 : Int32) * nI h + nI i = nI (14 * h + i) := by rw [show (14 : Int32) = nI 14 from rfl, pk_mul, nI_add]
    rw [wX12_sets_97, e14, nI_clamp (show i < 2 ^ 31 by omega), nI_clamp (by omega), f.2 91 i rfl]
    refine ⟨fun c => absurd c (nI_ge (show i < 14 by omega) (by decide)), fun _ => ⟨vp_in_nI (by omega) (by decide), vp_in_nI (by omega) (by decide), ?_⟩⟩
    rintro σ5 rfl x4 rfl
    rw [nI_1]
    refine ih (i + 1) _ (by omega) (f.tr (Fm_pv rfl)) (fun i' hi' => ?_) (fun j hj => ?_)
    · rw [gv_pv]
      by_cases q : i' = i
      · subst q
        rw [if_pos ⟨rfl, rfl⟩]
      · rw [if_neg (by omega)]
        exact ha i' (by omega)
    · rw [gv_pv, if_neg (by omega)]
      exact hb j hj
/-- orders by an hour -/
theorem sets32 {Kk : Int32 → Int32 → Int32 → St → Prop} {h : Nat} (hh : h < 240) (hO : O ≤ 200) (eO : gv σ 11 56 = nI O) (hmi : ∀ j, j < O → ∃ m, m < 7 ∧ gv σ 82 j = nI m) {R : Nat}
    (hQ : ∀ τ, Fm (fun a _ => a == 91) σ τ → (∀ i, i < 14 → gv τ 91 i = hdO (gr σ 82) (gr σ 83) (gr σ 84) w R i) → wX12_sets_94 Q Kk w (nI R) (nI h) τ) :
    ∀ (d g f : Nat) (τ : St), O - g ≤ d → O - g ≤ f → g ≤ O → cnO (gr σ 81) O h f g = R → Fm (fun a _ => a == 91) σ τ → (∀ i, i < 14 → gv τ 91 i = hdO (gr σ 82) (gr σ 83) (gr σ 84) w g i) → wX12_sets_32 Q Kk (d + 1) w (nI g) (nI h) τ := by
  intro d
  induction d with
  | zero =>
    intro g f τ h1 h2 h3 hR fr hd
    have hgO : g = O := by omega
    have hRg : R = g := by
      rw [← hR]
      cases f with
      | zero => rfl
      | succ f => rw [cnO, if_neg (by omega)]
    subst hRg
    refine ⟨fun _ => hQ τ fr hd, fun c => ?_⟩
    rw [fr.2 11 56 rfl, eO, hgO] at c
    exact absurd (Int32.le_refl _) c
  | succ d ih =>
    intro g f τ h1 h2 h3 hR fr hd
    have cg : (nI g).toNatClampNeg = g := nI_clamp (by omega)
    rw [wX12_sets_32, fr.2 11 56 rfl, eO, cg, fr.2 81 g rfl, fr.2 83 g rfl, fr.2 82 g rfl]
    by_cases hgO : g = O
    · have hRg : R = g := by
        rw [← hR]
        cases f with
        | zero => rfl
        | succ f => rw [cnO, if_neg (by omega)]
      subst hRg
      exact ⟨fun _ => hQ τ fr hd, fun c => absurd (by rw [hgO]; exact Int32.le_refl _) c⟩
    have hgl : g < O := by omega
    obtain ⟨f, rfl⟩ : ∃ f', f = f' + 1 := ⟨f - 1, by omega⟩
    have vg : vp_in (nI g) 200 := vp_in_nI (by omega) (by decide)
    refine ⟨fun c => absurd c (nI_ge hgl (by omega)), fun _ => ⟨vg, fun c => ?_, fun c => ?_⟩⟩
    · have hRg : R = g := by rw [← hR, cnO, if_neg (fun q => i32_le.mpr c q.2)]
      subst hRg
      exact hQ τ fr hd
    have hR' : cnO (gr σ 81) O h f (g + 1) = R := by
      rw [cnO, if_pos ⟨hgl, i32_lt.mp c⟩] at hR
      exact hR
    have nxt : ∀ τ', Fm (fun a _ => a == 91) σ τ' → (∀ i, i < 14 → gv τ' 91 i = hdO (gr σ 82) (gr σ 83) (gr σ 84) w (g + 1) i) → wX12_sets_88 Q Kk (fun x1' x2' x3' σ' => wX12_sets_32 Q Kk (d + 1) x1' x2' x3' σ') w (nI g) (nI h) τ' := by
      intro τ' fr' hd' x2 e2
      rw [e2, nI_1]
      exact ih (g + 1) f τ' (by omega) (by omega) (by omega) hR' fr' hd'
    refine ⟨fun c2 => nxt τ fr (fun i hi => by rw [hdO, if_neg (fun q => q.1 c2)]; exact hd i hi), fun c2 => ⟨vg, vg, ?_⟩⟩
    obtain ⟨mm, hm7, emm⟩ := hmi g hgl
    rw [emm]
    have cmm : (gr σ 82 g).toNatClampNeg = mm := by rw [show gr σ 82 g = nI mm from emm]; exact nI_clamp (by omega)
    have st : ∀ (z : Nat) (y : Int32), y = nI z → (if gr σ 83 g = 0 then 0 else 7) = z → wX12_sets_80 Q Kk (fun x1' x2' x3' σ' => wX12_sets_32 Q Kk (d + 1) x1' x2' x3' σ') w (nI g) (nI h) (nI mm) y τ := by
      intro z y hy hz
      have hz7 : z ≤ 7 := by rw [← hz]; split <;> omega
      unfold wX12_sets_80
      rw [hy, nI_add, cg, fr.2 84 g rfl, nI_clamp (by omega)]
      refine ⟨vg, vp_in_nI (by omega) (by decide), ?_⟩
      rintro σ3 rfl
      refine nxt _ (fr.tr (Fm_pv rfl)) (fun i hi => ?_)
      rw [gv_pv, hdO, cmm, hz]
      by_cases q : i = mm + z
      · rw [if_pos ⟨rfl, q⟩, if_pos ⟨c2, q.symm⟩]
        rfl
      · rw [if_neg (fun z => q z.2), if_neg (fun z => q z.2.symm)]
        exact hd i hi
    exact ⟨fun c3 => st 0 0 rfl (if_pos c3), fun c3 => st 7 7 rfl (if_neg c3)⟩
theorem sets25 (hO : O ≤ 200) (eO : gv σ 11 56 = nI O) (hmi : ∀ j, j < O → ∃ m, m < 7 ∧ gv σ 82 j = nI m) (hQ : ∀ τ, Fm xW σ τ → (∀ h i, h < 240 → i < 14 → gv τ 90 (14 * h + i) = hdO (gr σ 82) (gr σ 83) (gr σ 84) w (gvO (gr σ 81) O h) i) → Q τ) : ∀ (d h : Nat) (τ : St), h + d = 240 → Fm xW σ τ → (∀ i, i < 14 → gv τ 91 i = hdO (gr σ 82) (gr σ 83) (gr σ 84) w (gvT (gr σ 81) O h) i) → (∀ h' i, h' < h → i < 14 → gv τ 90 (14 * h' + i) = hdO (gr σ 82) (gr σ 83) (gr σ 84) w (gvO (gr σ 81) O h') i) → wX12_sets_25 Q (d + 1) w (nI (gvT (gr σ 81) O h)) (nI h) τ := by
  intro d
  induction d with
  | zero =>
    intro h τ hh f _ ha
    have e : h = 240 := by omega
    subst e
    exact ⟨fun _ => hQ τ f ha, fun c => absurd (by decide) c⟩
  | succ d ih =>
    intro h τ hh f h91 ha
    rw [wX12_sets_25]
    refine ⟨fun c => absurd c (nI_ge (show h < 240 by omega) (by decide)), fun _ => ?_⟩
    have a82 : gr τ 82 = gr σ 82 := f.gr (fun _ => rfl)
    have a83 : gr τ 83 = gr σ 83 := f.gr (fun _ => rfl)
    have a84 : gr τ 84 = gr σ 84 := f.gr (fun _ => rfl)
    have a81 : gr τ 81 = gr σ 81 := f.gr (fun _ => rfl)
    refine ⟨O + 1, sets32 (σ := τ) (R := gvT (gr σ 81) O (h + 1)) (by omega) hO ((f.2 11 56 rfl).trans eO) (fun j hj => by rw [f.2 82 j rfl]; exact hmi j hj) (fun υ fu hd => ?_) O (gvT (gr σ 81) O h) O τ (by omega) (by omega) (gvT_le h) (by rw [a81, gvT_succ]) Fm.rf (by rw [a82, a83, a84]; exact h91)⟩
    rw [a82, a83, a84] at hd
    refine ⟨15, sets97 (σ := υ) (by omega) (fun τ2 f2 h2 hb2 => ?_) 14 0 υ (by omega) Fm.rf (fun _ q => absurd q (by omega)) (fun _ _ => rfl)⟩
    have fw : Fm xW σ τ2 := (f.tr (fu.mono (fun a j q => by unfold xW at q; simp only [Bool.or_eq_false_iff] at q; exact q.2))).tr (f2.mono (fun a j q => by unfold xW at q; simp only [Bool.or_eq_false_iff] at q; exact q.1))
    refine ih (h + 1) τ2 (by omega) fw (fun i hi => ?_) (fun h' i hh' hi => ?_)
    · rw [f2.2 91 i rfl]
      exact hd i hi
    · by_cases q : h' = h
      · subst q
        rw [h2 i hi, hd i hi]
        rfl
      · rw [hb2 _ (by omega), fu.2 90 _ rfl]
        exact ha h' i (by omega) hi
theorem sets2 {x1 : Int32} (hQ : ∀ τ, Fm (fun a _ => a == 91) σ τ → (∀ i, i < 14 → gv τ 91 i = 0) → ∃ j, wX12_sets_25 Q j x1 0 0 τ) : ∀ (d i : Nat) (τ : St), i + d = 14 → Fm (fun a _ => a == 91) σ τ → (∀ i', i' < i → gv τ 91 i' = 0) → wX12_sets_2 Q (d + 1) x1 (nI i) τ := by
  intro d
  induction d with
  | zero =>
    intro i τ hi f ht
    have e : i = 14 := by omega
    subst e
    exact ⟨fun _ => hQ τ f ht, fun c => absurd (by decide) c⟩
  | succ d ih =>
    intro i τ hi f ht
    rw [wX12_sets_2, nI_clamp (show i < 2 ^ 31 by omega)]
    refine ⟨fun c => absurd c (nI_ge (show i < 14 by omega) (by decide)), fun _ => ⟨vp_in_nI (by omega) (by decide), ?_⟩⟩
    rintro σ3 rfl x2 rfl
    rw [nI_1]
    refine ih (i + 1) _ (by omega) (f.tr (Fm_pv rfl)) (fun i' hi' => ?_)
    rw [gv_pv]
    by_cases q : i' = i
    · rw [if_pos ⟨rfl, q⟩]
    · rw [if_neg (fun z => q z.2)]
      exact ht i' (by omega)
theorem setsM (hO : O ≤ 200) (eO : gv σ 11 56 = nI O) (hmi : ∀ j, j < O → ∃ m, m < 7 ∧ gv σ 82 j = nI m) (hQ : ∀ τ, Fm xW σ τ → (∀ h i, h < 240 → i < 14 → gv τ 90 (14 * h + i) = hdO (gr σ 82) (gr σ 83) (gr σ 84) w (gvO (gr σ 81) O h) i) → Q τ) : wX12_sets w σ Q := by
  refine ⟨15, sets2 (fun τ f ht => ?_) 14 0 σ (by omega) Fm.rf (fun _ q => absurd q (by omega))⟩
  have a82 : gr τ 82 = gr σ 82 := f.gr (fun _ => rfl)
  have a83 : gr τ 83 = gr σ 83 := f.gr (fun _ => rfl)
  have a84 : gr τ 84 = gr σ 84 := f.gr (fun _ => rfl)
  have a81 : gr τ 81 = gr σ 81 := f.gr (fun _ => rfl)
  have fw : Fm xW σ τ := f.mono (fun a j q => by unfold xW at q; simp only [Bool.or_eq_false_iff] at q; exact q.2)
  refine ⟨241, sets25 (σ := τ) hO ((f.2 11 56 rfl).trans eO) (fun j hj => by rw [f.2 82 j rfl]; exact hmi j hj) (fun υ fu hu => ?_) 240 0 τ (by omega) Fm.rf (fun i hi => (ht i hi).trans hdO_zero.symm) (fun _ _ q => absurd q (by omega))⟩
  rw [a81, a82, a83, a84] at hu
  exact hQ υ (fw.tr fu) hu
end TM
