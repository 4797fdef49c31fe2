/-! Frames; rules depend on twelve vars; what is opened. -/
def Fm (X : Nat → Nat → Bool) (σ τ : St) : Prop := τ.2 = σ.2 ∧ ∀ k j, X k j = false → gv τ k j = gv σ k j
section FM
variable {X Y : Nat → Nat → Bool} {σ τ υ : St} {k : Nat}
theorem Fm.rf : Fm X σ σ := ⟨rfl, fun _ _ _ => rfl⟩
theorem Fm.tr (h1 : Fm X σ τ) (h2 : Fm X τ υ) : Fm X σ υ := ⟨h2.1.trans h1.1, fun k j h => (h2.2 k j h).trans (h1.2 k j h)⟩
theorem Fm.mono (h1 : Fm X σ τ) (h : ∀ k j, Y k j = false → X k j = false) : Fm Y σ τ := ⟨h1.1, fun k j q => h1.2 k j (h k j q)⟩
theorem Fm.gr (h : Fm X σ τ) (hx : ∀ j, X k j = false) : gr τ k = gr σ k := funext (fun j => h.2 k j (hx j))
theorem Fm.gn (h : Fm X σ τ) : gn τ = gn σ := congrArg (fun z : (Nat → Nat → Int64) × Nat × Nat => z.2.1) h.1
theorem Fm.gw (h : Fm X σ τ) : gw τ k = gw σ k := congrArg (fun z : (Nat → Nat → Int64) × Nat × Nat => z.1 k) h.1
theorem Fm_pa {f : Nat → Int32} (hx : ∀ j, X k j = true) : Fm X σ (pa σ k f) := ⟨rfl, fun a j h => by
  rw [gv_pa, if_neg (fun e => by rw [e, hx] at h; cases h)]⟩
theorem Fm_pv {j : Nat} {x : Int32} (hx : X k j = true) : Fm X σ (pv σ k j x) := ⟨rfl, fun a b h => by
  rw [gv_pv, if_neg (fun e => by rw [e.1, e.2, hx] at h; cases h)]⟩
end FM
theorem evS_congr {v v' : Nat → Int32} (hv : ∀ k, k < 12 → v k = v' k) : ∀ {cs : Ex}, (∀ c ∈ cs, c ≤ -27 → -38 ≤ c) → ∀ st, evS v cs st = evS v' cs st
  | [], _, _ => rfl
  | c :: cs, h, st => by
    have e : stp v st c = stp v' st c := by
      by_cases g : psh c = true
      · rw [stp_p g, stp_p g]
        unfold vlc
        by_cases g2 : 0 ≤ c
        · rw [if_pos g2, if_pos g2]
        · rw [if_neg g2, if_neg g2]
          have g3 : ¬ (-27 : Int32) < c := fun q => by rw [psh_no g2 q] at g; cases g
          obtain ⟨k, hk, ek⟩ := var_ix g3 (h c List.mem_cons_self (i32_lt.mp g3))
          rw [ek, nI_clamp (by omega), hv k hk]
      · unfold stp
        rw [if_neg g, if_neg g]
    rw [evS_cons, evS_cons, e]
    exact evS_congr hv (fun x hx => h x (List.mem_cons_of_mem _ hx)) _
theorem evX_congr {v v' : Nat → Int32} (hv : ∀ k, k < 12 → v k = v' k) {E : Ex} (h : okE E) : evX v E = evX v' E := by
  unfold evX
  rw [evS_congr hv (okE_38 h)]
theorem rlV_congr {v v' : Nat → Int32} (hv : ∀ k, k < 12 → v k = v' k) {r : Rl} (h : okR r) : rlV v r.2.1 r.2.2.1 r.2.2.2 = rlV v' r.2.1 r.2.2.1 r.2.2.2 := by
  unfold rlV
  rw [evX_congr hv h.1, evX_congr hv h.2.2]
theorem hlV_congr {v v' : Nat → Int32} (hv : ∀ k, k < 12 → v k = v' k) : ∀ {l : List Rl}, (∀ r ∈ l, okR r) → ∀ a, hlV v a l = hlV v' a l
  | [], _, _ => rfl
  | (o, L, s, R) :: l, h, a => by
    have hl : ∀ r ∈ l, okR r := fun r hr => h r (List.mem_cons_of_mem _ hr)
    have e := rlV_congr hv (h _ List.mem_cons_self)
    dsimp only at e
    simp only [hlV]
    rw [e, hlV_congr hv hl, hlV_congr hv hl]
theorem ruF_congr {v v' : Nat → Int32} (hv : ∀ k, k < 12 → v k = v' k) {r : Ru} (h : okRu r) (m : Nat) (d : Int32) : ruF r m d v = ruF r m d v' := by
  unfold ruF
  rw [hlV_congr hv h.2.2.2.1]
theorem ruB_congr {v v' : Nat → Int32} (hv : ∀ k, k < 12 → v k = v' k) {r : Ru} (h : okRu r) (m : Nat) (d : Int32) : ruB r m d v = ruB r m d v' := by
  unfold ruB
  rw [ruF_congr hv h]
  cases ho : r.1 with
  | true => simp only [Bool.not_true, Bool.false_and]
  | false => rw [hlV_congr hv (h.2.2.1 ho).1.1]
theorem opS_no {mg : Int32} {m : Nat} {d : Int32} {v : Nat → Int32} {g : Int32} {r : Ru} (h : (r.1 && ruF r m d v) = false) : opS mg m d v g r = g := by
  unfold opS
  rw [h]
  exact if_neg (by decide)
theorem opS_yes {mg : Int32} {m : Nat} {d : Int32} {v : Nat → Int32} {g : Int32} {r : Ru} (h : (r.1 && ruF r m d v) = true) : opS mg m d v g r = jmax g (jmin (evX v r.2.2.2.2.2.1) mg) := by
  unfold opS
  rw [h]
  exact if_pos rfl
theorem opS_congr {v v' : Nat → Int32} (hv : ∀ k, k < 12 → v k = v' k) (mg : Int32) (m : Nat) (d : Int32) {r : Ru} (hr : okRu r) (g : Int32) : opS mg m d v g r = opS mg m d v' g r := by
  have e := ruF_congr hv hr m d
  cases hb : (r.1 && ruF r m d v) with
  | false => rw [opS_no hb, opS_no (by rw [← e]; exact hb)]
  | true =>
    have ho : r.1 = true := by
      rw [Bool.and_eq_true] at hb
      exact hb.1
    rw [opS_yes hb, opS_yes (by rw [← e]; exact hb), evX_congr hv (hr.2.1 ho)]
theorem opG_nil {mg : Int32} {m : Nat} {d : Int32} {v : Nat → Int32} {g : Int32} : opG [] mg m d v g = g := rfl
theorem opG_congr {v v' : Nat → Int32} (hv : ∀ k, k < 12 → v k = v' k) (mg : Int32) (m : Nat) (d : Int32) (rs : List Ru) (h : ∀ r ∈ rs, okRu r) : ∀ g, opG rs mg m d v g = opG rs mg m d v' g := by
  induction rs with
  | nil => intro g; rw [opG_nil, opG_nil]
  | cons r rs ih =>
    intro g
    rw [opG_cons, opG_cons, opS_congr hv mg m d (h r List.mem_cons_self)]
    exact ih (fun x hx => h x (List.mem_cons_of_mem _ hx)) _
def xV (a j : Nat) : Bool := a == 37 || a == 38 || (a == 8 && j == 18)
section OP
variable {σ τ0 : St} {Q : Int32 → St → Prop} {Ls : List Ru} {k h m n : Nat}
theorem opn_loop (hL : LwD τ0 Ls) (hm : m < 7) {d mg R : Int32} (hd : gv τ0 8 18 = d) (hmg : gv τ0 15 m = mg) (hQ : ∀ f, Q R (pa τ0 38 f)) : ∀ (l : List Ru) (i : Nat) (g : Int32) (f : Nat → Int32), i + l.length = Ls.length → (∀ j, l[j]? = Ls[i + j]?) → opG l mg m d (gr τ0 37) g = R → wX2_opened_25 k Q (l.length + 1) (nI m) g (nI i) (pa τ0 38 f) := by
  intro l
  induction l with
  | nil =>
    intro i g f hi _ hR
    simp only [List.length_nil, Nat.add_zero] at hi
    have e : gv (pa τ0 38 f) 8 1 = nI Ls.length := by rw [gv_pa, if_neg (by decide)]; exact hL.2.1
    refine ⟨fun _ => ?_, fun c => ?_⟩
    · have : g = R := hR
      rw [this]
      exact hQ f
    · rw [e, hi] at c
      exact absurd (Int32.le_refl _) c
  | cons r l ih =>
    intro i g f hi hl hR
    simp only [List.length_cons] at hi ⊢
    have h30 := hL.2.2.1
    have e : gv (pa τ0 38 f) 8 1 = nI Ls.length := by rw [gv_pa, if_neg (by decide)]; exact hL.2.1
    have hr : Ls[i]? = some r := (hl 0).symm
    have hok := hL.2.2.2.1 _ (List.mem_of_getElem? hr)
    have ci : (nI i).toNatClampNeg = i := nI_clamp (by omega)
    have vi : vp_in (nI i) 30 := vp_in_nI (by omega) (by decide)
    have hl' : ∀ j, l[j]? = Ls[i + 1 + j]? := fun j => by
      have := hl (j + 1)
      rw [show i + 1 + j = i + (j + 1) by omega, ← this]
      rfl
    have nxt : ∀ (g' : Int32) (f' : Nat → Int32), opG l mg m d (gr τ0 37) g' = R → wX2_opened_88 k Q (fun x2' x4' x5' σ' => wX2_opened_25 k Q (l.length + 1) x2' x4' x5' σ') (nI m) g' (nI i) (pa τ0 38 f') := by
      intro g' f' hg x5 e5
      rw [e5, nI_1]
      exact ih (i + 1) g' f' (by omega) hl' hg
    have hLf : ∀ f, LwD (pa τ0 38 f) Ls := fun f => hL.keep (by decide)
    have g37 : ∀ f, gr (pa τ0 38 f) 37 = gr τ0 37 := fun f => gr_pa_ne (by decide)
    have hR' := hR
    rw [opG_cons] at hR'
    rw [wX2_opened_25]
    refine ⟨fun c => ?_, fun _ => ⟨vi, ?_⟩⟩
    · rw [e] at c
      exact absurd c (nI_ge (by omega) (by omega))
    rw [ci, opn01 (hLf f) hr]
    cases ho : r.1 with
    | false =>
      rw [opS_no (by rw [ho, Bool.false_and])] at hR'
      exact ⟨fun _ => nxt _ _ hR', fun c => absurd rfl c⟩
    | true =>
      obtain ⟨b1, b2, b3⟩ := bodyE hok ho
      refine ⟨fun c => absurd c z10, fun _ => forD (d := d) (hLf f) hr hm (by rw [gv_pa, if_neg (by decide)]; exact hd) (fun f2 => ?_)⟩
      rw [g37, pa_pa]
      cases hF : ruF r m d (gr τ0 37) with
      | false =>
        rw [opS_no (by rw [hF, Bool.and_false])] at hR'
        exact ⟨fun _ => nxt _ _ hR', fun c => absurd rfl c⟩
      | true =>
        rw [opS_yes (by rw [hF, ho, Bool.true_and])] at hR'
        refine ⟨fun c => absurd c z10, fun _ => ⟨vi, vi, ?_⟩⟩
        refine bodD (hLf f2) hr b2 b3 (fun f3 => ⟨vp_in_nI hm (by decide), ?_⟩)
        rw [g37, pa_pa, b1]
        intro x4 e4
        rw [nI_clamp (by omega), gv_pa, if_neg (by decide), hmg] at e4
        rw [e4]
        exact nxt _ _ hR'
theorem opnD (hL : LwD σ Ls) (hk : Stg k) (hm : m < n) (hn : n ≤ 7) (eN : gv σ 2 4 = nI n) (eH : gv σ k 2 = nI h) (hh : h < 240) (hQ : ∀ τ, Fm xV σ τ → Q (opG Ls (gv σ 15 m) m (nI (h / 24)) (lkE σ k h m n) (gv σ (k + 2) m)) τ) : wX2_opened k (nI m) σ Q := by
  have hk1 := (stg_ge hk).1
  have cm : (nI m).toNatClampNeg = m := nI_clamp (by omega)
  refine ⟨vp_in_nI (by omega) (by decide), ?_⟩
  rw [cm]
  rintro x4 rfl
  have x38 : ∀ j, xV 38 j = true := fun j => rfl
  have x37 : ∀ j, xV 37 j = true := fun j => rfl
  rw [hL.2.1]
  refine ⟨fun c => ?_, fun c => ?_⟩
  · have h0 : Ls.length = 0 := by
      have := (nI_leI (a := Ls.length) (b := 0) (by have := hL.2.2.1; omega) (by decide)).mp c
      omega
    have hnil : Ls = [] := List.eq_nil_of_length_eq_zero h0
    subst hnil
    refine ⟨1, ⟨fun _ => hQ σ Fm.rf, fun c2 => ?_⟩⟩
    rw [hL.2.1] at c2
    exact absurd (by decide) c2
  · refine lookD hk hm hn eN eH hh (fun g hg => ?_)
    refine ⟨Ls.length + 1, ?_⟩
    obtain ⟨S, eS⟩ : ∃ S, S = pa (pv σ 8 18 (nI (h / 24))) 37 g := ⟨_, rfl⟩
    have fS : Fm xV σ S := by
      rw [eS]
      exact (Fm_pv rfl).tr (Fm_pa x37)
    have hLS : LwD S Ls := by
      unfold LwD at hL ⊢
      rw [fS.gn, fS.2 8 1 rfl, fS.gr (fun _ => rfl), fS.gr (fun _ => rfl), fS.gr (fun _ => rfl), fS.gr (fun _ => rfl), fS.gr (fun _ => rfl), fS.gr (fun _ => rfl), fS.gr (fun _ => rfl), fS.gr (fun _ => rfl), fS.gr (fun _ => rfl)]
      exact hL
    have g37 : gr S 37 = g := by rw [eS]; exact gr_pa_eq
    have d8 : gv S 8 18 = nI (h / 24) := by rw [eS, gv_pa, if_neg (by decide), gv_pv, if_pos ⟨rfl, rfl⟩]
    rw [← eS]
    have := opn_loop (k := k) (Q := Q) (m := m) hLS (by omega) d8 (fS.2 15 m rfl) (R := opG Ls (gv σ 15 m) m (nI (h / 24)) (lkE σ k h m n) (gv σ (k + 2) m)) (fun f => hQ _ (fS.tr (Fm_pa x38))) Ls 0 (gv σ (k + 2) m) (gr S 38) (by omega) (fun j => by rw [Nat.zero_add]) (by rw [g37]; exact opG_congr hg _ _ _ _ hL.2.2.2.1 _)
    rw [pa_self] at this
    exact this
end OP
