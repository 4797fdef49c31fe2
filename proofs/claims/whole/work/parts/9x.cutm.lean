/-! read: the reference's tokens. -/
/-- frames of the cutting -/
def FC (σ τ : St) : Prop := (∀ a j, a ≠ 50 → a ≠ 51 → a ≠ 52 → (a = 11 → j ≠ 10) → gv τ a j = gv σ a j) ∧ (∀ a j, a ≠ 53 → gw τ a j = gw σ a j) ∧ gn τ = gn σ
theorem FC.rf {σ : St} : FC σ σ := ⟨fun _ _ _ _ _ _ => rfl, fun _ _ _ => rfl, rfl⟩
theorem FC.tr {σ τ υ : St} (h : FC σ τ) (g : FC τ υ) : FC σ υ := ⟨fun a j h1 h2 h3 h4 => (g.1 a j h1 h2 h3 h4).trans (h.1 a j h1 h2 h3 h4), fun a j q => (g.2.1 a j q).trans (h.2.1 a j q), g.2.2.trans h.2.2⟩
def TkA (ch : Nat → Int32) (L T : Nat) (τ : St) : Prop := ∀ i, i < T → gv τ 50 i = nI (kN (tkK ch L i)) ∧ gv τ 51 i = nI (tkp ch L i) ∧ (tkK ch L i = 2 → gv τ 52 i = tkV ch L i) ∧ (tkK ch L i = 3 → gw τ 53 i = pkN 27 (tkN ch L i))
theorem s0k_eq : ∀ k, k < 23 → s0k k = pkN 27 (KwM.getD k []) := by decide +kernel
section CU2
variable {ch : Nat → Int32} {L : Nat} {τ : St}
theorem atM {p : Nat} {Q : Int32 → St → Prop} (e4 : gv τ 11 4 = nI L) (hL : L ≤ 2000) (hc : ∀ q, q < L → gv τ 49 q &&& 255 = ch q) (hp : p < 2 ^ 30) (hQ : Q (if p < L then ch p else 0) τ) : wX12_at (nI p) τ Q := by
  rw [wX12_at, e4, nI_clamp (by omega)]
  refine ⟨fun c => ?_, fun c => ?_⟩
  · have := (nI_leI (by omega) (by omega)).mp c
    rwa [if_neg (by omega)] at hQ
  · have hpL : p < L := Nat.not_le.mp (fun q => c (nI_le q (by omega)))
    rw [if_pos hpL] at hQ
    rw [hc p hpL]
    exact ⟨vp_in_nI (by omega) (by decide), hQ⟩
theorem letM {c : Int32} {Q : Int32 → St → Prop} (h1 : srt c = 1 → Q 1 τ) (h0 : srt c ≠ 1 → Q 0 τ) : wX12_isLetter c τ Q := by
  refine ⟨fun d => h0 (fun e => ?_), fun d => ⟨fun d2 => h0 (fun e => ?_), fun d2 => h1 ?_⟩⟩
  · obtain ⟨x, x1, x2, rfl⟩ := let_c e
    exact absurd d (nI_nlt (b := 97) x1 (by omega))
  · obtain ⟨x, x1, x2, rfl⟩ := let_c e
    exact absurd d2 (nI_nlt (a := 122) x2 (by decide))
  · unfold srt
    rw [if_pos ⟨i32_lt.mp d, i32_lt.mp d2⟩]
theorem digM {c : Int32} {Q : Int32 → St → Prop} (h1 : srt c = 2 → Q 1 τ) (h0 : srt c ≠ 2 → Q 0 τ) : wX12_isDigit c τ Q := by
  refine ⟨fun d => h0 (fun e => ?_), fun d => ⟨fun d2 => h0 (fun e => ?_), fun d2 => h1 ?_⟩⟩
  · obtain ⟨x, x1, x2, rfl⟩ := dig_c e
    exact absurd d (nI_nlt (b := 48) x1 (by omega))
  · obtain ⟨x, x1, x2, rfl⟩ := dig_c e
    exact absurd d2 (nI_nlt (a := 57) x2 (by decide))
  · unfold srt
    rw [if_neg (fun q => ?_), if_pos ⟨i32_lt.mp d, i32_lt.mp d2⟩]
    exact absurd (Int32.le_trans q.1 (i32_lt.mp d2)) (by decide)
theorem srt_0 : srt 0 ≠ 1 ∧ srt 0 ≠ 2 := by decide
theorem tokenM {T : Nat} {k pl v : Int32} {y : Int64} {Q : St → Prop} (e10 : gv τ 11 10 = nI T) (hT : T ≤ 600) (hQ : ∀ τ', FC τ τ' → gv τ' 11 10 = nI (T + 1) → gv τ' 50 T = k → gv τ' 51 T = pl → gv τ' 52 T = v → gw τ' 53 T = y → (∀ i, i ≠ T → gv τ' 50 i = gv τ 50 i ∧ gv τ' 51 i = gv τ 51 i ∧ gv τ' 52 i = gv τ 52 i ∧ gw τ' 53 i = gw τ 53 i) → Q τ') : wX12_token k pl v y τ Q := by
  have vt : vp_in (nI T) 603 := vp_in_nI (by omega) (by decide)
  have ct : (nI T).toNatClampNeg = T := nI_clamp (by omega)
  rw [wX12_token, e10, ct]
  refine ⟨vt, ?_⟩
  rintro σ2 rfl
  rw [show gv (pv τ 50 T k) 11 10 = nI T by rw [gv_pv, if_neg (by omega)]; exact e10, ct]
  refine ⟨vt, ?_⟩
  rintro σ4 rfl
  rw [show gv (pv (pv τ 50 T k) 51 T pl) 11 10 = nI T by rw [gv_pv, if_neg (by omega), gv_pv, if_neg (by omega)]; exact e10, ct]
  refine ⟨vt, ?_⟩
  rintro σ6 rfl
  rw [show gv (pv (pv (pv τ 50 T k) 51 T pl) 52 T v) 11 10 = nI T by rw [gv_pv, if_neg (by omega), gv_pv, if_neg (by omega), gv_pv, if_neg (by omega)]; exact e10, ct]
  refine ⟨vt, ?_⟩
  rintro σ8 rfl
  rw [show gv (pw (pv (pv (pv τ 50 T k) 51 T pl) 52 T v) 53 T y) 11 10 = nI T by rw [gv_pw, gv_pv, if_neg (by omega), gv_pv, if_neg (by omega), gv_pv, if_neg (by omega)]; exact e10, nI_1]
  intro σ9 e9
  have g : ∀ a j, (a = 11 → j ≠ 10) → gv σ9 a j = if a = 52 ∧ j = T then v else if a = 51 ∧ j = T then pl else if a = 50 ∧ j = T then k else gv τ a j := fun a j h => by
    rw [e9, gv_pv, if_neg (by omega), gv_pw, gv_pv, gv_pv, gv_pv]
  have gl : ∀ a j, gw σ9 a j = if a = 53 ∧ j = T then y else gw τ a j := fun a j => by
    rw [e9]
    show gw (pw (pv (pv (pv τ 50 T k) 51 T pl) 52 T v) 53 T y) a j = _
    rw [gw_pw]
    by_cases z : a = 53
    · rw [if_pos z, z]
      show (if j = T then y else gw τ 53 j) = _
      by_cases w : j = T
      · rw [if_pos w, if_pos ⟨rfl, w⟩]
      · rw [if_neg w, if_neg (fun q => w q.2)]
    · rw [if_neg z, if_neg (fun q => z q.1)]
      rfl
  refine hQ σ9 ⟨fun a j h1 h2 h3 h4 => ?_, fun a j h1 => ?_, by rw [e9]; rfl⟩ ?_ ?_ ?_ ?_ ?_ (fun i hi => ⟨?_, ?_, ?_, ?_⟩)
  · rw [g a j h4, if_neg (fun q => h3 q.1), if_neg (fun q => h2 q.1), if_neg (fun q => h1 q.1)]
  · rw [gl a j, if_neg (fun q => h1 q.1)]
  · rw [e9, gv_pv, if_pos ⟨rfl, rfl⟩]
  · rw [g 50 T (by omega), if_neg (by omega), if_neg (by omega), if_pos ⟨rfl, rfl⟩]
  · rw [g 51 T (by omega), if_neg (by omega), if_pos ⟨rfl, rfl⟩]
  · rw [g 52 T (by omega), if_pos ⟨rfl, rfl⟩]
  · rw [gl, if_pos ⟨rfl, rfl⟩]
  · rw [g 50 i (by omega), if_neg (by omega), if_neg (by omega), if_neg (fun q => hi q.2)]
  · rw [g 51 i (by omega), if_neg (by omega), if_neg (fun q => hi q.2), if_neg (by omega)]
  · rw [g 52 i (by omega), if_neg (fun q => hi q.2), if_neg (by omega), if_neg (by omega)]
  · rw [gl, if_neg (fun q => hi q.2)]
theorem TkA.su {T : Nat} {τ' : St} (h : TkA ch L T τ) (h50 : gv τ' 50 T = nI (kN (tkK ch L T))) (h51 : gv τ' 51 T = nI (tkp ch L T)) (h52 : tkK ch L T = 2 → gv τ' 52 T = tkV ch L T) (h53 : tkK ch L T = 3 → gw τ' 53 T = pkN 27 (tkN ch L T)) (hs : ∀ i, i ≠ T → gv τ' 50 i = gv τ 50 i ∧ gv τ' 51 i = gv τ 51 i ∧ gv τ' 52 i = gv τ 52 i ∧ gw τ' 53 i = gw τ 53 i) : TkA ch L (T + 1) τ' := by
  intro i hi
  by_cases z : i = T
  · rw [z]
    exact ⟨h50, h51, h52, h53⟩
  · obtain ⟨a1, a2, a3, a4⟩ := hs i z
    obtain ⟨b1, b2, b3, b4⟩ := h i (by omega)
    exact ⟨a1.trans b1, a2.trans b2, fun q => a3.trans (b3 q), fun q => a4.trans (b4 q)⟩
theorem let64m {d : Nat} (h1 : 97 ≤ d) (h2 : d ≤ 122) : ((nI d - 97) + 1).toInt64 = Int64.ofNat (d - 96) := by
  rcases (show d = 97 ∨ d = 98 ∨ d = 99 ∨ d = 100 ∨ d = 101 ∨ d = 102 ∨ d = 103 ∨ d = 104 ∨ d = 105 ∨ d = 106 ∨ d = 107 ∨ d = 108 ∨ d = 109 ∨ d = 110 ∨ d = 111 ∨ d = 112 ∨ d = 113 ∨ d = 114 ∨ d = 115 ∨ d = 116 ∨ d = 117 ∨ d = 118 ∨ d = 119 ∨ d = 120 ∨ d = 121 ∨ d = 122 by omega) with rfl | rfl | rfl | rfl | rfl | rfl | rfl | rfl | rfl | rfl | rfl | rfl | rfl | rfl | rfl | rfl | rfl | rfl | rfl | rfl | rfl | rfl | rfl | rfl | rfl | rfl <;> decide
/-- the keys are compared -/
theorem keysM {Q : St → Prop} {K7 : Int32 → St → Prop} {p n : Int32} {l : List Nat} (h54 : gw τ 54 = s0k) (ho : okN l) : ∀ (f k x : Nat), k + f = 23 → wX12_cut_178 Q K7 p n (pkN 27 l) (nI (rfS l f k x)) τ → wX12_cut_145 Q K7 (f + 1) p n (pkN 27 l) (nI x) (nI k) τ := by
  intro f
  induction f with
  | zero =>
    intro k x hk hq
    exact ⟨fun _ => hq, fun c => absurd (nI_le (a := 23) (by omega) (by omega)) c⟩
  | succ f ih =>
    intro k x hk hq
    rw [wX12_cut_145, nI_clamp (by omega), h54, s0k_eq k (by omega), lg_cmp_eq]
    rw [rfS] at hq
    have hlen : KwM.length = 23 := by decide
    have hk1 : KwM[k]? = some (KwM.getD k []) := by
      rw [List.getD_eq_getElem?_getD, List.getElem?_eq_getElem (by omega)]
      rfl
    have hall : ∀ m ∈ KwM, 1 ≤ m.length ∧ m.length ≤ 8 ∧ ∀ c ∈ m, 1 ≤ c ∧ c ≤ 26 := by decide
    have okk : okN (KwM.getD k []) := hall _ (List.mem_of_getElem? hk1)
    refine ⟨fun c => absurd c (nI_ge (b := 23) (by omega) (by decide)), fun _ => ⟨vp_in_nI (by omega) (by decide), fun c => ?_, fun c => ?_⟩⟩
    · have e := pkN_inj (b := 27) (by decide) (by decide) okk ho c
      rw [hk1, e, if_pos rfl] at hq
      rintro x6 rfl
      rintro x7 rfl
      rw [nI_1, show (20 : Int32) = nI 20 from rfl, nI_add]
      exact ih (k + 1) _ (by omega) hq
    · rw [if_neg (fun q => by
        rw [hk1] at q
        cases q
        exact c rfl)] at hq
      rintro x7 rfl
      rw [nI_1]
      exact ih (k + 1) _ (by omega) hq
end CU2
theorem cutM {σ : St} {ch : Nat → Int32} {L : Nat} {Q : St → Prop} (hch : ∀ q, ch q ≠ -1) (e4 : gv σ 11 4 = nI L) (hL : L ≤ 2000) (hc : ∀ q, q < L → gv σ 49 q &&& 255 = ch q) (h54 : gw σ 54 = s0k) (hQ : ∀ τ T, FC σ τ → TkA ch L T τ → mxF ch L 600 0 < T → Q τ) : wX12_cut σ Q := by
  rintro σ1 rfl
  obtain ⟨_, hM6, hMe, hMl⟩ := mx_sp (ch := ch) (L := L) 600 0
  suffices main : ∀ (N p T : Nat) (τ : St), L + 2 ≤ N + p → p ≤ L → T ≤ 601 → skL ch L p = tkp ch L T → gv τ 11 10 = nI T → FC σ τ → TkA ch L T τ → wX12_cut_7 Q N (nI p) τ from ⟨L + 2, main (L + 2) 0 0 _ (by omega) (by omega) (by omega) rfl (by rw [gv_pv, if_pos ⟨rfl, rfl⟩]; rfl) ⟨fun a j h1 h2 h3 h4 => by rw [gv_pv, if_neg (by omega)], fun a j h1 => rfl, rfl⟩ (fun i hi => absurd hi (by omega))⟩
  intro N
  induction N with
  | zero => intro p T τ h1 h2; exact absurd h1 (by omega)
  | succ N ih =>
    intro p T τ hN hp hT hsk e10 fc tk
    have e4t : gv τ 11 4 = nI L := (fc.1 11 4 (by decide) (by decide) (by decide) (by decide)).trans e4
    have hct : ∀ q, q < L → gv τ 49 q &&& 255 = ch q := fun q hq => by rw [fc.1 49 q (by decide) (by decide) (by decide) (by omega)]; exact hc q hq
    have h54t : gw τ 54 = s0k := by
      rw [← h54]
      exact funext (fun j => fc.2.1 54 j (by decide))
    rw [wX12_cut_7, e10]
    refine ⟨fun c => ?_, fun c => ?_⟩
    · have : 600 < T := (nI_ltI (a := 600) (by decide) (by omega)).mp c
      exact hQ τ T fc tk (by omega)
    have hT6 : T ≤ 600 := Nat.not_lt.mp (fun q => c (nI_lt (a := 600) q (by omega)))
    refine atM (ch := ch) e4t hL hct (by omega) ?_
    rw [e4t]
    refine ⟨fun c1 => ?_, fun c1 => ?_⟩
    · have hpL : p < L := (nI_ltI (by omega) (by omega)).mp c1
      rw [if_pos hpL]
      have blank : srt (ch p) = 3 → wX12_cut_67 Q (fun x1' σ' => wX12_cut_7 Q N x1' σ') (nI p) τ := by
        intro hb
        rintro x1 rfl
        rw [nI_1]
        refine ih (p + 1) T τ (by omega) (by omega) hT ?_ e10 fc tk
        rw [← hsk]
        unfold skL
        rw [show L - p = (L - (p + 1)) + 1 by omega, ruN, if_pos ⟨hpL, hb⟩]
      have b3 : ∀ x : Int32, (x = 9 ∨ x = 10 ∨ x = 13 ∨ x = 32) → srt x = 3 := by
        intro x hx
        rcases hx with q | q | q | q <;> rw [q] <;> decide
      refine ⟨fun d => blank (b3 _ (Or.inl d)), fun d1 => ⟨fun d => blank (b3 _ (Or.inr (Or.inl d))), fun d2 => ⟨fun d => blank (b3 _ (Or.inr (Or.inr (Or.inl d)))), fun d3 => ⟨fun d => blank (b3 _ (Or.inr (Or.inr (Or.inr d)))), fun d4 => ?_⟩⟩⟩⟩
      have ns3 : srt (ch p) ≠ 3 := by
        intro h
        unfold srt at h
        by_cases z1 : 97 ≤ ch p ∧ ch p ≤ 122
        · rw [if_pos z1] at h; cases h
        rw [if_neg z1] at h
        by_cases z2 : 48 ≤ ch p ∧ ch p ≤ 57
        · rw [if_pos z2] at h; cases h
        rw [if_neg z2, if_neg (fun q => by
          rcases q with q | q | q | q
          · exact d1 q
          · exact d2 q
          · exact d3 q
          · exact d4 q)] at h
        cases h
      have ep : tkp ch L T = p := by
        rw [← hsk]
        unfold skL
        rw [show L - p = (L - (p + 1)) + 1 by omega, ruN, if_neg (fun q => ns3 q.2)]
      have epk : pkC ch L p = ch p := if_pos hpL
      have hel : enL ch L p ≤ L := en_le hpL hch
      have heg : p < enL ch L p := en_gt p
      have put : ∀ (k v : Int32) (y : Int64) (R : St → Prop), k = nI (kN (tkK ch L T)) → (tkK ch L T = 2 → v = tkV ch L T) → (tkK ch L T = 3 → y = pkN 27 (tkN ch L T)) → (∀ τ', wX12_cut_7 Q N (nI (enL ch L p)) τ' → R τ') → wX12_token k (nI p) v y τ R := by
        intro k v y R hk hv hy hR
        refine tokenM e10 hT6 (fun τ1 f1 t10 t50 t51 t52 t53 ts => hR τ1 (ih (enL ch L p) (T + 1) τ1 (by omega) hel (by omega) ?_ t10 (fc.tr f1) (tk.su (t50.trans hk) (by rw [t51, ep]) (fun q => t52.trans (hv q)) (fun q => t53.trans (hy q)) ts)))
        rw [tkp, ep]
      refine letM (fun hl => ⟨z11, fun _ => ?_⟩) (fun hl => ⟨fun _ => digM (fun hd => ⟨z11, fun _ => ?_⟩) (fun hd => ⟨fun _ => ?_, fun c => absurd rfl c⟩), fun c => absurd rfl c⟩)
      · skip
        have ee : enL ch L p = ruN ch L 1 (L - (p + 1)) (p + 1) := by
          unfold enL
          rw [epk, if_neg (by omega), hl]
        have hal : ∀ q, p ≤ q → q < enL ch L p → q < L ∧ srt (ch q) = 1 := fun q a b => by
          by_cases z : q = p
          · rw [z]; exact ⟨hpL, hl⟩
          · rw [ee] at b
            exact ru_al _ _ q (by omega) b
        have hst : ¬ (enL ch L p < L ∧ srt (ch (enL ch L p)) = 1) := by
          rw [ee]
          exact ru_st _ _ (by omega) (by omega)
        have hkd : tkK ch L T = if enL ch L p - p ≤ 8 then wdS (nmF ch L 8 p) 23 0 else 1 := by
          unfold tkK kdL
          rw [ep, epk, if_pos hl]
        have hnm : tkN ch L T = nmF ch L 8 p := by
          unfold tkN
          rw [ep]
        have hlen : enL ch L p - p ≤ 8 → (nmF ch L 8 p).length = enL ch L p - p := by
          intro h8
          have hg : ∀ j, (nmF ch L 8 p)[j]? = if j < enL ch L p - p then some ((ch (p + j) - 96).toNatClampNeg) else none := fun j => nm_get (enL ch L p - p) 8 p j h8 (fun q a b => hal q a (by omega)) (Or.inr (by rw [show p + (enL ch L p - p) = enL ch L p by omega]; exact hst))
          have g1 := hg (enL ch L p - p)
          rw [if_neg (by omega), List.getElem?_eq_none_iff] at g1
          have g2 := hg (enL ch L p - p - 1)
          rw [if_pos (by omega), List.getElem?_eq_some_iff] at g2
          obtain ⟨g3, _⟩ := g2
          omega
        have fin : wX12_cut_135 Q (fun x1' σ' => wX12_cut_7 Q N x1' σ') (nI p) (nI (enL ch L p - p)) (pkN 27 (nmF ch L 8 p)) (if enL ch L p - p ≤ 8 then 1 else 3) τ := by
          have add : nI p + nI (enL ch L p - p) = nI (enL ch L p) := by rw [nI_add]; congr 1; omega
          have out : ∀ k : Int32, k = nI (kN (tkK ch L T)) → wX12_cut_178 Q (fun x1' σ' => wX12_cut_7 Q N x1' σ') (nI p) (nI (enL ch L p - p)) (pkN 27 (nmF ch L 8 p)) k τ := by
            intro k hk
            refine put k 0 _ _ hk (fun q => ?_) (fun _ => by rw [hnm]) (fun τ1 h1 => ?_)
            · exfalso
              rw [hkd] at q
              by_cases z : enL ch L p - p ≤ 8
              · rw [if_pos z] at q
                have := (wdS_ge (l := nmF ch L 8 p) 23 0).1
                omega
              · rw [if_neg z] at q
                cases q
            · rintro x1 rfl
              rw [add]
              exact h1
          refine ⟨fun c5 => ?_, fun c5 => ?_⟩
          · have h5 : 5 < enL ch L p - p := (nI_ltI (a := 5) (by decide) (by omega)).mp c5
            refine out _ ?_
            rw [hkd]
            by_cases z : enL ch L p - p ≤ 8
            · rw [if_pos z, if_pos z, word_long (by rw [hlen z]; exact h5)]
              rfl
            · rw [if_neg z, if_neg z]
              rfl
          · have h5 : enL ch L p - p ≤ 5 := Nat.not_lt.mp (fun q => c5 (nI_lt (a := 5) q (by omega)))
            obtain ⟨o1, o2⟩ := nm_ok (ch := ch) (L := L) 8 p
            have okl : okN (nmF ch L 8 p) := ⟨by rw [hlen (by omega)]; omega, o1, o2⟩
            rw [if_pos (by omega)]
            refine ⟨24, keysM h54t okl 23 0 1 (by omega) (out _ ?_)⟩
            rw [word_eq, hkd, if_pos (by omega)]
        suffices lp : ∀ (d n : Nat) (y : Int64), p + n + d = enL ch L p → (nmF ch L (8 - n) (p + n)).foldl (fun s c => 27 * s + Int64.ofNat c) y = pkN 27 (nmF ch L 8 p) → wX12_cut_85 Q (fun x1' σ' => wX12_cut_7 Q N x1' σ') (d + 1) (nI p) (nI n) y τ from ⟨enL ch L p - p + 1, lp (enL ch L p - p) 0 0 (by omega) rfl⟩
        intro d
        induction d with
        | zero =>
          intro n y hn hy
          have en : n = enL ch L p - p := by omega
          have ne : p + n = enL ch L p := by omega
          have nil : nmF ch L (8 - n) (p + n) = [] := by
            cases hf : 8 - n with
            | zero => rfl
            | succ f => rw [nmF, if_neg (by rw [ne]; exact hst)]
          rw [nil] at hy
          have hy : y = pkN 27 (nmF ch L 8 p) := hy
          rw [wX12_cut_85, nI_add]
          refine atM (ch := ch) e4t hL hct (by omega) (letM (fun h => ?_) (fun h => ⟨fun _ => ?_, fun c => absurd rfl c⟩))
          · exfalso
            by_cases z : p + n < L
            · rw [if_pos z, ne] at h
              exact hst ⟨by omega, h⟩
            · rw [if_neg z] at h
              exact srt_0.1 h
          · rw [hy]
            refine ⟨fun c8 => ?_, fun c8 => ?_⟩
            · have h8 := (nI_leI (b := 8) (by omega) (by decide)).mp c8
              rw [if_pos (by omega), ← en] at fin
              exact fin
            · have h8 : ¬ n ≤ 8 := fun q => c8 (nI_le (b := 8) q (by decide))
              rw [if_neg (by omega), ← en] at fin
              exact fin
        | succ d ihd =>
          intro n y hn hy
          obtain ⟨q1, q2⟩ := hal (p + n) (by omega) (by omega)
          rw [wX12_cut_85, nI_add]
          refine atM (ch := ch) e4t hL hct (by omega) ?_
          rw [if_pos q1]
          refine letM (fun _ => ⟨z11, fun _ => ?_⟩) (fun h => absurd q2 h)
          refine ⟨fun c8 => ?_, fun c8 => ?_⟩
          · have h8 := (nI_leI (a := 8) (by decide) (by omega)).mp c8
            rintro x3 rfl
            rw [nI_1]
            refine ihd (n + 1) y (by omega) ?_
            rw [show 8 - (n + 1) = 0 by omega]
            rw [show 8 - n = 0 by omega] at hy
            exact hy
          · have h8 : n < 8 := Nat.not_le.mp (fun q => c8 (nI_le (a := 8) q (by omega)))
            refine atM (ch := ch) e4t hL hct (by omega) ?_
            rw [if_pos q1]
            obtain ⟨x, x1, x2, ex⟩ := let_c q2
            rw [show 8 - n = (8 - (n + 1)) + 1 by omega, nmF, if_pos ⟨q1, q2⟩, List.foldl_cons, ex, show (96 : Int32) = nI 96 from rfl, pk_sub (by omega), nI_clamp (by omega)] at hy
            rw [ex]
            refine ⟨fun c0 => absurd ((nI_eq (b := 0) (by omega) (by decide)).mp c0) (by omega), fun _ => ?_⟩
            rintro x3 rfl
            rw [nI_1, let64m x1 x2]
            exact ihd (n + 1) _ (by omega) hy
      · skip
        have ee : enL ch L p = ruN ch L 2 (L - (p + 1)) (p + 1) := by
          unfold enL
          rw [epk, if_neg (by omega), hd]
        have hal : ∀ q, p ≤ q → q < enL ch L p → q < L ∧ srt (ch q) = 2 := fun q a b => by
          by_cases z : q = p
          · rw [z]; exact ⟨hpL, hd⟩
          · rw [ee] at b
            exact ru_al _ _ q (by omega) b
        have hst : ¬ (enL ch L p < L ∧ srt (ch (enL ch L p)) = 2) := by
          rw [ee]
          exact ru_st _ _ (by omega) (by omega)
        have hkd : tkK ch L T = if enL ch L p - p ≤ 4 then 2 else 1 := by
          unfold tkK kdL
          rw [ep, epk, if_neg (by omega), if_pos hd]
        have add : nI p + nI (enL ch L p - p) = nI (enL ch L p) := by rw [nI_add]; congr 1; omega
        have out : ∀ k : Int32, k = nI (kN (tkK ch L T)) → wX12_cut_260 Q (fun x1' σ' => wX12_cut_7 Q N x1' σ') (nI p) (nI (enL ch L p - p)) (nuF ch L 4 p 0) k τ := by
          intro k hk
          refine put k _ 0 _ hk (fun _ => by unfold tkV; rw [ep]) (fun q => ?_) (fun τ1 h1 => ?_)
          · exfalso
            rw [hkd] at q
            by_cases z : enL ch L p - p ≤ 4
            · rw [if_pos z] at q; cases q
            · rw [if_neg z] at q; cases q
          · rintro x1 rfl
            rw [add]
            exact h1
        suffices lp : ∀ (d n : Nat) (x : Int32), p + n + d = enL ch L p → nuF ch L (4 - n) (p + n) x = nuF ch L 4 p 0 → wX12_cut_207 Q (fun x1' σ' => wX12_cut_7 Q N x1' σ') (d + 1) (nI p) (nI n) x τ from ⟨enL ch L p - p + 1, lp (enL ch L p - p) 0 0 (by omega) rfl⟩
        intro d
        induction d with
        | zero =>
          intro n y hn hy
          have en : n = enL ch L p - p := by omega
          have ne : p + n = enL ch L p := by omega
          have hy : y = nuF ch L 4 p 0 := by
            rw [← hy]
            cases hf : 4 - n with
            | zero => rfl
            | succ f => rw [nuF, if_neg (by rw [ne]; exact hst)]
          rw [wX12_cut_207, nI_add]
          refine atM (ch := ch) e4t hL hct (by omega) (digM (fun h => ?_) (fun h => ⟨fun _ => ?_, fun c => absurd rfl c⟩))
          · exfalso
            by_cases z : p + n < L
            · rw [if_pos z, ne] at h
              exact hst ⟨by omega, h⟩
            · rw [if_neg z] at h
              exact srt_0.2 h
          · rw [hy, en]
            refine ⟨fun c8 => out _ ?_, fun c8 => out _ ?_⟩
            · have h8 := (nI_leI (b := 4) (by omega) (by decide)).mp c8
              rw [hkd, if_pos h8]
              rfl
            · have h8 : ¬ enL ch L p - p ≤ 4 := fun q => c8 (nI_le (b := 4) q (by decide))
              rw [hkd, if_neg h8]
              rfl
        | succ d ihd =>
          intro n y hn hy
          obtain ⟨q1, q2⟩ := hal (p + n) (by omega) (by omega)
          rw [wX12_cut_207, nI_add]
          refine atM (ch := ch) e4t hL hct (by omega) ?_
          rw [if_pos q1]
          refine digM (fun _ => ⟨z11, fun _ => ?_⟩) (fun h => absurd q2 h)
          refine ⟨fun c8 => ?_, fun c8 => ?_⟩
          · have h8 := (nI_leI (a := 4) (by decide) (by omega)).mp c8
            rintro x3 rfl
            rw [nI_1]
            refine ihd (n + 1) y (by omega) ?_
            rw [show 4 - (n + 1) = 0 by omega]
            rw [show 4 - n = 0 by omega] at hy
            exact hy
          · have h8 : n < 4 := Nat.not_le.mp (fun q => c8 (nI_le (a := 4) q (by omega)))
            refine atM (ch := ch) e4t hL hct (by omega) ?_
            rw [if_pos q1]
            rw [show 4 - n = (4 - (n + 1)) + 1 by omega, nuF, if_pos ⟨q1, q2⟩] at hy
            rintro x4 rfl x3 rfl
            rw [nI_1]
            exact ihd (n + 1) _ (by omega) hy
      · skip
        have hs0 : srt (ch p) = 0 := by
          have := srt_le (ch p)
          omega
        obtain ⟨pr, hpr⟩ : ∃ pr : Bool, pr = decide ((ch p = 61 ∨ ch p = 33 ∨ ch p = 60) ∧ pkC ch L (p + 1) = 61) := ⟨_, rfl⟩
        have ee : enL ch L p = if pr then p + 2 else p + 1 := by
          unfold enL
          rw [epk, if_pos hs0, hpr]
          by_cases z : (ch p = 61 ∨ ch p = 33 ∨ ch p = 60) ∧ pkC ch L (p + 1) = 61
          · rw [if_pos z, decide_eq_true z, if_pos rfl]
          · rw [if_neg z, decide_eq_false z, if_neg (by decide)]
        have hkd : tkK ch L T = sgK (ch p) pr := by
          unfold tkK kdL
          rw [ep, epk, if_neg (by omega), if_neg (by omega), if_neg (hch p)]
          congr 1
          rw [ee]
          cases pr
          · exact decide_eq_false (by rw [if_neg (by decide)]; omega)
          · exact decide_eq_true (by rw [if_pos rfl]; omega)
        have hsg := sgK_le (ch p) pr
        rw [nI_1]
        refine atM (ch := ch) e4t hL hct (by omega) ?_
        have d61 : ((if p + 1 < L then ch (p + 1) else 0) = 61) ↔ pkC ch L (p + 1) = 61 := by
          unfold pkC
          by_cases z : p + 1 < L
          · rw [if_pos z, if_pos z]
          · rw [if_neg z, if_neg z]
            exact ⟨fun q => absurd q (by decide), fun q => absurd q (by decide)⟩
        have s160 : ∀ (x4 k : Int32), k = nI (kN (sgK (ch p) pr)) → (x4 ≤ 0 ↔ pr = false) → wX12_sign_160 (fun r17 σ18 => ∀ x1_19 : Int32, x1_19 = nI p + r17 → wX12_cut_290 Q (fun x1' σ' => wX12_cut_7 Q N x1' σ') x1_19 σ18) (nI p) x4 k τ := by
          intro x4 k hk hx
          refine put k 0 0 _ (by rw [hk, hkd]) (fun q => ?_) (fun q => ?_) (fun τ1 h1 => ⟨fun c0 => ?_, fun c0 => ?_⟩)
          · rw [hkd] at q
            exact absurd q hsg.2.1
          · rw [hkd] at q
            exact absurd q hsg.2.2.1
          · rw [ee, hx.mp c0, if_neg (by decide)] at h1
            rintro x1 rfl
            rw [nI_1]
            exact h1
          · have : pr = true := by
              cases pr
              · exact absurd (hx.mpr rfl) c0
              · rfl
            rw [ee, this, if_pos rfl] at h1
            rintro x1 rfl
            rw [show (2 : Int32) = nI 2 from rfl, nI_add]
            exact h1
        have s44 : pr = false → wX12_sign_44 (fun r17 σ18 => ∀ x1_19 : Int32, x1_19 = nI p + r17 → wX12_cut_290 Q (fun x1' σ' => wX12_cut_7 Q N x1' σ') x1_19 σ18) (nI p) (ch p) 0 τ := by
          intro hp0
          have o : ∀ k : Int32, k = nI (kN (sgK (ch p) false)) → wX12_sign_160 (fun r17 σ18 => ∀ x1_19 : Int32, x1_19 = nI p + r17 → wX12_cut_290 Q (fun x1' σ' => wX12_cut_7 Q N x1' σ') x1_19 σ18) (nI p) 0 k τ := fun k hk => s160 0 k (by rw [hp0]; exact hk) ⟨fun _ => hp0, fun _ => by decide⟩
          refine ⟨fun _ => ⟨fun e => o 4 (by rw [e]; decide), fun n1 => ⟨fun e => o 5 (by rw [e]; decide), fun n2 => ⟨fun e => o 6 (by rw [e]; decide), fun n3 => ⟨fun e => o 7 (by rw [e]; decide), fun n4 => ⟨fun e => o 8 (by rw [e]; decide), fun n5 => ⟨fun e => o 9 (by rw [e]; decide), fun n6 => ⟨fun e => o 10 (by rw [e]; decide), fun n7 => ⟨fun e => o 13 (by rw [e]; decide), fun n8 => o 3 ?_⟩⟩⟩⟩⟩⟩⟩⟩, fun c => absurd (by decide) c⟩
          have : sgK (ch p) false = 1 := by
            unfold sgK
            rw [if_neg (by decide : ¬ (false = true)), if_neg (by decide : ¬ (false = true)), if_neg (by decide : ¬ (false = true))]
            by_cases m1 : ch p = 33
            · rw [if_pos m1]
            rw [if_neg m1, if_neg n3, if_neg n4, if_neg n7, if_neg n5, if_neg n6, if_neg n2, if_neg n1, if_neg n8]
            split <;> rfl
          rw [this]
          rfl
        have s44t : ∀ x : Int32, ¬ x ≤ 0 → pr = true → x = nI (kN (sgK (ch p) true)) → wX12_sign_44 (fun r17 σ18 => ∀ x1_19 : Int32, x1_19 = nI p + r17 → wX12_cut_290 Q (fun x1' σ' => wX12_cut_7 Q N x1' σ') x1_19 σ18) (nI p) (ch p) x τ := by
          intro x hx hp1 hk
          exact ⟨fun c => absurd c hx, fun _ => s160 x x (by rw [hp1]; exact hk) ⟨fun c => absurd c hx, fun q => by rw [hp1] at q; cases q⟩⟩
        have pt : (ch p = 61 ∨ ch p = 33 ∨ ch p = 60) → pkC ch L (p + 1) = 61 → pr = true := fun a b => by rw [hpr]; exact decide_eq_true ⟨a, b⟩
        refine ⟨fun e61 => ⟨fun e => s44t 11 (by decide) (pt (Or.inl e) (d61.mp e61)) (by rw [e]; decide), fun n1 => ⟨fun e => s44t 12 (by decide) (pt (Or.inr (Or.inl e)) (d61.mp e61)) (by rw [e]; decide), fun n2 => ⟨fun e => s44t 14 (by decide) (pt (Or.inr (Or.inr e)) (d61.mp e61)) (by rw [e]; decide), fun n3 => s44 ?_⟩⟩⟩, fun n61 => s44 ?_⟩
        · rw [hpr]
          refine decide_eq_false (fun q => ?_)
          rcases q.1 with w | w | w
          · exact n1 w
          · exact n2 w
          · exact n3 w
        · rw [hpr]
          exact decide_eq_false (fun q => n61 (d61.mpr q.2))
    · have hpe : p = L := by
        have : ¬ p < L := fun q => c1 (nI_lt q (by omega))
        omega
      have ep : tkp ch L T = L := by
        rw [← hsk, hpe]
        unfold skL
        rw [Nat.sub_self]
        rfl
      have hk0 : tkK ch L T = 0 := by
        unfold tkK kdL
        rw [ep, pk_m1' (by omega), srt_m1, if_neg (by decide), if_neg (by decide), if_pos rfl]
      refine tokenM e10 hT6 (fun τ1 f1 t10 t50 t51 t52 t53 ts => hQ τ1 (T + 1) (fc.tr f1) (tk.su (by rw [t50, hk0]; rfl) (by rw [t51, ep]) (fun q => by rw [hk0] at q; cases q) (fun q => by rw [hk0] at q; cases q) ts) ?_)
      have : ¬ T < mxF ch L 600 0 := fun q => by
        have := hMl T (by omega) q
        omega
      omega
