theorem whole_goes {p : Program} {e : Env} {s : State} {m : MethodId} {below : List Frame} {meth : Method} {c : Code} (l : Launch) {b L : Nat} {xs : Nat → Int32} (hNum : ∀ a : Nat, wL_law_18 xs L 513 0 (sg0 a)) (C0 : lw_At p s m meth c b L xs) : W p l e room_1 s m #[Value.ref b] below meth c s.heap [] 0 0 (lw_Z below #[Value.ref b] s) (entryFrame m ([Value.ref b] : List Value).toArray 4) := by
  obtain ⟨hx, hb, hr, hml, hown, hts, hX, hbl, hlocks, hgv⟩ := id C0
  have hA : ∀ q : Nat, s.heap.size ≤ q → (fun q : Nat => s.heap.size ≤ q) q := fun _ h => h
  have hbA : ¬ (fun q : Nat => s.heap.size ≤ q) b := Nat.not_le.mpr hbl
  have ht : ∀ w ∈ tb, w.before #[Value.ref b] s = true := fun w hw => hts w (List.mem_filter.mp hw).1
  obtain ⟨D, ids, hK⟩ := k_KW hts
  obtain ⟨aT, aB, hZ⟩ := k_ZW hts hgv
  obtain ⟨E0, hE0⟩ : ∃ E : EE, E = (D, ids, fun k => if k = 1000 then aT else aB) := ⟨_, rfl⟩
  have e1 : ga E0 1000 = aT := by rw [hE0]; rfl
  have e2 : ga E0 1001 = aB := by rw [hE0]; rfl
  have hK0 : KW E0 s := by rw [hE0]; exact hK _
  have C : CC p E0 s m #[Value.ref b] meth c code 4 RL := ⟨hx, hb, hml, hown, ht, hlocks, hK0, k_NW hts⟩
  have hS : va_S (fun q : Nat => s.heap.size ≤ q) s.heap s.heap [] := va_S.rf
  have hP : va_P E0.1 vwCl [] s.heap := fun k q h => by simp at h
  have hD : va_D (fun q : Nat => s.heap.size ≤ q) [] := ⟨fun i j p q h => by simp at h, fun k q h => by simp at h⟩
  have hl := lv_entry ([.ref b]) (n := 4) (Nat.le_of_ble_eq_true rfl)
  rw [lg_entry_eq]
  generalize (lg_sl ([.ref b]) ++ List.replicate (4 - (lg_sl ([.ref b])).length) Slot.unset).toArray = ls at hl ⊢
  have hl : lv_has ls 4 [(0, .ref b)] := hl
  refine ct_new (fs := dv_X11) C hP hD hS hA co_X11 tyX11_ok (tb1 21 rfl rfl) (tb1 22 rfl rfl) (tb1 1 rfl rfl) df_X11 (Nat.le_of_ble_eq_true rfl) (Nat.le_of_ble_eq_true rfl) dL_law_0 (fun q0 H hP hD hS => ?_)
  refine lv_dup hx hb dL_law_3 rfl ?_
  refine ct_callI (rm := rmX11_init) (Lf := L_X11 E0 q0) C hP hD hS hA (tb1 23 rfl rfl) (tb1 25 rfl rfl) (tb1 1 rfl rfl) (tb1 24 rfl rfl) (by decide +kernel) rfl (c_X11 q0 _) ⟨Nat.le_of_ble_eq_true rfl, Nat.le_of_ble_eq_true rfl⟩ ⟨Nat.le_of_ble_eq_true rfl, Nat.le_of_ble_eq_true rfl⟩ hl.1 (Nat.le_of_ble_eq_true rfl) dL_law_4 (fun u H locs hP hD hS => ?_)
  refine lv_astore_n (lv' := [(1, .ref q0), (0, .ref b)]) hx hb dL_law_7 rfl hl (by decide) rfl (fun ls hl => ?_)
  refine ct_new (fs := dv_X12) C hP hD hS hA co_X12 tyX12_ok (tb4 171 rfl rfl) (tb4 172 rfl rfl) (tb1 14 rfl rfl) df_X12 (Nat.le_of_ble_eq_true rfl) (Nat.le_of_ble_eq_true rfl) dL_law_8 (fun q1 H hP hD hS => ?_)
  refine lv_dup hx hb dL_law_11 rfl ?_
  refine ct_callI (rm := rmX12_init) (Lf := L_X12 E0 q1) C hP hD hS hA (tb4 173 rfl rfl) (tb4 175 rfl rfl) (tb1 14 rfl rfl) (tb4 174 rfl rfl) (by decide +kernel) rfl (c_X12 q1 _) ⟨Nat.le_of_ble_eq_true rfl, Nat.le_of_ble_eq_true rfl⟩ ⟨Nat.le_of_ble_eq_true rfl, Nat.le_of_ble_eq_true rfl⟩ hl.1 (Nat.le_of_ble_eq_true rfl) dL_law_12 (fun v H locs hP hD hS => ?_)
  refine lv_astore_n (lv' := [(2, .ref q1), (1, .ref q0), (0, .ref b)]) hx hb dL_law_15 rfl hl (by decide) rfl (fun ls hl => ?_)
  refine lv_iconst (v := 0) hx hb dL_law_16 (by decide) ?_
  refine lv_istore_n (lv' := [(3, .int 0), (2, .ref q1), (1, .ref q0), (0, .ref b)]) hx hb dL_law_17 rfl hl (by decide) rfl (fun ls hl => ?_)
  have hP : va_P E0.1 vwCl (LL E0 q0 u q1 v) H := hP
  have hD : va_D (fun q : Nat => s.heap.size ≤ q) (LL E0 q0 u q1 v) := hD
  have C2 : Cx p (E1 E0 q0 u q1 v) s.heap.size s m #[Value.ref b] meth c code 4 RL := ⟨hx, hb, hml, hown, ht, hlocks, hK0, Nat.le_refl _, hZ _ e1 e2⟩
  exact tL_law_18 C2 hX hbl hbA hr 513 0 _ H locs ls _ _ (Nat.le_of_ble_eq_true rfl) (Nat.le_of_ble_eq_true rfl) (lv_sub hl [3, 2, 1, 0] rfl) ⟨wq_P hP, wq_D hD, hS⟩ (hNum _)
