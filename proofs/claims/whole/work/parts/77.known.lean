/-! From the law's entry to its loop. -/
theorem k_eqv {s : State} {args : Array Value} {t : Term} {v : Int32} (h : (Cond.eq t (.int v)).before args s = true) : t.eval args s none [] s = some (.int v) := Cond.eq_int h rfl
theorem lw1 {w : Cond} (i : Nat) (h : tables_1_1[i]? = some w) : w ∈ lw_tbl := List.mem_append_right _ (List.mem_append_left _ (List.mem_of_getElem? h))
theorem lw2 {w : Cond} (i : Nat) (h : tables_1_2[i]? = some w) : w ∈ lw_tbl := List.mem_append_right _ (List.mem_append_right _ (List.mem_append_left _ (List.mem_of_getElem? h)))
theorem lw3 {w : Cond} (i : Nat) (h : tables_1_3[i]? = some w) : w ∈ lw_tbl := List.mem_append_right _ (List.mem_append_right _ (List.mem_append_right _ (List.mem_append_left _ (List.mem_of_getElem? h))))
theorem lw4 {w : Cond} (i : Nat) (h : tables_1_4[i]? = some w) : w ∈ lw_tbl := List.mem_append_right _ (List.mem_append_right _ (List.mem_append_right _ (List.mem_append_right _ (List.mem_append_left _ (List.mem_of_getElem? h)))))
theorem lw5 {w : Cond} (i : Nat) (h : tables_1_5[i]? = some w) : w ∈ lw_tbl := List.mem_append_right _ (List.mem_append_right _ (List.mem_append_right _ (List.mem_append_right _ (List.mem_append_right _ (List.mem_append_left _ (List.mem_of_getElem? h))))))
theorem lw6 {w : Cond} (i : Nat) (h : tables_1_6[i]? = some w) : w ∈ lw_tbl := List.mem_append_right _ (List.mem_append_right _ (List.mem_append_right _ (List.mem_append_right _ (List.mem_append_right _ (List.mem_append_right _ (List.mem_of_getElem? h))))))
section KK
variable {s : State} {args : Array Value}
set_option maxRecDepth 100000 in
theorem k_NW (hts : ∀ w ∈ lw_tbl, w.before args s = true) : NW s := by
  refine ⟨List.forall_mem_cons.mpr ⟨?_, List.forall_mem_cons.mpr ⟨?_, List.forall_mem_cons.mpr ⟨?_, List.forall_mem_cons.mpr ⟨?_, List.forall_mem_cons.mpr ⟨?_, List.forall_mem_cons.mpr ⟨?_, List.forall_mem_cons.mpr ⟨?_, List.forall_mem_cons.mpr ⟨?_, List.forall_mem_cons.mpr ⟨?_, List.forall_mem_cons.mpr ⟨?_, fun _ h => absurd h List.not_mem_nil ⟩⟩⟩⟩⟩⟩⟩⟩⟩⟩, hts _ (lw2 97 rfl), hts _ (lw2 104 rfl)⟩
  · exact va_Nw.of rfl (hts _ (lw1 31 rfl))
  · exact va_Nw.of rfl (hts _ (lw1 84 rfl))
  · exact va_Nw.of rfl (hts _ (lw1 107 rfl))
  · exact va_Nw.of rfl (hts _ (lw1 138 rfl))
  · exact va_Nw.of rfl (hts _ (lw1 144 rfl))
  · exact va_Nw.of rfl (hts _ (lw1 161 rfl))
  · exact va_Nw.of rfl (hts _ (lw1 236 rfl))
  · exact va_Nw.of rfl (hts _ (lw2 61 rfl))
  · exact va_Nw.of rfl (hts _ (lw2 99 rfl))
  · exact va_Nw.of rfl (hts _ (lw2 169 rfl))
theorem k_arr {ty : FieldType} (h : (Cond.arrayClass ty).before args s = true) (hn : ∀ C, ty ≠ .object C) : ∃ cA : ClassId, ArrOfT s cA ty ∧ va_RA s cA ty := by
  obtain ⟨cA, kA, comp, h1, h2, h3⟩ := Cond.arrayClass_spec h
  refine ⟨cA, fun n z => ⟨fun k h => (by cases h), kA, h2, comp, h3⟩, ?_⟩
  cases ty with
  | object C => exact absurd rfl (hn C)
  | _ => exact h1
theorem k_ao {C : String} (h : (Cond.arrayOver (.object C)).before args s = true) : ∃ cA : ClassId, ArrOfT s cA (.object C) ∧ va_RA s cA (.object C) := by
  obtain ⟨comp, cA, kA, h1, -, h2, h3, h4⟩ := Cond.arrayOver_spec h
  exact ⟨cA, fun n z => ⟨fun k h => (by cases h), kA, h2, comp, h3⟩, kA, comp, h2, h3, h1, h4⟩
theorem k_aoa {ty : FieldType} (h : (Cond.arrayOver (.array ty)).before args s = true) : ∃ cA : ClassId, ArrOfT s cA (.array ty) ∧ va_RA s cA (.array ty) := by
  simp only [Cond.before, Cond.holds, Cond.value, beq_iff_eq] at h
  cases hc : s.vm.findClass (FieldType.array ty).toString with
  | none => simp [hc] at h
  | some comp =>
    simp only [hc, Option.bind_some, Option.bind_eq_some_iff, Option.map_eq_some_iff] at h
    obtain ⟨cA, hi, kA, hk, hb⟩ := h
    have hkc : ∃ cp, kA.kind = .array cp (.array ty) ∧ s.vm.findClass ("[" ++ (FieldType.array ty).toString) = some cA := by
      split at hb
      · rename_i cp t hkk
        simp only [Bool.and_eq_true, decide_eq_true_eq] at hb
        exact ⟨cp, by rw [hkk, hb.1], hb.2⟩
      · cases hb
    obtain ⟨cp, h3, h4⟩ := hkc
    exact ⟨cA, fun n z => ⟨fun k h => (by cases h), kA, hk, cp, h3⟩, h4⟩
set_option maxRecDepth 100000 in
theorem k_KW (hts : ∀ w ∈ lw_tbl, w.before args s = true) : ∃ (D : va_G) (ids : Nat → ClassId), ∀ f, KW (D, ids, f) s := by
  have ht : ∀ w ∈ tb, w.before args s = true := fun w hw => hts w (List.mem_filter.mp hw).1
  obtain ⟨c0, i0, h0⟩ := u_known (n := 8) ht co_X0.2.1 (hts _ (lw1 137 rfl))
  obtain ⟨c1, i1, h1⟩ := u_known (n := 6) ht co_X1.2.1 (hts _ (lw2 60 rfl))
  obtain ⟨c2, i2, h2⟩ := u_known (n := 19) ht co_X2.2.1 (hts _ (lw1 160 rfl))
  obtain ⟨c3, i3, h3⟩ := u_known (n := 8) ht co_X3.2.1 (hts _ (lw1 36 rfl))
  obtain ⟨c4, i4, h4⟩ := u_known (n := 5) ht co_X4.2.1 (hts _ (lw1 106 rfl))
  obtain ⟨c5, i5, h5⟩ := u_known (n := 11) ht co_X5.2.1 (hts _ (lw2 91 rfl))
  obtain ⟨c6, i6, h6⟩ := u_known (n := 5) ht co_X6.2.1 (hts _ (lw1 83 rfl))
  obtain ⟨c7, i7, h7⟩ := u_known (n := 5) ht co_X7.2.1 (hts _ (lw2 98 rfl))
  obtain ⟨c8, i8, h8⟩ := u_known (n := 2) ht co_X8.2.1 (hts _ (lw1 143 rfl))
  obtain ⟨c9, i9, h9⟩ := u_known (n := 3) ht co_X9.2.1 (hts _ (lw1 235 rfl))
  obtain ⟨c10, i10, h10⟩ := u_known (n := 4) ht co_X10.2.1 (hts _ (lw1 30 rfl))
  obtain ⟨c11, i11, h11⟩ := u_known (n := 6) ht co_X11.2.1 (hts _ (lw1 22 rfl))
  obtain ⟨c12, i12, h12⟩ := u_known (n := 80) ht co_X12.2.1 (hts _ (lw4 172 rfl))
  obtain ⟨a0, g0⟩ := k_arr (ty := .int) (hts _ (lw1 81 rfl)) (fun _ h => by cases h)
  obtain ⟨a1, g1⟩ := k_arr (ty := .byte) (hts _ (lw1 158 rfl)) (fun _ h => by cases h)
  obtain ⟨a2, g2⟩ := k_arr (ty := .boolean) (hts _ (lw1 135 rfl)) (fun _ h => by cases h)
  obtain ⟨a3, g3⟩ := k_arr (ty := .long) (hts _ (lw1 233 rfl)) (fun _ h => by cases h)
  obtain ⟨a4, g4⟩ := k_ao (C := "MillStream$Stage") (hts _ (lw2 97 rfl))
  obtain ⟨a5, g5⟩ := k_aoa (ty := .int) (hts _ (lw2 104 rfl))
  refine ⟨(fun k => ([c0, c1, c2, c3, c4, c5, c6, c7, c8, c9, c10, c11, c12] : List ClassId).getD k c0, fun k => ([i0, i1, i2, i3, i4, i5, i6, i7, i8, i9, i10, i11, i12] : List (Nat → Nat)).getD k i0), fun k => ([a0, a1, a2, a3, a4, a5] : List ClassId).getD k a0, fun f => ⟨fun k q hq => ?_, fun k q hq => ?_⟩⟩
  · have hk : k < 13 := (List.getElem?_eq_some_iff.mp hq).1
    rcases (show k = 0 ∨ k = 1 ∨ k = 2 ∨ k = 3 ∨ k = 4 ∨ k = 5 ∨ k = 6 ∨ k = 7 ∨ k = 8 ∨ k = 9 ∨ k = 10 ∨ k = 11 ∨ k = 12 by omega) with rfl | rfl | rfl | rfl | rfl | rfl | rfl | rfl | rfl | rfl | rfl | rfl | rfl
    · cases hq; exact h0
    · cases hq; exact h1
    · cases hq; exact h2
    · cases hq; exact h3
    · cases hq; exact h4
    · cases hq; exact h5
    · cases hq; exact h6
    · cases hq; exact h7
    · cases hq; exact h8
    · cases hq; exact h9
    · cases hq; exact h10
    · cases hq; exact h11
    · cases hq; exact h12
  · have hk : k < 6 := (List.getElem?_eq_some_iff.mp hq).1
    rcases (show k = 0 ∨ k = 1 ∨ k = 2 ∨ k = 3 ∨ k = 4 ∨ k = 5 by omega) with rfl | rfl | rfl | rfl | rfl | rfl
    · cases hq; exact g0
    · cases hq; exact g1
    · cases hq; exact g2
    · cases hq; exact g3
    · cases hq; exact g4
    · cases hq; exact g5
end KK
set_option maxRecDepth 100000 in
theorem k_txt : (flatC (Jvm.Cond.and given_1 narrow_1)).drop 13 = (List.range 184).map (fun j => Cond.eq (.elem (.field (.string "MillStream$Tokens" 54) "java/lang/String" "value" "[B") (.int (Int32.ofNat j))) (.int (wbyt.getD j 0))) := rfl
set_option maxRecDepth 100000 in
theorem k_ZW {s : State} {b : Nat} (hts : ∀ w ∈ lw_tbl, w.before #[Value.ref b] s = true) (hgv : (Jvm.Cond.and given_1 narrow_1).before #[Value.ref b] s = true) : ∃ aT aB : Nat, ∀ E : EE, ga E 1000 = aT → ga E 1001 = aB → ZW E s.heap.size s := by
  have hs := flat_of_before _ hgv
  have hA : ∀ a : Nat, a < s.heap.size → ¬ (fun q => s.heap.size ≤ q) a := fun a h => Nat.not_le.mpr h
  have z1 : va_Z "java/lang/String" "COMPACT_STRINGS" "Z" (.int 1) (fun q => s.heap.size ≤ q) s s.heap := by
    refine va_Zof (hts _ (lw2 239 rfl)) (hts _ (lw1 15 rfl)) ?_ hA
    have h : (Cond.eq (.static "java/lang/String" "COMPACT_STRINGS" "Z") (.int 1)).before #[Value.ref b] s = true := hs _ (by decide +kernel)
    exact k_eqv h
  have z2 : va_Zq "jdk/internal/util/Preconditions" "SIOOBE_FORMATTER" "Ljava/util/function/BiFunction;" (fun q => s.heap.size ≤ q) s s.heap := va_Zqof (hts _ (lw3 15 rfl)) (hts _ (lw1 17 rfl)) (hs _ (by decide +kernel)) hA
  obtain ⟨adK, adV, hS, hE⟩ := vk_Sof (args := #[Value.ref b]) (s := s) (N := 1) (tm := fun _ => .string "MillStream$Tokens" 54) (len := [184]) (byt := [wbyt]) (A := fun q => s.heap.size ≤ q) (fun i hi => by
      rcases (show i = 0 by omega) with rfl; decide) (fun i hi => by
      rcases (show i = 0 by omega) with rfl; exact hs _ (by decide +kernel)) (fun i hi => by
      rcases (show i = 0 by omega) with rfl; exact hs _ (by decide +kernel)) (fun i hi => by
      rcases (show i = 0 by omega) with rfl; exact hs _ (by decide +kernel)) (fun i hi => by
      rcases (show i = 0 by omega) with rfl; exact hs _ (by decide +kernel)) (fun i hi j hj => by
      rcases (show i = 0 by omega) with rfl
      exact hs _ (List.mem_of_mem_drop (i := 13) (by rw [k_txt]; exact List.mem_map.mpr ⟨j, List.mem_range.mpr hj, rfl⟩))) (fun i j hi hj h => absurd (show i = j by omega) h) hA
  refine ⟨adK 0, adV 0, fun E e1 e2 => ⟨?_, ?_, z1, z2⟩⟩
  · rw [e1]
    exact vk_R.of (hts _ (lw2 229 rfl)) (hE 0 (by omega))
  · rw [e1, e2]
    refine ⟨fun i hi => ?_, fun i j hi hj _ => by omega⟩
    rcases (show i = 0 by omega) with rfl
    exact hS.1 0 (by omega)
