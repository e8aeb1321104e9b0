/-! THE START: the classes' numbers, the text of the kinds, both objects made -/
theorem st_arr {args : Array Value} {s : State} {ty : FieldType} (h : (Cond.arrayClass ty).before args s = true) (hty : ∀ C, ty ≠ .object C) : ∃ cA : ClassId, ArrOfT s cA ty ∧ va_RA s cA ty := by
  obtain ⟨cA, kA, comp, h1, h2, h3⟩ := Cond.arrayClass_spec h
  refine ⟨cA, fun n z => ⟨fun k h => (by cases h), kA, h2, comp, h3⟩, ?_⟩
  cases ty with
  | object C => exact absurd rfl (hty C)
  | _ => exact h1
theorem st_K {args : Array Value} {s : State} (hAW : ∀ x ∈ AW, x.before args s = true) : ∃ (D : va_G) (cI cB : ClassId), va_K D vwCl [(cI, .int), (cB, .byte)] s := by
  obtain ⟨c0, iS0, hK0⟩ := u_known (C := RX0) (T := TX0) (N := 13) (n := 13) hAW iX0 (hAW _ q_ia_X0)
  obtain ⟨c1, iS1, hK1⟩ := u_known (C := RX1) (T := TX1) (N := 4) (n := 4) hAW iX1 (hAW _ q_ia_X1)
  obtain ⟨c2, iS2, hK2⟩ := u_known (C := RX2) (T := TX2) (N := 4) (n := 4) hAW iX2 (hAW _ q_ia_X2)
  obtain ⟨c3, iS3, hK3⟩ := u_known (C := RX3) (T := TX3) (N := 4) (n := 4) hAW iX3 (hAW _ q_ia_X3)
  obtain ⟨c4, iS4, hK4⟩ := u_known (C := RX4) (T := TX4) (N := 9) (n := 9) hAW iX4 (hAW _ q_ia_X4)
  obtain ⟨c5, iS5, hK5⟩ := u_known (C := RX5) (T := TX5) (N := 3) (n := 3) hAW iX5 (hAW _ q_ia_X5)
  obtain ⟨c6, iS6, hK6⟩ := u_known (C := RX6) (T := TX6) (N := 13) (n := 13) hAW iX6 (hAW _ q_ia_X6)
  obtain ⟨c7, iS7, hK7⟩ := u_known (C := RX7) (T := TX7) (N := 55) (n := 55) hAW iX7 (hAW _ q_ia_X7)
  obtain ⟨cI, a1, a2⟩ := st_arr (hAW _ q_ac_int) (fun _ h => by cases h)
  obtain ⟨cB, b1, b2⟩ := st_arr (hAW _ q_ac_byte) (fun _ h => by cases h)
  refine ⟨(fun k => match k with | 0 => c0 | 1 => c1 | 2 => c2 | 3 => c3 | 4 => c4 | 5 => c5 | 6 => c6 | _ => c7, fun k => match k with | 0 => iS0 | 1 => iS1 | 2 => iS2 | 3 => iS3 | 4 => iS4 | 5 => iS5 | 6 => iS6 | _ => iS7), cI, cB, ?_, ?_⟩
  · intro k q hq
    match k, hq with
    | 0, hq => cases hq; exact hK0
    | 1, hq => cases hq; exact hK1
    | 2, hq => cases hq; exact hK2
    | 3, hq => cases hq; exact hK3
    | 4, hq => cases hq; exact hK4
    | 5, hq => cases hq; exact hK5
    | 6, hq => cases hq; exact hK6
    | 7, hq => cases hq; exact hK7
    | k + 8, hq => simp [vwCl] at hq
  · intro k q hq
    match k, hq with
    | 0, hq => cases hq; exact ⟨a1, a2⟩
    | 1, hq => cases hq; exact ⟨b1, b2⟩
    | k + 2, hq => simp at hq
theorem st_N {args : Array Value} {s : State} (hts : ∀ x ∈ lw_tbl, x.before args s = true) : ∀ x ∈ NL, va_Nw x s := by
  intro x hx
  have h1 := hts x (NL_in x hx)
  simp only [NL, List.mem_cons, List.not_mem_nil, or_false] at hx
  rcases hx with rfl | rfl | rfl | rfl | rfl | rfl | rfl | rfl | rfl | rfl | rfl <;> exact va_Nw.of rfl h1
abbrev stA (s : State) : Nat → Prop := fun q => s.heap.size ≤ q
theorem stA_not (s : State) : ∀ a : Nat, a < s.heap.size → ¬ stA s a := fun _ h => Nat.not_le.mpr h
theorem st_Z {b : Nat} {s : State} (hts : ∀ x ∈ lw_tbl, x.before #[Value.ref b] s = true) (hgv : (Jvm.Cond.and given_1 narrow_1).before #[Value.ref b] s = true) : va_Z "java/lang/String" "COMPACT_STRINGS" "Z" (.int 1) (stA s) s s.heap := by
  have hs := flat_of_before _ hgv
  exact va_Zof (hts _ (List.mem_of_getElem? (i := 351) (by decide +kernel))) (hts _ (AW_in q_in_J0)) (va_eqt (hs (Cond.eq (.static "java/lang/String" "COMPACT_STRINGS" "Z") (.int 1)) (by decide +kernel))) (stA_not s)
theorem st_S {b : Nat} {s : State} (hts : ∀ x ∈ lw_tbl, x.before #[Value.ref b] s = true) (hgv : (Jvm.Cond.and given_1 narrow_1).before #[Value.ref b] s = true) : ∃ kS vS : Nat, vk_R RX2 41 "nfext" kS s ∧ vk_S 1 [5] [[110, 102, 101, 120, 116]] (fun _ => kS) (fun _ => vS) (stA s) s s.heap := by
  have hs := flat_of_before _ hgv
  obtain ⟨adK, adV, h1, h2⟩ := vk_Sof (args := #[Value.ref b]) (s := s) (N := 1) (tm := fun _ => .string "FlowFold$Page" 41) (len := [5]) (byt := [[110, 102, 101, 120, 116]]) (A := stA s)
    (fun i hi => by
      have h0 : i = 0 := by omega
      subst h0
      decide)
    (fun i hi => hs _ (by decide +kernel)) (fun i hi => hs _ (by decide +kernel)) (fun i hi => hs _ (by decide +kernel))
    (fun i hi => by
      have h0 : i = 0 := by omega
      subst h0
      exact hs (Cond.eq (.length (.field (.string "FlowFold$Page" 41) "java/lang/String" "value" "[B")) (.int 5)) (by decide +kernel))
    (fun i hi j hj => by
      have h0 : i = 0 := by omega
      subst h0
      have hj : j < 5 := hj
      rcases (show j = 0 ∨ j = 1 ∨ j = 2 ∨ j = 3 ∨ j = 4 by omega) with rfl | rfl | rfl | rfl | rfl
      · exact hs (Cond.eq (.elem (.field (.string "FlowFold$Page" 41) "java/lang/String" "value" "[B") (.int 0)) (.int 110)) (by decide +kernel)
      · exact hs (Cond.eq (.elem (.field (.string "FlowFold$Page" 41) "java/lang/String" "value" "[B") (.int 1)) (.int 102)) (by decide +kernel)
      · exact hs (Cond.eq (.elem (.field (.string "FlowFold$Page" 41) "java/lang/String" "value" "[B") (.int 2)) (.int 101)) (by decide +kernel)
      · exact hs (Cond.eq (.elem (.field (.string "FlowFold$Page" 41) "java/lang/String" "value" "[B") (.int 3)) (.int 120)) (by decide +kernel)
      · exact hs (Cond.eq (.elem (.field (.string "FlowFold$Page" 41) "java/lang/String" "value" "[B") (.int 4)) (.int 116)) (by decide +kernel))
    (fun i j hi hj hne => by omega) (stA_not s)
  refine ⟨adK 0, adV 0, vk_R.of (A := #[Value.ref b]) (hts _ (List.mem_of_getElem? (i := 337) (by decide +kernel))) (h2 0 (by decide)), fun i hi => ?_, fun i j hi hj _ => by omega⟩
  have h0 : i = 0 := by omega
  subst h0
  exact h1.1 0 hi
theorem st_left {D : va_G} {cl : List vw_C} {w1 w2 : va_W} {H : Heap} (h : va_P D cl (w1 ++ w2) H) : va_P D cl w1 H := fun k q hq => h k q (by rw [List.getElem?_append_left (List.getElem?_eq_some_iff.mp hq).1]; exact hq)
theorem st_right {D : va_G} {cl : List vw_C} {w1 w2 : va_W} {H : Heap} (h : va_P D cl (w1 ++ w2) H) : va_P D cl w2 H := fun k q hq => h (w1.length + k) q (by rw [List.getElem?_append_right (Nat.le_add_right _ _), Nat.add_sub_cancel_left]; exact hq)
theorem zW_len (w : zWd) (G : zG) (σ : SF) : (zW w G σ).length = w.1 := by simp [zW, zFW]
/-- both worlds' addresses are apart, and new -/
theorem st_apart {A : Nat → Prop} {w1 w2 : zWd} {G1 G2 : zG} {σ τ : SF} (h : va_D A (zW w1 G1 σ ++ zW w2 G2 τ)) : (∀ i j, i < w1.1 → j < w1.1 → G1.2.1 i = G1.2.1 j → i = j) ∧ (∀ i j, i < w2.1 → j < w2.1 → G2.2.1 i = G2.2.1 j → i = j) ∧ (∀ i j, i < w1.1 → j < w2.1 → G1.2.1 i ≠ G2.2.1 j) ∧ (∀ i, i < w1.1 → A (G1.2.1 i)) ∧ (∀ j, j < w2.1 → A (G2.2.1 j)) := by
  have a1 : ∀ i, i < w1.1 → (zW w1 G1 σ ++ zW w2 G2 τ)[i]? = some (G1.2.1 i, w1.2 G1 i (σ i)) := fun i hi => by
    rw [List.getElem?_append_left (by rw [zW_len]; exact hi)]
    exact zFW_at hi
  have a2 : ∀ i, i < w2.1 → (zW w1 G1 σ ++ zW w2 G2 τ)[w1.1 + i]? = some (G2.2.1 i, w2.2 G2 i (τ i)) := fun i hi => by
    rw [List.getElem?_append_right (by rw [zW_len]; omega), zW_len, Nat.add_sub_cancel_left]
    exact zFW_at hi
  refine ⟨fun i j hi hj e => h.1 i j _ _ (a1 i hi) (a1 j hj) e, fun i j hi hj e => ?_, fun i j hi hj e => ?_, fun i hi => h.2 i _ (a1 i hi), fun j hj => h.2 _ _ (a2 j hj)⟩
  · have h3 := h.1 _ _ _ _ (a2 i hi) (a2 j hj) e
    omega
  · have h3 := h.1 _ _ _ _ (a1 i hi) (a2 j hj) e
    omega
theorem st_zK {w : zWd} {G : zG} {s : State} (hi : ∀ i j, i < w.1 → j < w.1 → G.2.1 i = G.2.1 j → i = j) (hA : ∀ i, i < w.1 → s.heap.size ≤ G.2.1 i) (hK : va_K G.1 vwCl [(G.2.2.1, .int), (G.2.2.2.1, .byte)] s) (hN : ∀ x ∈ NL, va_Nw x s) (hR : vk_R RX2 41 "nfext" G.2.2.2.2.1 s) (hZ : va_Z "java/lang/String" "COMPACT_STRINGS" "Z" (.int 1) (stA s) s s.heap) (hS : vk_S 1 [5] [[110, 102, 101, 120, 116]] (fun _ => G.2.2.2.2.1) (fun _ => G.2.2.2.2.2) (stA s) s s.heap) : zK w G s.heap.size s := by
  have hn : ∀ q, zAA w G s.heap.size q → stA s q := by
    intro q h
    rcases h with ⟨k, hk, rfl⟩ | h
    · exact hA k hk
    · exact h
  exact ⟨hi, hK, hN, hR, hZ.narrow hn, hS.narrow hn⟩
set_option maxHeartbeats 4000000 in
set_option maxRecDepth 100000 in
theorem whole_start {p : Program} {e : Env} {s : State} {m : MethodId} {below : List Frame} {meth : Method} {c : Code} (l : Launch) (hflags : l.flags = flags0) {b L : Nat} {xs : Nat → Int32} (hL : L ≤ 2048) (C0 : lw_At p s m meth c b L xs) : W p l e room_1 s m #[Value.ref b] below meth c s.heap [] 0 0 (lw_Z below #[Value.ref b] s) (entryFrame m ([Value.ref b] : List Value).toArray 4) := by
  obtain ⟨hx, hb, hr, hml, hown, hts, hX, hbl, hlocks, hgv⟩ := id C0
  have hAW : ∀ x ∈ AW, x.before #[Value.ref b] s = true := fun x hx => hts x (AW_in hx)
  obtain ⟨D, cI, cB, hK⟩ := st_K hAW
  have hN := st_N hts
  have hZ := st_Z hts hgv
  obtain ⟨kS, vS, hR, hS⟩ := st_S hts hgv
  have hC : ctC D cI cB (stA s) RL #[Value.ref b] s m := ⟨hown, hAW, hK, fun _ h => h, hN⟩
  have hI : ctI D (stA s) s [] s.heap [] := ⟨fun k q h => by simp at h, ⟨fun i j p q h => by simp at h, fun k q h => by simp at h⟩, va_S.rf⟩
  have hl := lv_entry ([.ref b]) (n := 4) (Nat.le_of_ble_eq_true rfl)
  rw [lg_entry_eq]
  generalize (lg_sl ([.ref b]) ++ List.replicate (4 - (lg_sl ([.ref b])).length) Slot.unset).toArray = ls at hl ⊢
  have hl : lv_has ls 4 [(0, .ref b)] := hl
  refine ct_new (ci := 6) (fs := [.null, .null, .null, .null, .null, .null, .null, .null, .null, .null, .int 0, .int 0, .int 0]) hx hb hC hI rfl iX6 tyX6 tyX6_ok q_cl_L_7 q_ia_X6 q_in_X6 (by decide +kernel) (Nat.le_of_ble_eq_true rfl) (Nat.le_of_ble_eq_true rfl) dL_0 (fun qF H hI => ?_)
  refine lv_dup hx hb dL_3 rfl ?_
  refine ct_callI (k := 0) (ws := []) (As := []) (rest := [.ref qF]) hx hb hC (hml.trans hl.1.symm) hI (c_X6_init l D cI cB kS vS qF) q_co_X6_init q_in_X6 q_ml_L_9 q_im_X6_init rfl (by decide +kernel) ⟨Nat.le_of_ble_eq_true rfl, Nat.le_of_ble_eq_true rfl⟩ rfl rfl (Nat.le_of_ble_eq_true rfl) ⟨Nat.le_of_ble_eq_true rfl, Nat.le_of_ble_eq_true rfl⟩ dL_4 (fun uF H locs hF hI => ?_)
  have hI : ctI D (stA s) s (zW WF (D, uF, cI, cB, kS, vS) (fun _ _ => 0)) H locs := hI
  refine lv_astore_n (lv' := [(1, .ref qF), (0, .ref b)]) hx hb dL_7 rfl hl (by decide) rfl (fun ls hl => ?_)
  refine ct_new (ci := 7) (fs := [.int 0, .int 0, .null, .null, .int 0, .null, .int 0, .int 0, .null, .null, .null, .int 0, .null, .int 0, .int 0, .int 0, .null, .null, .int 0, .int 0, .null, .null, .int 0, .int 0, .null, .null, .null, .null, .int 0, .int 0, .int 0, .int 0, .int 0, .null, .null, .null, .int 0, .int 0, .int 0, .int 0, .null, .int 0, .null, .int 0, .null, .long 0, .int 0, .int 0, .int 0, .null, .null, .null, .null, .null, .long 0]) hx hb hC hI rfl iX7 tyX7 tyX7_ok q_cl_L_10 q_ia_X7 q_in_X7 (by decide +kernel) (Nat.le_of_ble_eq_true rfl) (Nat.le_of_ble_eq_true rfl) dL_8 (fun qM H hI => ?_)
  refine lv_dup hx hb dL_11 rfl ?_
  refine ct_callI (k := 0) (As := []) (rest := [.ref qM]) hx hb hC (hml.trans hl.1.symm) hI (c_X7_init l D cI cB kS vS qM) q_co_X7_init q_in_X7 q_ml_L_12 q_im_X7_init rfl (by decide +kernel) ⟨Nat.le_of_ble_eq_true rfl, Nat.le_of_ble_eq_true rfl⟩ rfl rfl (Nat.le_of_ble_eq_true rfl) ⟨Nat.le_of_ble_eq_true rfl, Nat.le_of_ble_eq_true rfl⟩ dL_12 (fun uM H locs hM hI => ?_)
  have hI : ctI D (stA s) s (zW WF (D, uF, cI, cB, kS, vS) (fun _ _ => 0) ++ zW WM (D, uM, cI, cB, kS, vS) (fun _ _ => 0)) H locs := hI
  refine lv_astore_n (lv' := [(2, .ref qM), (1, .ref qF), (0, .ref b)]) hx hb dL_15 rfl hl (by decide) rfl (fun ls hl => ?_)
  refine lv_iconst (v := 0) hx hb dL_16 (by decide) ?_
  refine lv_istore_n (lv' := [(3, .int 0), (2, .ref qM), (1, .ref qF), (0, .ref b)]) hx hb dL_17 rfl hl (by decide) rfl (fun ls hl => ?_)
  obtain ⟨hP, hD, hV⟩ := hI
  obtain ⟨i1, i2, i3, i4, i5⟩ := st_apart hD
  have hF : uF 0 = qF := hF
  have hM : uM 0 = qM := hM
  rw [← hF, ← hM] at hl
  have k1 : zK WF (D, uF, cI, cB, kS, vS) s.heap.size s := st_zK i1 i4 hK hN hR hZ hS
  have k2 : zK WM (D, uM, cI, cB, kS, vS) s.heap.size s := st_zK i2 i5 hK hN hR hZ hS
  refine law_loop (G1 := (D, uF, cI, cB, kS, vS)) (G2 := (D, uM, cI, cB, kS, vS)) (L := L) (xs := xs) ⟨hx, hb, hr, hlocks, hml, ⟨hown, hAW, k1, k2, i3, i4, i5⟩, ⟨Nat.le_of_ble_eq_true rfl, Nat.le_of_ble_eq_true rfl⟩, hX, hbl, hL⟩ 513 0 (by decide) (by decide) (fun _ _ => 0) (fun _ _ => 0) H locs ls (Inv.zero (fun _ _ _ => rfl) (fun _ _ => rfl)) ⟨st_left hP, st_right hP, hV⟩ (lv_sub hl [3, 2, 1, 0] rfl)
