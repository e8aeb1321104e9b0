set_option maxRecDepth 100000 in
set_option maxHeartbeats 4000000 in
theorem c_X1_has (l : Launch) (G : zG) {b : Nat} (hb1 : isJ b) {σ : SF} {r : Int32} {x1 : Int32} (h : F_X1_has σ b x1 = some r) : zMi l WF G yX1_has cX1_has 2 .boolean 1 [.ref (za G b), .int x1] σ r σ := by
  refine zMi_of (by decide) (Nat.le_of_ble_eq_true rfl) (fun p e s m args below meth c ls Q hx hb hr hlk hml hC hI hl hret => ?_)
  have hl : lv_has ls 2 [(0, .ref (za G b)), (1, .int x1)] := hl
  have hC : zC WF G RX1 args s m := hC
  unfold F_X1_has at h
  refine lv_iload_n hx hb dX1_has_0 rfl (lv_at hl 1 rfl) ?_
  refine lv_if_lt (tgt := 16) hx hb dX1_has_1 (by decide) (fun hc => ?_) (fun hc => ?_)
  · have h := zi_t hc h
    refine lv_iconst (v := 0) hx hb dX1_has_16 lc_0 ?_
    exact hret ⟨(Option.some.inj h), rfl⟩ hI rfl dX1_has_17
  · have h := zi_f hc h
    refine lv_iload_n hx hb dX1_has_4 rfl (lv_at hl 1 rfl) ?_
    refine lv_aload_n hx hb dX1_has_5 rfl (lv_at hl 0 rfl) ?_
    refine gX1_0 hb1 hx hb hC hI q_fl_X1_21 dX1_has_6 ?_
    refine lv_icmp_ge (tgt := 16) hx hb dX1_has_9 (by decide) (fun hc => ?_) (fun hc => ?_)
    · have h := zi_t hc h
      refine lv_iconst (v := 0) hx hb dX1_has_16 lc_0 ?_
      exact hret ⟨(Option.some.inj h), rfl⟩ hI rfl dX1_has_17
    · have h := zi_f hc h
      refine lv_iconst (v := 1) hx hb dX1_has_12 lc_1 ?_
      refine lv_goto (tgt := 17) hx hb dX1_has_13 (by decide) ?_
      exact hret ⟨(Option.some.inj h), rfl⟩ hI rfl dX1_has_17
set_option maxRecDepth 100000 in
set_option maxHeartbeats 4000000 in
theorem c_X1_target (l : Launch) (G : zG) {b : Nat} (hb1 : isJ b) {σ : SF} {r : Int32} {x1 : Int32} {x2 : Int32} (h : F_X1_target σ b x1 x2 = some r) : zMi l WF G yX1_target cX1_target 3 .int 2 [.ref (za G b), .int x1, .int x2] σ r σ := by
  refine zMi_of (by decide) (Nat.le_of_ble_eq_true rfl) (fun p e s m args below meth c ls Q hx hb hr hlk hml hC hI hl hret => ?_)
  have hl : lv_has ls 3 [(0, .ref (za G b)), (1, .int x1), (2, .int x2)] := hl
  have hC : zC WF G RX1 args s m := hC
  unfold F_X1_target at h
  refine lv_aload_n hx hb dX1_target_0 rfl (lv_at hl 0 rfl) ?_
  refine lv_iload_n hx hb dX1_target_1 rfl (lv_at hl 1 rfl) ?_
  obtain ⟨r2, h1, h⟩ := zb_e h
  refine z_cVi (As := [.int x1]) (rest := []) hx hb hC (hml.trans hl.1.symm) hI (c_X1_has l G hb1 h1) yyX1_has q_ml_X1_25 (oX1 G hb1) rfl ⟨Nat.le_of_ble_eq_true rfl, Nat.le_of_ble_eq_true rfl⟩ rfl rfl (Nat.le_of_ble_eq_true rfl) ⟨Nat.le_refl _, Nat.le_refl _⟩ dX1_target_2 (fun H locs hI => ?_)
  refine lv_if_ne (tgt := 10) hx hb dX1_target_5 (by decide) (fun hc => ?_) (fun hc => ?_)
  · have h := zi_f hc h
    refine lv_iload_n hx hb dX1_target_10 rfl (lv_at hl 2 rfl) ?_
    refine lv_if_ne (tgt := 23) hx hb dX1_target_11 (by decide) (fun hc => ?_) (fun hc => ?_)
    · have h := zi_f hc h
      refine lv_aload_n hx hb dX1_target_23 rfl (lv_at hl 0 rfl) ?_
      refine gX1_3 hb1 hx hb hC hI q_fl_X1_18 dX1_target_24 ?_
      refine lv_iload_n hx hb dX1_target_27 rfl (lv_at hl 1 rfl) ?_
      obtain ⟨hg, h⟩ := zg_e h
      refine z_iald hx hb hC hI (vX1_3 G hb1) hg dX1_target_28 ?_
      exact hret ⟨(Option.some.inj h), rfl⟩ hI rfl dX1_target_29
    · have h := zi_t hc h
      refine lv_aload_n hx hb dX1_target_14 rfl (lv_at hl 0 rfl) ?_
      refine gX1_2 hb1 hx hb hC hI q_fl_X1_15 dX1_target_15 ?_
      refine lv_iload_n hx hb dX1_target_18 rfl (lv_at hl 1 rfl) ?_
      obtain ⟨hg, h⟩ := zg_e h
      refine z_iald hx hb hC hI (vX1_2 G hb1) hg dX1_target_19 ?_
      refine lv_goto (tgt := 29) hx hb dX1_target_20 (by decide) ?_
      exact hret ⟨(Option.some.inj h), rfl⟩ hI rfl dX1_target_29
  · have h := zi_t hc h
    refine lv_iconst (v := (-1)) hx hb dX1_target_8 lc_m1 ?_
    exact hret ⟨(Option.some.inj h), rfl⟩ hI rfl dX1_target_9
set_option maxRecDepth 100000 in
set_option maxHeartbeats 4000000 in
theorem c_X6_endsOf (l : Launch) (G : zG)  {σ : SF} {r : Int32} {x0 : Int32} (h : F_X6_endsOf   x0 = some r) : zMi l WF G yX6_endsOf cX6_endsOf 1 .int 1 [.int x0] σ r σ := by
  refine zMi_of (by decide) (Nat.le_of_ble_eq_true rfl) (fun p e s m args below meth c ls Q hx hb hr hlk hml hC hI hl hret => ?_)
  have hl : lv_has ls 1 [(0, .int x0)] := hl
  have hC : zC WF G RX6 args s m := hC
  unfold F_X6_endsOf at h
  refine lv_iload_n hx hb dX6_endsOf_0 rfl (lv_at hl 0 rfl) ?_
  by_cases n_1_0 : x0 = 0
  · have h := zi_t n_1_0 h
    refine lv_lookup (tgt := 28) (off := 27) hx hb dX6_endsOf_1 (by decide) (by rw [n_1_0]; rfl) (by decide) ?_
    refine lv_iconst (v := 1) hx hb dX6_endsOf_28 lc_1 ?_
    exact hret ⟨(Option.some.inj h), rfl⟩ hI rfl dX6_endsOf_29
  have h := zi_f n_1_0 h
  by_cases n_1_2 : x0 = 2
  · have h := zi_t n_1_2 h
    refine lv_lookup (tgt := 30) (off := 29) hx hb dX6_endsOf_1 (by decide) (by rw [n_1_2]; rfl) (by decide) ?_
    refine lv_iconst (v := 0) hx hb dX6_endsOf_30 lc_0 ?_
    exact hret ⟨(Option.some.inj h), rfl⟩ hI rfl dX6_endsOf_31
  have h := zi_f n_1_2 h
  refine lv_lookup (tgt := 32) (off := 31) hx hb dX6_endsOf_1 (by decide) (by simp only [Op.lookupswitch.offset, zko n_1_0 (show (0 : Int32).toInt = 0 by decide), zko n_1_2 (show (2 : Int32).toInt = 2 by decide), if_false]) (by decide) ?_
  refine lv_iconst (v := 2) hx hb dX6_endsOf_32 lc_2 ?_
  exact hret ⟨(Option.some.inj h), rfl⟩ hI rfl dX6_endsOf_33
set_option maxRecDepth 100000 in
set_option maxHeartbeats 4000000 in
theorem c_X0_findTargets (l : Launch) (G : zG) {j : Nat} (hj : isF j) {σ σ' : SF} {x1 : Int32} (h : F_X0_findTargets σ j x1 = some σ') : zMv l WF G yX0_findTargets cX0_findTargets 6 3 [.ref (za G (j + 4)), .int x1] σ σ' := by
  refine zMv_of (by decide) (Nat.le_of_ble_eq_true rfl) (fun p e s m args below meth c ls Q hx hb hr hlk hml hC hI hl hret => ?_)
  have hl : lv_has ls 6 [(0, .ref (za G (j + 4))), (1, .int x1)] := hl
  have hC : zC WF G RX0 args s m := hC
  have w_2 : ∀ (n : Nat) (y1 : Int32) (y2 : Int32) (σ : SF) (y2o : Int32) (σo : SF), L_X0_findTargets_2 j y1 n y2 σ = some (y2o, σo) → ∀ (H : Heap) (locs : List Loc) (ls : Array Slot), zI WF G s σ H locs → lv_has ls 6 [(0, .ref (za G (j + 4))), (1, .int y1), (2, .int y2)] → (∀ (H : Heap) (locs : List Loc) (ls : Array Slot), zI WF G s σo H locs → lv_has ls 6 [(0, .ref (za G (j + 4))), (1, .int y1), (2, .int y2o)] → W p l e (zR 3) s m args below meth c H locs 0 0 Q (F0 m 104 ls [])) → W p l e (zR 3) s m args below meth c H locs 0 0 Q (F0 m 2 ls []) := by
    intro n
    induction n with
    | zero => intro y1 y2 σ y2o σo h; cases h
    | succ n ih =>
      intro y1 y2 σ y2o σo h H locs ls hI hl kE
      unfold L_X0_findTargets_2 at h
      refine lv_iload_n hx hb dX0_findTargets_2 rfl (lv_at hl 2 rfl) ?_
      refine lv_bipush (v := 16) hx hb dX0_findTargets_3 lb_16 ?_
      refine lv_icmp_ge (tgt := 104) hx hb dX0_findTargets_5 (by decide) (fun hc => ?_) (fun hc => ?_)
      · have h := zi_t hc h
        cases h
        exact kE _ _ _ hI (lv_sub hl [0, 1, 2] rfl)
      · have h := zi_f hc h
        refine lv_iload_n hx hb dX0_findTargets_8 rfl (lv_at hl 2 rfl) ?_
        refine lv_iconst (v := 2) hx hb dX0_findTargets_9 lc_2 ?_
        refine lv_idiv hx hb dX0_findTargets_10 (by decide) ?_
        refine lv_topi (fun v1 e_v1 => ?_)
        have h := zl_e h e_v1
        refine lv_istore_n (lv' := [(3, .int v1), (0, .ref (za G (j + 4))), (1, .int y1), (2, .int y2)]) hx hb dX0_findTargets_11 rfl hl (by decide) rfl (fun ls hl => ?_)
        refine lv_aload_n hx hb dX0_findTargets_12 rfl (lv_at hl 1 rfl) ?_
        refine gX0_0 hj hx hb hC hI q_fl_X0_27 dX0_findTargets_13 ?_
        refine lv_iload_n hx hb dX0_findTargets_16 rfl (lv_at hl 0 rfl) ?_
        refine lv_iload_n hx hb dX0_findTargets_17 rfl (lv_at hl 3 rfl) ?_
        refine lv_iconst (v := 2) hx hb dX0_findTargets_18 lc_2 ?_
        refine lv_irem hx hb dX0_findTargets_19 (by decide) ?_
        obtain ⟨r3, h2, h⟩ := zb_e h
        refine z_cVi (As := [.int v1, .int (y2 - y2 / 2 * 2)]) (rest := []) hx hb hC (hml.trans hl.1.symm) hI (c_X1_target l G hj.J h2) yyX1_target q_ml_X0_83 (oX1 G hj.J) rfl ⟨Nat.le_of_ble_eq_true rfl, Nat.le_of_ble_eq_true rfl⟩ rfl rfl (Nat.le_of_ble_eq_true rfl) ⟨Nat.le_refl _, Nat.le_refl _⟩ dX0_findTargets_20 (fun H locs hI => ?_)
        refine lv_istore (lv' := [(4, .int r3), (3, .int v1), (0, .ref (za G (j + 4))), (1, .int y1), (2, .int y2)]) hx hb dX0_findTargets_23 hl (by decide) rfl (fun ls hl => ?_)
        refine lv_aload_n hx hb dX0_findTargets_25 rfl (lv_at hl 2 rfl) ?_
        refine gX0_0 hj hx hb hC hI q_fl_X0_27 dX0_findTargets_26 ?_
        refine lv_iload_n hx hb dX0_findTargets_29 rfl (lv_at hl 1 rfl) ?_
        obtain ⟨r5, h4, h⟩ := zb_e h
        refine z_cVi (As := [.int v1]) (rest := []) hx hb hC (hml.trans hl.1.symm) hI (c_X1_has l G hj.J h4) yyX1_has q_ml_X0_61 (oX1 G hj.J) rfl ⟨Nat.le_of_ble_eq_true rfl, Nat.le_of_ble_eq_true rfl⟩ rfl rfl (Nat.le_of_ble_eq_true rfl) ⟨Nat.le_refl _, Nat.le_refl _⟩ dX0_findTargets_30 (fun H locs hI => ?_)
        refine lv_if_eq (tgt := 78) hx hb dX0_findTargets_33 (by decide) (fun hc => ?_) (fun hc => ?_)
        · have h := zi_t hc h
          refine lv_iconst (v := 0) hx hb dX0_findTargets_78 lc_0 ?_
          refine lv_istore (lv' := [(5, .int 0), (4, .int r3), (3, .int v1), (0, .ref (za G (j + 4))), (1, .int y1), (2, .int y2)]) hx hb dX0_findTargets_79 hl (by decide) rfl (fun ls hl => ?_)
          refine lv_aload_n hx hb dX0_findTargets_81 rfl (lv_at hl 3 rfl) ?_
          refine gX0_1 hj hx hb hC hI q_fl_X0_9 dX0_findTargets_82 ?_
          refine lv_iload_n hx hb dX0_findTargets_85 rfl (lv_at hl 5 rfl) ?_
          refine lv_iload hx hb dX0_findTargets_86 (lv_at hl 0 rfl) ?_
          refine lv_if_eq (tgt := 96) hx hb dX0_findTargets_88 (by decide) (fun _ => ?_) (fun hc => absurd hc (by decide))
          refine lv_iconst (v := (-1)) hx hb dX0_findTargets_96 lc_m1 ?_
          obtain ⟨hg, h⟩ := zg_e h
          refine z_iast hx hb hC hI (vX0_1 G hj) hg dX0_findTargets_97 (fun σ6 H locs e_σ6 hI => ?_)
          have h := zl_e h e_σ6
          obtain ⟨v7, e_v7⟩ : ∃ y : Int32, y = y2 + 1 := ⟨_, rfl⟩
          have h := zl_e h e_v7
          refine lv_iinc (v := v7) (lv' := [(2, .int v7), (5, .int 0), (4, .int r3), (3, .int v1), (0, .ref (za G (j + 4))), (1, .int y1)]) hx hb dX0_findTargets_98 hl (k := 5) rfl (by rw [lc_1]; exact e_v7.symm) (by decide) rfl (fun ls hl => ?_)
          refine lv_goto (tgt := 2) hx hb dX0_findTargets_101 (by decide) ?_
          exact ih y1 v7 σ6 y2o σo h _ _ _ hI (lv_sub hl [4, 5, 0] rfl) kE
        · have h := zi_f hc h
          refine lv_aload_n hx hb dX0_findTargets_36 rfl (lv_at hl 2 rfl) ?_
          refine gX0_0 hj hx hb hC hI q_fl_X0_27 dX0_findTargets_37 ?_
          refine lv_iload hx hb dX0_findTargets_40 (lv_at hl 0 rfl) ?_
          obtain ⟨r9, h8, h⟩ := zb_e h
          refine z_cVi (As := [.int r3]) (rest := []) hx hb hC (hml.trans hl.1.symm) hI (c_X1_has l G hj.J h8) yyX1_has q_ml_X0_61 (oX1 G hj.J) rfl ⟨Nat.le_of_ble_eq_true rfl, Nat.le_of_ble_eq_true rfl⟩ rfl rfl (Nat.le_of_ble_eq_true rfl) ⟨Nat.le_refl _, Nat.le_refl _⟩ dX0_findTargets_42 (fun H locs hI => ?_)
          refine lv_if_eq (tgt := 78) hx hb dX0_findTargets_45 (by decide) (fun hc => ?_) (fun hc => ?_)
          · have h := zi_t hc h
            refine lv_iconst (v := 0) hx hb dX0_findTargets_78 lc_0 ?_
            refine lv_istore (lv' := [(5, .int 0), (4, .int r3), (3, .int v1), (0, .ref (za G (j + 4))), (1, .int y1), (2, .int y2)]) hx hb dX0_findTargets_79 hl (by decide) rfl (fun ls hl => ?_)
            refine lv_aload_n hx hb dX0_findTargets_81 rfl (lv_at hl 3 rfl) ?_
            refine gX0_1 hj hx hb hC hI q_fl_X0_9 dX0_findTargets_82 ?_
            refine lv_iload_n hx hb dX0_findTargets_85 rfl (lv_at hl 5 rfl) ?_
            refine lv_iload hx hb dX0_findTargets_86 (lv_at hl 0 rfl) ?_
            refine lv_if_eq (tgt := 96) hx hb dX0_findTargets_88 (by decide) (fun _ => ?_) (fun hc => absurd hc (by decide))
            refine lv_iconst (v := (-1)) hx hb dX0_findTargets_96 lc_m1 ?_
            obtain ⟨hg, h⟩ := zg_e h
            refine z_iast hx hb hC hI (vX0_1 G hj) hg dX0_findTargets_97 (fun σ10 H locs e_σ10 hI => ?_)
            have h := zl_e h e_σ10
            obtain ⟨v11, e_v11⟩ : ∃ y : Int32, y = y2 + 1 := ⟨_, rfl⟩
            have h := zl_e h e_v11
            refine lv_iinc (v := v11) (lv' := [(2, .int v11), (5, .int 0), (4, .int r3), (3, .int v1), (0, .ref (za G (j + 4))), (1, .int y1)]) hx hb dX0_findTargets_98 hl (k := 5) rfl (by rw [lc_1]; exact e_v11.symm) (by decide) rfl (fun ls hl => ?_)
            refine lv_goto (tgt := 2) hx hb dX0_findTargets_101 (by decide) ?_
            exact ih y1 v11 σ10 y2o σo h _ _ _ hI (lv_sub hl [4, 5, 0] rfl) kE
          · have h := zi_f hc h
            refine lv_iload_n hx hb dX0_findTargets_48 rfl (lv_at hl 4 rfl) ?_
            refine lv_iconst (v := 2) hx hb dX0_findTargets_49 lc_2 ?_
            refine lv_irem hx hb dX0_findTargets_50 (by decide) ?_
            refine lv_aload_n hx hb dX0_findTargets_51 rfl (lv_at hl 2 rfl) ?_
            refine gX0_0 hj hx hb hC hI q_fl_X0_27 dX0_findTargets_52 ?_
            refine gX1_1 hj.J hx hb hC hI q_fl_X0_87 dX0_findTargets_55 ?_
            refine lv_iload_n hx hb dX0_findTargets_58 rfl (lv_at hl 1 rfl) ?_
            obtain ⟨hg, h⟩ := zg_e h
            refine z_iald hx hb hC hI (vX1_1 G hj.J) hg dX0_findTargets_59 ?_
            obtain ⟨r13, h12, h⟩ := zb_e h
            refine z_cNi (As := [.int (σ (j + 1) (v1 : Int32).toNatClampNeg)]) (rest := [.int (y2 - y2 / 2 * 2)]) hx hb hC (hml.trans hl.1.symm) hI (c_X6_endsOf l G  (σ := σ) h12) yyX6_endsOf q_nl_X0_90 ⟨Nat.le_of_ble_eq_true rfl, Nat.le_of_ble_eq_true rfl⟩ rfl rfl (Nat.le_of_ble_eq_true rfl) ⟨Nat.le_refl _, Nat.le_refl _⟩ dX0_findTargets_60 (fun H locs hI => ?_)
            refine lv_icmp_ge (tgt := 78) hx hb dX0_findTargets_63 (by decide) (fun hc => ?_) (fun hc => ?_)
            · have h := zi_t hc h
              refine lv_iconst (v := 0) hx hb dX0_findTargets_78 lc_0 ?_
              refine lv_istore (lv' := [(5, .int 0), (4, .int r3), (3, .int v1), (0, .ref (za G (j + 4))), (1, .int y1), (2, .int y2)]) hx hb dX0_findTargets_79 hl (by decide) rfl (fun ls hl => ?_)
              refine lv_aload_n hx hb dX0_findTargets_81 rfl (lv_at hl 3 rfl) ?_
              refine gX0_1 hj hx hb hC hI q_fl_X0_9 dX0_findTargets_82 ?_
              refine lv_iload_n hx hb dX0_findTargets_85 rfl (lv_at hl 5 rfl) ?_
              refine lv_iload hx hb dX0_findTargets_86 (lv_at hl 0 rfl) ?_
              refine lv_if_eq (tgt := 96) hx hb dX0_findTargets_88 (by decide) (fun _ => ?_) (fun hc => absurd hc (by decide))
              refine lv_iconst (v := (-1)) hx hb dX0_findTargets_96 lc_m1 ?_
              obtain ⟨hg, h⟩ := zg_e h
              refine z_iast hx hb hC hI (vX0_1 G hj) hg dX0_findTargets_97 (fun σ14 H locs e_σ14 hI => ?_)
              have h := zl_e h e_σ14
              obtain ⟨v15, e_v15⟩ : ∃ y : Int32, y = y2 + 1 := ⟨_, rfl⟩
              have h := zl_e h e_v15
              refine lv_iinc (v := v15) (lv' := [(2, .int v15), (5, .int 0), (4, .int r3), (3, .int v1), (0, .ref (za G (j + 4))), (1, .int y1)]) hx hb dX0_findTargets_98 hl (k := 5) rfl (by rw [lc_1]; exact e_v15.symm) (by decide) rfl (fun ls hl => ?_)
              refine lv_goto (tgt := 2) hx hb dX0_findTargets_101 (by decide) ?_
              exact ih y1 v15 σ14 y2o σo h _ _ _ hI (lv_sub hl [4, 5, 0] rfl) kE
            · have h := zi_f hc h
              refine lv_iload_n hx hb dX0_findTargets_66 rfl (lv_at hl 3 rfl) ?_
              refine lv_iload_n hx hb dX0_findTargets_67 rfl (lv_at hl 4 rfl) ?_
              refine lv_ishr hx hb dX0_findTargets_68 ?_
              refine lv_iconst (v := 1) hx hb dX0_findTargets_69 lc_1 ?_
              refine lv_iand hx hb dX0_findTargets_70 ?_
              refine lv_if_ne (tgt := 78) hx hb dX0_findTargets_71 (by decide) (fun hc => ?_) (fun hc => ?_)
              · have h := zi_f hc h
                refine lv_iconst (v := 0) hx hb dX0_findTargets_78 lc_0 ?_
                refine lv_istore (lv' := [(5, .int 0), (4, .int r3), (3, .int v1), (0, .ref (za G (j + 4))), (1, .int y1), (2, .int y2)]) hx hb dX0_findTargets_79 hl (by decide) rfl (fun ls hl => ?_)
                refine lv_aload_n hx hb dX0_findTargets_81 rfl (lv_at hl 3 rfl) ?_
                refine gX0_1 hj hx hb hC hI q_fl_X0_9 dX0_findTargets_82 ?_
                refine lv_iload_n hx hb dX0_findTargets_85 rfl (lv_at hl 5 rfl) ?_
                refine lv_iload hx hb dX0_findTargets_86 (lv_at hl 0 rfl) ?_
                refine lv_if_eq (tgt := 96) hx hb dX0_findTargets_88 (by decide) (fun _ => ?_) (fun hc => absurd hc (by decide))
                refine lv_iconst (v := (-1)) hx hb dX0_findTargets_96 lc_m1 ?_
                obtain ⟨hg, h⟩ := zg_e h
                refine z_iast hx hb hC hI (vX0_1 G hj) hg dX0_findTargets_97 (fun σ16 H locs e_σ16 hI => ?_)
                have h := zl_e h e_σ16
                obtain ⟨v17, e_v17⟩ : ∃ y : Int32, y = y2 + 1 := ⟨_, rfl⟩
                have h := zl_e h e_v17
                refine lv_iinc (v := v17) (lv' := [(2, .int v17), (5, .int 0), (4, .int r3), (3, .int v1), (0, .ref (za G (j + 4))), (1, .int y1)]) hx hb dX0_findTargets_98 hl (k := 5) rfl (by rw [lc_1]; exact e_v17.symm) (by decide) rfl (fun ls hl => ?_)
                refine lv_goto (tgt := 2) hx hb dX0_findTargets_101 (by decide) ?_
                exact ih y1 v17 σ16 y2o σo h _ _ _ hI (lv_sub hl [4, 5, 0] rfl) kE
              · have h := zi_t hc h
                refine lv_iconst (v := 1) hx hb dX0_findTargets_74 lc_1 ?_
                refine lv_goto (tgt := 79) hx hb dX0_findTargets_75 (by decide) ?_
                refine lv_istore (lv' := [(5, .int 1), (4, .int r3), (3, .int v1), (0, .ref (za G (j + 4))), (1, .int y1), (2, .int y2)]) hx hb dX0_findTargets_79 hl (by decide) rfl (fun ls hl => ?_)
                refine lv_aload_n hx hb dX0_findTargets_81 rfl (lv_at hl 3 rfl) ?_
                refine gX0_1 hj hx hb hC hI q_fl_X0_9 dX0_findTargets_82 ?_
                refine lv_iload_n hx hb dX0_findTargets_85 rfl (lv_at hl 5 rfl) ?_
                refine lv_iload hx hb dX0_findTargets_86 (lv_at hl 0 rfl) ?_
                refine lv_if_eq (tgt := 96) hx hb dX0_findTargets_88 (by decide) (fun hc => absurd hc (by decide)) (fun _ => ?_)
                refine lv_iload hx hb dX0_findTargets_91 (lv_at hl 1 rfl) ?_
                refine lv_goto (tgt := 97) hx hb dX0_findTargets_93 (by decide) ?_
                obtain ⟨hg, h⟩ := zg_e h
                refine z_iast hx hb hC hI (vX0_1 G hj) hg dX0_findTargets_97 (fun σ18 H locs e_σ18 hI => ?_)
                have h := zl_e h e_σ18
                obtain ⟨v19, e_v19⟩ : ∃ y : Int32, y = y2 + 1 := ⟨_, rfl⟩
                have h := zl_e h e_v19
                refine lv_iinc (v := v19) (lv' := [(2, .int v19), (5, .int 1), (4, .int r3), (3, .int v1), (0, .ref (za G (j + 4))), (1, .int y1)]) hx hb dX0_findTargets_98 hl (k := 5) rfl (by rw [lc_1]; exact e_v19.symm) (by decide) rfl (fun ls hl => ?_)
                refine lv_goto (tgt := 2) hx hb dX0_findTargets_101 (by decide) ?_
                exact ih y1 v19 σ18 y2o σo h _ _ _ hI (lv_sub hl [4, 5, 0] rfl) kE
  unfold F_X0_findTargets at h
  refine lv_iconst (v := 0) hx hb dX0_findTargets_0 lc_0 ?_
  refine lv_istore_n (lv' := [(2, .int 0), (0, .ref (za G (j + 4))), (1, .int x1)]) hx hb dX0_findTargets_1 rfl hl (by decide) rfl (fun ls hl => ?_)
  obtain ⟨v20, σ21, h22, h⟩ := zb2_e h
  refine w_2 100 x1 0 σ v20 σ21 h22 _ _ _ hI (lv_sub hl [1, 2, 0] rfl) (fun H locs ls hI hl => ?_)
  exact hret (Option.some.inj h) hI dX0_findTargets_104
set_option maxRecDepth 100000 in
set_option maxHeartbeats 4000000 in
theorem cb_X0_doNode (l : Launch) (G : zG) {j : Nat} (hj : isF j) {d : Nat} (hd : 4 ≤ d) {rec : SF → Int32 → Int32 → Option SF} (hrec : ∀ {σ : SF} {x1 x2 : Int32} {σ' : SF}, rec σ x1 x2 = some σ' → zMv l WF G yX0_doNode cX0_doNode 5 d [.ref (za G (j + 4)), .int x1, .int x2] σ σ') {σ σ' : SF} {x1 : Int32} {x2 : Int32} (h : B_X0_doNode rec σ j x1 x2 = some σ') : zMv l WF G yX0_doNode cX0_doNode 5 (d + 1) [.ref (za G (j + 4)), .int x1, .int x2] σ σ' := by
  refine zMv_of (by decide) (Nat.le_of_ble_eq_true rfl) (fun p e s m args below meth c ls Q hx hb hr hlk hml hC hI hl hret => ?_)
  have hl : lv_has ls 5 [(0, .ref (za G (j + 4))), (1, .int x1), (2, .int x2)] := hl
  have hC : zC WF G RX0 args s m := hC
  have w_43 : ∀ (n : Nat) (y1 : Int32) (y2 : Int32) (y3 : Int32) (σ : SF) (y3o : Int32) (σo : SF), L_X0_doNode_43 rec j y1 y2 n y3 σ = some (y3o, σo) → ∀ (H : Heap) (locs : List Loc) (ls : Array Slot), zI WF G s σ H locs → lv_has ls 5 [(0, .ref (za G (j + 4))), (1, .int y1), (2, .int y2), (3, .int y3)] → (∀ (H : Heap) (locs : List Loc) (ls : Array Slot), zI WF G s σo H locs → lv_has ls 5 [(0, .ref (za G (j + 4))), (1, .int y1), (2, .int y2), (3, .int y3o)] → W p l e (zR (d + 1)) s m args below meth c H locs 0 0 Q (F0 m 93 ls [])) → W p l e (zR (d + 1)) s m args below meth c H locs 0 0 Q (F0 m 43 ls []) := by
    intro n
    induction n with
    | zero => intro y1 y2 y3 σ y3o σo h; cases h
    | succ n ih =>
      intro y1 y2 y3 σ y3o σo h H locs ls hI hl kE
      unfold L_X0_doNode_43 at h
      refine lv_iload_n hx hb dX0_doNode_43 rfl (lv_at hl 3 rfl) ?_
      refine lv_iconst (v := 2) hx hb dX0_doNode_44 lc_2 ?_
      refine lv_iload_n hx hb dX0_doNode_45 rfl (lv_at hl 1 rfl) ?_
      refine lv_imul hx hb dX0_doNode_46 ?_
      refine lv_iconst (v := 1) hx hb dX0_doNode_47 lc_1 ?_
      refine lv_iadd hx hb dX0_doNode_48 ?_
      refine lv_icmp_gt (tgt := 93) hx hb dX0_doNode_49 (by decide) (fun hc => ?_) (fun hc => ?_)
      · have h := zi_t hc h
        cases h
        exact kE _ _ _ hI (lv_sub hl [0, 1, 2, 3] rfl)
      · have h := zi_f hc h
        refine lv_aload_n hx hb dX0_doNode_52 rfl (lv_at hl 0 rfl) ?_
        refine gX0_1 hj hx hb hC hI q_fl_X0_9 dX0_doNode_53 ?_
        refine lv_iload_n hx hb dX0_doNode_56 rfl (lv_at hl 3 rfl) ?_
        obtain ⟨hg, h⟩ := zg_e h
        refine z_iald hx hb hC hI (vX0_1 G hj) hg dX0_doNode_57 ?_
        refine lv_topi (fun v5 e_v5 => ?_)
        have h := zl_e h e_v5
        refine lv_istore (lv' := [(4, .int v5), (0, .ref (za G (j + 4))), (1, .int y1), (2, .int y2), (3, .int y3)]) hx hb dX0_doNode_58 hl (by decide) rfl (fun ls hl => ?_)
        refine lv_iload hx hb dX0_doNode_60 (lv_at hl 0 rfl) ?_
        refine lv_iconst (v := (-1)) hx hb dX0_doNode_62 lc_m1 ?_
        refine lv_icmp_eq (tgt := 87) hx hb dX0_doNode_63 (by decide) (fun hc => ?_) (fun hc => ?_)
        · have h := zi_t hc h
          obtain ⟨v6, e_v6⟩ : ∃ y : Int32, y = y3 + 1 := ⟨_, rfl⟩
          have h := zl_e h e_v6
          refine lv_iinc (v := v6) (lv' := [(3, .int v6), (4, .int v5), (0, .ref (za G (j + 4))), (1, .int y1), (2, .int y2)]) hx hb dX0_doNode_87 hl (k := 4) rfl (by rw [lc_1]; exact e_v6.symm) (by decide) rfl (fun ls hl => ?_)
          refine lv_goto (tgt := 43) hx hb dX0_doNode_90 (by decide) ?_
          exact ih y1 y2 v6 σ y3o σo h _ _ _ hI (lv_sub hl [2, 3, 4, 0] rfl) kE
        · have h := zi_f hc h
          refine lv_aload_n hx hb dX0_doNode_66 rfl (lv_at hl 1 rfl) ?_
          refine gX0_7 hj hx hb hC hI q_fl_X0_35 dX0_doNode_67 ?_
          refine lv_iload hx hb dX0_doNode_70 (lv_at hl 0 rfl) ?_
          refine lv_ishr hx hb dX0_doNode_72 ?_
          refine lv_iconst (v := 1) hx hb dX0_doNode_73 lc_1 ?_
          refine lv_iand hx hb dX0_doNode_74 ?_
          refine lv_if_ne (tgt := 87) hx hb dX0_doNode_75 (by decide) (fun hc => ?_) (fun hc => ?_)
          · have h := zi_f hc h
            obtain ⟨v7, e_v7⟩ : ∃ y : Int32, y = y3 + 1 := ⟨_, rfl⟩
            have h := zl_e h e_v7
            refine lv_iinc (v := v7) (lv' := [(3, .int v7), (4, .int v5), (0, .ref (za G (j + 4))), (1, .int y1), (2, .int y2)]) hx hb dX0_doNode_87 hl (k := 4) rfl (by rw [lc_1]; exact e_v7.symm) (by decide) rfl (fun ls hl => ?_)
            refine lv_goto (tgt := 43) hx hb dX0_doNode_90 (by decide) ?_
            exact ih y1 y2 v7 σ y3o σo h _ _ _ hI (lv_sub hl [2, 3, 4, 0] rfl) kE
          · have h := zi_t hc h
            refine lv_aload_n hx hb dX0_doNode_78 rfl (lv_at hl 1 rfl) ?_
            refine lv_iload hx hb dX0_doNode_79 (lv_at hl 0 rfl) ?_
            refine lv_iload_n hx hb dX0_doNode_81 rfl (lv_at hl 3 rfl) ?_
            refine lv_iconst (v := 1) hx hb dX0_doNode_82 lc_1 ?_
            refine lv_iadd hx hb dX0_doNode_83 ?_
            obtain ⟨σ9, h8, h⟩ := zb_e h
            refine z_cVv (As := [.int v5, .int (y2 + 1)]) (rest := []) hx hb hC (hml.trans hl.1.symm) hI (hrec h8) yyX0_doNode q_ml_X0_42 (oX0 G hj) rfl ⟨by show _ ≤ (d + 1); omega, by show _ ≤ 100 * (d + 1); omega⟩ rfl rfl (Nat.le_of_ble_eq_true rfl) ⟨Nat.le_refl _, Nat.le_refl _⟩ dX0_doNode_84 (fun H locs hI => ?_)
            obtain ⟨v10, e_v10⟩ : ∃ y : Int32, y = y3 + 1 := ⟨_, rfl⟩
            have h := zl_e h e_v10
            refine lv_iinc (v := v10) (lv' := [(3, .int v10), (4, .int v5), (0, .ref (za G (j + 4))), (1, .int y1), (2, .int y2)]) hx hb dX0_doNode_87 hl (k := 4) rfl (by rw [lc_1]; exact e_v10.symm) (by decide) rfl (fun ls hl => ?_)
            refine lv_goto (tgt := 43) hx hb dX0_doNode_90 (by decide) ?_
            exact ih y1 y2 v10 σ9 y3o σo h _ _ _ hI (lv_sub hl [2, 3, 4, 0] rfl) kE
  unfold B_X0_doNode at h
  refine lv_aload_n hx hb dX0_doNode_0 rfl (lv_at hl 0 rfl) ?_
  refine gX0_0 hj hx hb hC hI q_fl_X0_27 dX0_doNode_1 ?_
  refine lv_iload_n hx hb dX0_doNode_4 rfl (lv_at hl 1 rfl) ?_
  obtain ⟨r2, h1, h⟩ := zb_e h
  refine z_cVi (As := [.int x1]) (rest := []) hx hb hC (hml.trans hl.1.symm) hI (c_X1_has l G hj.J h1) yyX1_has q_ml_X0_61 (oX1 G hj.J) rfl ⟨by show _ ≤ (d + 1); omega, by show _ ≤ 100 * (d + 1); omega⟩ rfl rfl (Nat.le_of_ble_eq_true rfl) ⟨Nat.le_refl _, Nat.le_refl _⟩ dX0_doNode_5 (fun H locs hI => ?_)
  refine lv_if_eq (tgt := 26) hx hb dX0_doNode_8 (by decide) (fun hc => ?_) (fun hc => ?_)
  · have h := zi_t hc h
    exact hret (Option.some.inj h) hI dX0_doNode_26
  · have h := zi_f hc h
    refine lv_iload_n hx hb dX0_doNode_11 rfl (lv_at hl 2 rfl) ?_
    refine lv_bipush (v := 8) hx hb dX0_doNode_12 lb_8 ?_
    refine lv_icmp_ge (tgt := 26) hx hb dX0_doNode_14 (by decide) (fun hc => ?_) (fun hc => ?_)
    · have h := zi_t hc h
      exact hret (Option.some.inj h) hI dX0_doNode_26
    · have h := zi_f hc h
      refine lv_aload_n hx hb dX0_doNode_17 rfl (lv_at hl 0 rfl) ?_
      refine gX0_6 hj hx hb hC hI q_fl_X0_39 dX0_doNode_18 ?_
      refine lv_bipush (v := 8) hx hb dX0_doNode_21 lb_8 ?_
      refine lv_icmp_lt (tgt := 27) hx hb dX0_doNode_23 (by decide) (fun hc => ?_) (fun hc => ?_)
      · have h := zi_t hc h
        refine lv_aload_n hx hb dX0_doNode_27 rfl (lv_at hl 0 rfl) ?_
        refine lv_dup hx hb dX0_doNode_28 rfl ?_
        refine gX0_7 hj hx hb hC hI q_fl_X0_35 dX0_doNode_29 ?_
        refine lv_iconst (v := 1) hx hb dX0_doNode_32 lc_1 ?_
        refine lv_iload_n hx hb dX0_doNode_33 rfl (lv_at hl 1 rfl) ?_
        refine lv_ishl hx hb dX0_doNode_34 ?_
        refine lv_ior hx hb dX0_doNode_35 ?_
        refine pX0_7 hj hx hb hC hI q_fl_X0_35 dX0_doNode_36 (fun σ3 H locs e_σ3 hI => ?_)
        have h := zl_e h e_σ3
        refine lv_iconst (v := 2) hx hb dX0_doNode_39 lc_2 ?_
        refine lv_iload_n hx hb dX0_doNode_40 rfl (lv_at hl 1 rfl) ?_
        refine lv_imul hx hb dX0_doNode_41 ?_
        refine lv_topi (fun v4 e_v4 => ?_)
        have h := zl_e h e_v4
        refine lv_istore_n (lv' := [(3, .int v4), (0, .ref (za G (j + 4))), (1, .int x1), (2, .int x2)]) hx hb dX0_doNode_42 rfl hl (by decide) rfl (fun ls hl => ?_)
        obtain ⟨v11, σ12, h13, h⟩ := zb2_e h
        refine w_43 100 x1 x2 v4 σ3 v11 σ12 h13 _ _ _ hI (lv_sub hl [1, 2, 3, 0] rfl) (fun H locs ls hI hl => ?_)
        refine lv_aload_n hx hb dX0_doNode_93 rfl (lv_at hl 0 rfl) ?_
        refine gX0_3 hj hx hb hC hI q_fl_X0_18 dX0_doNode_94 ?_
        refine lv_aload_n hx hb dX0_doNode_97 rfl (lv_at hl 0 rfl) ?_
        refine gX0_6 hj hx hb hC hI q_fl_X0_39 dX0_doNode_98 ?_
        refine lv_iload_n hx hb dX0_doNode_101 rfl (lv_at hl 1 rfl) ?_
        obtain ⟨hg, h⟩ := zg_e h
        refine z_iast hx hb hC hI (vX0_3 G hj) hg dX0_doNode_102 (fun σ14 H locs e_σ14 hI => ?_)
        have h := zl_e h e_σ14
        refine lv_aload_n hx hb dX0_doNode_103 rfl (lv_at hl 0 rfl) ?_
        refine lv_dup hx hb dX0_doNode_104 rfl ?_
        refine gX0_6 hj hx hb hC hI q_fl_X0_39 dX0_doNode_105 ?_
        refine lv_iconst (v := 1) hx hb dX0_doNode_108 lc_1 ?_
        refine lv_iadd hx hb dX0_doNode_109 ?_
        refine pX0_6 hj hx hb hC hI q_fl_X0_39 dX0_doNode_110 (fun σ15 H locs e_σ15 hI => ?_)
        have h := zl_e h e_σ15
        exact hret (Option.some.inj h) hI dX0_doNode_113
      · have h := zi_f hc h
        exact hret (Option.some.inj h) hI dX0_doNode_26
theorem c_X0_doNode (l : Launch) (G : zG) {j : Nat} (hj : isF j) : ∀ (n : Nat) {σ σ' : SF} {x1 : Int32} {x2 : Int32}, F_X0_doNode n σ j x1 x2 = some σ' → zMv l WF G yX0_doNode cX0_doNode 5 (4 + 1 * n) [.ref (za G (j + 4)), .int x1, .int x2] σ σ'
  | 0 => fun h => by cases h
  | n + 1 => fun h => cb_X0_doNode l G hj (d := 4 + 1 * n) (by omega) (fun h => c_X0_doNode l G hj n h) h
set_option maxRecDepth 100000 in
set_option maxHeartbeats 4000000 in
theorem c_J7_fill_53178 (l : Launch) (G : zG) {q : Nat} {nn : Nat} (hq : zV WF G q nn) {σ σ' : SF} {x1 : Int32} (h : F_J7_fill_53178 σ q nn x1 = some σ') : zMv l WF G yJ7_fill_53178 cJ7_fill_53178 4 1 [.ref (za G q), .int x1] σ σ' := by
  refine zMv_of (by decide) (Nat.le_of_ble_eq_true rfl) (fun p e s m args below meth c ls Q hx hb hr hlk hml hC hI hl hret => ?_)
  have hl : lv_has ls 4 [(0, .ref (za G q)), (1, .int x1)] := hl
  have hC : zC WF G RJ7 args s m := hC
  have w_5 : ∀ (n : Nat) (y1 : Int32) (y3 : Int32) (y2 : Int32) (σ : SF) (y2o : Int32) (σo : SF), L_J7_fill_53178_5 q nn y1 y3 n y2 σ = some (y2o, σo) → ∀ (H : Heap) (locs : List Loc) (ls : Array Slot), zI WF G s σ H locs → lv_has ls 4 [(0, .ref (za G q)), (1, .int y1), (2, .int y2), (3, .int y3)] → (∀ (H : Heap) (locs : List Loc) (ls : Array Slot), zI WF G s σo H locs → lv_has ls 4 [(0, .ref (za G q)), (1, .int y1), (2, .int y2o), (3, .int y3)] → W p l e (zR 1) s m args below meth c H locs 0 0 Q (F0 m 20 ls [])) → W p l e (zR 1) s m args below meth c H locs 0 0 Q (F0 m 5 ls []) := by
    intro n
    induction n with
    | zero => intro y1 y3 y2 σ y2o σo h; cases h
    | succ n ih =>
      intro y1 y3 y2 σ y2o σo h H locs ls hI hl kE
      unfold L_J7_fill_53178_5 at h
      refine lv_iload_n hx hb dJ7_fill_53178_5 rfl (lv_at hl 2 rfl) ?_
      refine lv_iload_n hx hb dJ7_fill_53178_6 rfl (lv_at hl 3 rfl) ?_
      refine lv_icmp_ge (tgt := 20) hx hb dJ7_fill_53178_7 (by decide) (fun hc => ?_) (fun hc => ?_)
      · have h := zi_t hc h
        cases h
        exact kE _ _ _ hI (lv_sub hl [0, 1, 2, 3] rfl)
      · have h := zi_f hc h
        refine lv_aload_n hx hb dJ7_fill_53178_10 rfl (lv_at hl 0 rfl) ?_
        refine lv_iload_n hx hb dJ7_fill_53178_11 rfl (lv_at hl 2 rfl) ?_
        refine lv_iload_n hx hb dJ7_fill_53178_12 rfl (lv_at hl 1 rfl) ?_
        obtain ⟨hg, h⟩ := zg_e h
        refine z_iast hx hb hC hI hq hg dJ7_fill_53178_13 (fun σ2 H locs e_σ2 hI => ?_)
        have h := zl_e h e_σ2
        obtain ⟨v3, e_v3⟩ : ∃ y : Int32, y = y2 + 1 := ⟨_, rfl⟩
        have h := zl_e h e_v3
        refine lv_iinc (v := v3) (lv' := [(2, .int v3), (0, .ref (za G q)), (1, .int y1), (3, .int y3)]) hx hb dJ7_fill_53178_14 hl (k := 2) rfl (by rw [lc_1]; exact e_v3.symm) (by decide) rfl (fun ls hl => ?_)
        refine lv_goto (tgt := 5) hx hb dJ7_fill_53178_17 (by decide) ?_
        exact ih y1 y3 v3 σ2 y2o σo h _ _ _ hI (lv_sub hl [1, 2, 0, 3] rfl) kE
  unfold F_J7_fill_53178 at h
  refine lv_iconst (v := 0) hx hb dJ7_fill_53178_0 lc_0 ?_
  refine lv_istore_n (lv' := [(2, .int 0), (0, .ref (za G q)), (1, .int x1)]) hx hb dJ7_fill_53178_1 rfl hl (by decide) rfl (fun ls hl => ?_)
  refine lv_aload_n hx hb dJ7_fill_53178_2 rfl (lv_at hl 1 rfl) ?_
  refine z_alen hx hb hC hI hq (v := nI nn) rfl dJ7_fill_53178_3 ?_
  refine lv_topi (fun v1 e_v1 => ?_)
  have h := zl_e h e_v1
  refine lv_istore_n (lv' := [(3, .int v1), (2, .int 0), (0, .ref (za G q)), (1, .int x1)]) hx hb dJ7_fill_53178_4 rfl hl (by decide) rfl (fun ls hl => ?_)
  obtain ⟨v4, σ5, h6, h⟩ := zb2_e h
  refine w_5 100 x1 v1 0 σ v4 σ5 h6 _ _ _ hI (lv_sub hl [2, 3, 1, 0] rfl) (fun H locs ls hI hl => ?_)
  exact hret (Option.some.inj h) hI dJ7_fill_53178_20
set_option maxRecDepth 100000 in
set_option maxHeartbeats 4000000 in
theorem c_X0_strikeBehind (l : Launch) (G : zG) {j : Nat} (hj : isF j) {σ σ' : SF} {r : Int32} {x1 : Int32} {x2 : Int32} (h : F_X0_strikeBehind σ j x1 x2 = some (r, σ')) : zMi l WF G yX0_strikeBehind cX0_strikeBehind 6 .boolean 1 [.ref (za G (j + 4)), .int x1, .int x2] σ r σ' := by
  refine zMi_of (by decide) (Nat.le_of_ble_eq_true rfl) (fun p e s m args below meth c ls Q hx hb hr hlk hml hC hI hl hret => ?_)
  have hl : lv_has ls 6 [(0, .ref (za G (j + 4))), (1, .int x1), (2, .int x2)] := hl
  have hC : zC WF G RX0 args s m := hC
  unfold F_X0_strikeBehind at h
  refine lv_aload_n hx hb dX0_strikeBehind_0 rfl (lv_at hl 0 rfl) ?_
  refine gX0_1 hj hx hb hC hI q_fl_X0_9 dX0_strikeBehind_1 ?_
  refine lv_iconst (v := 2) hx hb dX0_strikeBehind_4 lc_2 ?_
  refine lv_iload_n hx hb dX0_strikeBehind_5 rfl (lv_at hl 1 rfl) ?_
  refine lv_imul hx hb dX0_strikeBehind_6 ?_
  refine lv_iload_n hx hb dX0_strikeBehind_7 rfl (lv_at hl 2 rfl) ?_
  refine lv_iadd hx hb dX0_strikeBehind_8 ?_
  refine lv_topi (fun v1 e_v1 => ?_)
  have h := zl_e h e_v1
  obtain ⟨hg, h⟩ := zg_e h
  refine z_iald hx hb hC hI (vX0_1 G hj) hg dX0_strikeBehind_9 ?_
  refine lv_topi (fun v2 e_v2 => ?_)
  have h := zl_e h e_v2
  refine lv_istore_n (lv' := [(3, .int v2), (0, .ref (za G (j + 4))), (1, .int x1), (2, .int x2)]) hx hb dX0_strikeBehind_10 rfl hl (by decide) rfl (fun ls hl => ?_)
  refine lv_iload_n hx hb dX0_strikeBehind_11 rfl (lv_at hl 0 rfl) ?_
  refine lv_iconst (v := (-1)) hx hb dX0_strikeBehind_12 lc_m1 ?_
  refine lv_icmp_ne (tgt := 18) hx hb dX0_strikeBehind_13 (by decide) (fun hc => ?_) (fun hc => ?_)
  · have h := zi_f hc h
    refine lv_aload_n hx hb dX0_strikeBehind_18 rfl (lv_at hl 1 rfl) ?_
    refine gX0_5 hj hx hb hC hI q_fl_X0_24 dX0_strikeBehind_19 ?_
    refine lv_iload_n hx hb dX0_strikeBehind_22 rfl (lv_at hl 0 rfl) ?_
    obtain ⟨hg, h⟩ := zg_e h
    refine z_iald hx hb hC hI (vX0_5 G hj) hg dX0_strikeBehind_23 ?_
    refine lv_aload_n hx hb dX0_strikeBehind_24 rfl (lv_at hl 1 rfl) ?_
    refine gX0_5 hj hx hb hC hI q_fl_X0_24 dX0_strikeBehind_25 ?_
    refine lv_iload_n hx hb dX0_strikeBehind_28 rfl (lv_at hl 2 rfl) ?_
    obtain ⟨hg, h⟩ := zg_e h
    refine z_iald hx hb hC hI (vX0_5 G hj) hg dX0_strikeBehind_29 ?_
    refine lv_iconst (v := 1) hx hb dX0_strikeBehind_30 lc_1 ?_
    refine lv_iload_n hx hb dX0_strikeBehind_31 rfl (lv_at hl 0 rfl) ?_
    refine lv_ishl hx hb dX0_strikeBehind_32 ?_
    refine lv_ior hx hb dX0_strikeBehind_33 ?_
    refine lv_iand hx hb dX0_strikeBehind_34 ?_
    refine lv_topi (fun v3 e_v3 => ?_)
    have h := zl_e h e_v3
    refine lv_istore (lv' := [(4, .int v3), (3, .int v2), (0, .ref (za G (j + 4))), (1, .int x1), (2, .int x2)]) hx hb dX0_strikeBehind_35 hl (by decide) rfl (fun ls hl => ?_)
    refine lv_iload hx hb dX0_strikeBehind_37 (lv_at hl 0 rfl) ?_
    refine lv_aload_n hx hb dX0_strikeBehind_39 rfl (lv_at hl 2 rfl) ?_
    refine gX0_5 hj hx hb hC hI q_fl_X0_24 dX0_strikeBehind_40 ?_
    refine lv_iload_n hx hb dX0_strikeBehind_43 rfl (lv_at hl 1 rfl) ?_
    obtain ⟨hg, h⟩ := zg_e h
    refine z_iald hx hb hC hI (vX0_5 G hj) hg dX0_strikeBehind_44 ?_
    refine lv_icmp_eq (tgt := 52) hx hb dX0_strikeBehind_45 (by decide) (fun hc => ?_) (fun hc => ?_)
    · have h := zi_t hc h
      refine lv_iconst (v := 0) hx hb dX0_strikeBehind_52 lc_0 ?_
      refine lv_istore (lv' := [(5, .int 0), (4, .int v3), (3, .int v2), (0, .ref (za G (j + 4))), (1, .int x1), (2, .int x2)]) hx hb dX0_strikeBehind_53 hl (by decide) rfl (fun ls hl => ?_)
      refine lv_aload_n hx hb dX0_strikeBehind_55 rfl (lv_at hl 3 rfl) ?_
      refine gX0_5 hj hx hb hC hI q_fl_X0_24 dX0_strikeBehind_56 ?_
      refine lv_iload_n hx hb dX0_strikeBehind_59 rfl (lv_at hl 2 rfl) ?_
      refine lv_iload hx hb dX0_strikeBehind_60 (lv_at hl 1 rfl) ?_
      obtain ⟨hg, h⟩ := zg_e h
      refine z_iast hx hb hC hI (vX0_5 G hj) hg dX0_strikeBehind_62 (fun σ4 H locs e_σ4 hI => ?_)
      have h := zl_e h e_σ4
      refine lv_iload hx hb dX0_strikeBehind_63 (lv_at hl 0 rfl) ?_
      exact hret ⟨congrArg Prod.fst (Option.some.inj h), congrArg Prod.snd (Option.some.inj h)⟩ hI rfl dX0_strikeBehind_65
    · have h := zi_f hc h
      refine lv_iconst (v := 1) hx hb dX0_strikeBehind_48 lc_1 ?_
      refine lv_goto (tgt := 53) hx hb dX0_strikeBehind_49 (by decide) ?_
      refine lv_istore (lv' := [(5, .int 1), (4, .int v3), (3, .int v2), (0, .ref (za G (j + 4))), (1, .int x1), (2, .int x2)]) hx hb dX0_strikeBehind_53 hl (by decide) rfl (fun ls hl => ?_)
      refine lv_aload_n hx hb dX0_strikeBehind_55 rfl (lv_at hl 3 rfl) ?_
      refine gX0_5 hj hx hb hC hI q_fl_X0_24 dX0_strikeBehind_56 ?_
      refine lv_iload_n hx hb dX0_strikeBehind_59 rfl (lv_at hl 2 rfl) ?_
      refine lv_iload hx hb dX0_strikeBehind_60 (lv_at hl 1 rfl) ?_
      obtain ⟨hg, h⟩ := zg_e h
      refine z_iast hx hb hC hI (vX0_5 G hj) hg dX0_strikeBehind_62 (fun σ5 H locs e_σ5 hI => ?_)
      have h := zl_e h e_σ5
      refine lv_iload hx hb dX0_strikeBehind_63 (lv_at hl 0 rfl) ?_
      exact hret ⟨congrArg Prod.fst (Option.some.inj h), congrArg Prod.snd (Option.some.inj h)⟩ hI rfl dX0_strikeBehind_65
  · have h := zi_t hc h
    refine lv_iconst (v := 0) hx hb dX0_strikeBehind_16 lc_0 ?_
    exact hret ⟨congrArg Prod.fst (Option.some.inj h), congrArg Prod.snd (Option.some.inj h)⟩ hI rfl dX0_strikeBehind_17
set_option maxRecDepth 100000 in
set_option maxHeartbeats 4000000 in
theorem c_X0_findRulers (l : Launch) (G : zG) {j : Nat} (hj : isF j) {σ σ' : SF} (h : F_X0_findRulers σ j  = some σ') : zMv l WF G yX0_findRulers cX0_findRulers 4 2 [.ref (za G (j + 4))] σ σ' := by
  refine zMv_of (by decide) (Nat.le_of_ble_eq_true rfl) (fun p e s m args below meth c ls Q hx hb hr hlk hml hC hI hl hret => ?_)
  have hl : lv_has ls 4 [(0, .ref (za G (j + 4)))] := hl
  have hC : zC WF G RX0 args s m := hC
  have w_10 : ∀ (n : Nat) (y1 : Int32) (σ : SF) (y1o : Int32) (σo : SF), L_X0_findRulers_10 j n y1 σ = some (y1o, σo) → ∀ (H : Heap) (locs : List Loc) (ls : Array Slot), zI WF G s σ H locs → lv_has ls 4 [(0, .ref (za G (j + 4))), (1, .int y1)] → (∀ (H : Heap) (locs : List Loc) (ls : Array Slot), zI WF G s σo H locs → lv_has ls 4 [(0, .ref (za G (j + 4))), (1, .int y1o)] → W p l e (zR 2) s m args below meth c H locs 0 0 Q (F0 m 52 ls [])) → W p l e (zR 2) s m args below meth c H locs 0 0 Q (F0 m 10 ls []) := by
    intro n
    induction n with
    | zero => intro y1 σ y1o σo h; cases h
    | succ n ih =>
      intro y1 σ y1o σo h H locs ls hI hl kE
      unfold L_X0_findRulers_10 at h
      refine lv_iload_n hx hb dX0_findRulers_10 rfl (lv_at hl 1 rfl) ?_
      refine lv_aload_n hx hb dX0_findRulers_11 rfl (lv_at hl 0 rfl) ?_
      refine gX0_6 hj hx hb hC hI q_fl_X0_39 dX0_findRulers_12 ?_
      refine lv_icmp_ge (tgt := 52) hx hb dX0_findRulers_15 (by decide) (fun hc => ?_) (fun hc => ?_)
      · have h := zi_t hc h
        cases h
        exact kE _ _ _ hI (lv_sub hl [0, 1] rfl)
      · have h := zi_f hc h
        refine lv_aload_n hx hb dX0_findRulers_18 rfl (lv_at hl 0 rfl) ?_
        refine gX0_5 hj hx hb hC hI q_fl_X0_24 dX0_findRulers_19 ?_
        refine lv_aload_n hx hb dX0_findRulers_22 rfl (lv_at hl 0 rfl) ?_
        refine gX0_3 hj hx hb hC hI q_fl_X0_18 dX0_findRulers_23 ?_
        refine lv_iload_n hx hb dX0_findRulers_26 rfl (lv_at hl 1 rfl) ?_
        obtain ⟨hg, h⟩ := zg_e h
        refine z_iald hx hb hC hI (vX0_3 G hj) hg dX0_findRulers_27 ?_
        refine lv_aload_n hx hb dX0_findRulers_28 rfl (lv_at hl 0 rfl) ?_
        refine gX0_3 hj hx hb hC hI q_fl_X0_18 dX0_findRulers_29 ?_
        refine lv_iload_n hx hb dX0_findRulers_32 rfl (lv_at hl 1 rfl) ?_
        obtain ⟨hg, h⟩ := zg_e h
        refine z_iald hx hb hC hI (vX0_3 G hj) hg dX0_findRulers_33 ?_
        refine lv_if_ne (tgt := 41) hx hb dX0_findRulers_34 (by decide) (fun hc => ?_) (fun hc => ?_)
        · have h := zi_f hc h
          refine lv_aload_n hx hb dX0_findRulers_41 rfl (lv_at hl 0 rfl) ?_
          refine gX0_7 hj hx hb hC hI q_fl_X0_35 dX0_findRulers_42 ?_
          obtain ⟨hg, h⟩ := zg_e h
          refine z_iast hx hb hC hI (vX0_5 G hj) hg dX0_findRulers_45 (fun σ3 H locs e_σ3 hI => ?_)
          have h := zl_e h e_σ3
          obtain ⟨v4, e_v4⟩ : ∃ y : Int32, y = y1 + 1 := ⟨_, rfl⟩
          have h := zl_e h e_v4
          refine lv_iinc (v := v4) (lv' := [(1, .int v4), (0, .ref (za G (j + 4)))]) hx hb dX0_findRulers_46 hl (k := 1) rfl (by rw [lc_1]; exact e_v4.symm) (by decide) rfl (fun ls hl => ?_)
          refine lv_goto (tgt := 10) hx hb dX0_findRulers_49 (by decide) ?_
          exact ih v4 σ3 y1o σo h _ _ _ hI (lv_sub hl [1, 0] rfl) kE
        · have h := zi_t hc h
          refine lv_iconst (v := 1) hx hb dX0_findRulers_37 lc_1 ?_
          refine lv_goto (tgt := 45) hx hb dX0_findRulers_38 (by decide) ?_
          obtain ⟨hg, h⟩ := zg_e h
          refine z_iast hx hb hC hI (vX0_5 G hj) hg dX0_findRulers_45 (fun σ5 H locs e_σ5 hI => ?_)
          have h := zl_e h e_σ5
          obtain ⟨v6, e_v6⟩ : ∃ y : Int32, y = y1 + 1 := ⟨_, rfl⟩
          have h := zl_e h e_v6
          refine lv_iinc (v := v6) (lv' := [(1, .int v6), (0, .ref (za G (j + 4)))]) hx hb dX0_findRulers_46 hl (k := 1) rfl (by rw [lc_1]; exact e_v6.symm) (by decide) rfl (fun ls hl => ?_)
          refine lv_goto (tgt := 10) hx hb dX0_findRulers_49 (by decide) ?_
          exact ih v6 σ5 y1o σo h _ _ _ hI (lv_sub hl [1, 0] rfl) kE
  have w_75 : ∀ (n : Nat) (y2 : Int32) (y1 : Int32) (y3 : Int32) (σ : SF) (y1o : Int32) (y3o : Int32) (σo : SF), L_X0_findRulers_75 j y2 n y1 y3 σ = some (y1o, y3o, σo) → ∀ (H : Heap) (locs : List Loc) (ls : Array Slot), zI WF G s σ H locs → lv_has ls 4 [(0, .ref (za G (j + 4))), (1, .int y1), (2, .int y2), (3, .int y3)] → (∀ (H : Heap) (locs : List Loc) (ls : Array Slot), zI WF G s σo H locs → lv_has ls 4 [(0, .ref (za G (j + 4))), (1, .int y1o), (2, .int y2), (3, .int y3o)] → W p l e (zR 2) s m args below meth c H locs 0 0 Q (F0 m 113 ls [])) → W p l e (zR 2) s m args below meth c H locs 0 0 Q (F0 m 75 ls []) := by
    intro n
    induction n with
    | zero => intro y2 y1 y3 σ y1o y3o σo h; cases h
    | succ n ih =>
      intro y2 y1 y3 σ y1o y3o σo h H locs ls hI hl kE
      unfold L_X0_findRulers_75 at h
      refine lv_iload_n hx hb dX0_findRulers_75 rfl (lv_at hl 3 rfl) ?_
      refine lv_if_lt (tgt := 113) hx hb dX0_findRulers_76 (by decide) (fun hc => ?_) (fun hc => ?_)
      · have h := zi_t hc h
        cases h
        exact kE _ _ _ hI (lv_sub hl [0, 1, 2, 3] rfl)
      · have h := zi_f hc h
        refine lv_iload_n hx hb dX0_findRulers_79 rfl (lv_at hl 1 rfl) ?_
        refine lv_aload_n hx hb dX0_findRulers_80 rfl (lv_at hl 0 rfl) ?_
        refine lv_aload_n hx hb dX0_findRulers_81 rfl (lv_at hl 0 rfl) ?_
        refine gX0_3 hj hx hb hC hI q_fl_X0_18 dX0_findRulers_82 ?_
        refine lv_iload_n hx hb dX0_findRulers_85 rfl (lv_at hl 3 rfl) ?_
        obtain ⟨hg, h⟩ := zg_e h
        refine z_iald hx hb hC hI (vX0_3 G hj) hg dX0_findRulers_86 ?_
        refine lv_iconst (v := 0) hx hb dX0_findRulers_87 lc_0 ?_
        obtain ⟨r13, σ12, h11, h⟩ := zb2_e h
        refine z_cVi (As := [.int (σ (j + 7) (y3 : Int32).toNatClampNeg), .int 0]) (rest := [.int y1]) hx hb hC (hml.trans hl.1.symm) hI (c_X0_strikeBehind l G hj h11) yyX0_strikeBehind q_ml_X0_94 (oX0 G hj) rfl ⟨Nat.le_of_ble_eq_true rfl, Nat.le_of_ble_eq_true rfl⟩ rfl rfl (Nat.le_of_ble_eq_true rfl) ⟨Nat.le_refl _, Nat.le_refl _⟩ dX0_findRulers_88 (fun H locs hI => ?_)
        refine lv_ior hx hb dX0_findRulers_91 ?_
        refine lv_topi (fun v14 e_v14 => ?_)
        have h := zl_e h e_v14
        refine lv_istore_n (lv' := [(1, .int v14), (0, .ref (za G (j + 4))), (2, .int y2), (3, .int y3)]) hx hb dX0_findRulers_92 rfl hl (by decide) rfl (fun ls hl => ?_)
        refine lv_iload_n hx hb dX0_findRulers_93 rfl (lv_at hl 0 rfl) ?_
        refine lv_aload_n hx hb dX0_findRulers_94 rfl (lv_at hl 1 rfl) ?_
        refine lv_aload_n hx hb dX0_findRulers_95 rfl (lv_at hl 1 rfl) ?_
        refine gX0_3 hj hx hb hC hI q_fl_X0_18 dX0_findRulers_96 ?_
        refine lv_iload_n hx hb dX0_findRulers_99 rfl (lv_at hl 3 rfl) ?_
        obtain ⟨hg, h⟩ := zg_e h
        refine z_iald hx hb hC hI (vX0_3 G hj) hg dX0_findRulers_100 ?_
        refine lv_iconst (v := 1) hx hb dX0_findRulers_101 lc_1 ?_
        obtain ⟨r17, σ16, h15, h⟩ := zb2_e h
        refine z_cVi (As := [.int (σ12 (j + 7) (y3 : Int32).toNatClampNeg), .int 1]) (rest := [.int v14]) hx hb hC (hml.trans hl.1.symm) hI (c_X0_strikeBehind l G hj h15) yyX0_strikeBehind q_ml_X0_94 (oX0 G hj) rfl ⟨Nat.le_of_ble_eq_true rfl, Nat.le_of_ble_eq_true rfl⟩ rfl rfl (Nat.le_of_ble_eq_true rfl) ⟨Nat.le_refl _, Nat.le_refl _⟩ dX0_findRulers_102 (fun H locs hI => ?_)
        refine lv_ior hx hb dX0_findRulers_105 ?_
        refine lv_topi (fun v18 e_v18 => ?_)
        have h := zl_e h e_v18
        refine lv_istore_n (lv' := [(1, .int v18), (0, .ref (za G (j + 4))), (2, .int y2), (3, .int y3)]) hx hb dX0_findRulers_106 rfl hl (by decide) rfl (fun ls hl => ?_)
        obtain ⟨v19, e_v19⟩ : ∃ y : Int32, y = y3 + (-1) := ⟨_, rfl⟩
        have h := zl_e h e_v19
        refine lv_iinc (v := v19) (lv' := [(3, .int v19), (1, .int v18), (0, .ref (za G (j + 4))), (2, .int y2)]) hx hb dX0_findRulers_107 hl (k := 3) rfl (by rw [lc_m1]; exact e_v19.symm) (by decide) rfl (fun ls hl => ?_)
        refine lv_goto (tgt := 75) hx hb dX0_findRulers_110 (by decide) ?_
        exact ih y2 v18 v19 σ16 y1o y3o σo h _ _ _ hI (lv_sub hl [2, 1, 3, 0] rfl) kE
  have w_56 : ∀ (n : Nat) (y1 : Int32) (y2 : Int32) (σ : SF) (y1o : Int32) (y2o : Int32) (σo : SF), L_X0_findRulers_56 j n y1 y2 σ = some (y1o, y2o, σo) → ∀ (H : Heap) (locs : List Loc) (ls : Array Slot), zI WF G s σ H locs → lv_has ls 4 [(0, .ref (za G (j + 4))), (1, .int y1), (2, .int y2)] → (∀ (H : Heap) (locs : List Loc) (ls : Array Slot), zI WF G s σo H locs → lv_has ls 4 [(0, .ref (za G (j + 4))), (1, .int y1o), (2, .int y2o)] → W p l e (zR 2) s m args below meth c H locs 0 0 Q (F0 m 119 ls [])) → W p l e (zR 2) s m args below meth c H locs 0 0 Q (F0 m 56 ls []) := by
    intro n
    induction n with
    | zero => intro y1 y2 σ y1o y2o σo h; cases h
    | succ n ih =>
      intro y1 y2 σ y1o y2o σo h H locs ls hI hl kE
      unfold L_X0_findRulers_56 at h
      refine lv_iload_n hx hb dX0_findRulers_56 rfl (lv_at hl 1 rfl) ?_
      refine lv_if_eq (tgt := 119) hx hb dX0_findRulers_57 (by decide) (fun hc => ?_) (fun hc => ?_)
      · have h := zi_t hc h
        cases h
        exact kE _ _ _ hI (lv_sub hl [0, 1, 2] rfl)
      · have h := zi_f hc h
        refine lv_iload_n hx hb dX0_findRulers_60 rfl (lv_at hl 2 rfl) ?_
        refine lv_bipush (v := 64) hx hb dX0_findRulers_61 lb_64 ?_
        refine lv_icmp_gt (tgt := 119) hx hb dX0_findRulers_63 (by decide) (fun hc => ?_) (fun hc => ?_)
        · have h := zi_t hc h
          cases h
          exact kE _ _ _ hI (lv_sub hl [0, 1, 2] rfl)
        · have h := zi_f hc h
          refine lv_iconst (v := 0) hx hb dX0_findRulers_66 lc_0 ?_
          refine lv_istore_n (lv' := [(1, .int 0), (0, .ref (za G (j + 4))), (2, .int y2)]) hx hb dX0_findRulers_67 rfl hl (by decide) rfl (fun ls hl => ?_)
          refine lv_aload_n hx hb dX0_findRulers_68 rfl (lv_at hl 1 rfl) ?_
          refine gX0_6 hj hx hb hC hI q_fl_X0_39 dX0_findRulers_69 ?_
          refine lv_iconst (v := 1) hx hb dX0_findRulers_72 lc_1 ?_
          refine lv_isub hx hb dX0_findRulers_73 ?_
          refine lv_topi (fun v10 e_v10 => ?_)
          have h := zl_e h e_v10
          refine lv_istore_n (lv' := [(3, .int v10), (1, .int 0), (0, .ref (za G (j + 4))), (2, .int y2)]) hx hb dX0_findRulers_74 rfl hl (by decide) rfl (fun ls hl => ?_)
          obtain ⟨v20, v21, σ22, h23, h⟩ := zb3_e h
          refine w_75 100 y2 0 v10 σ v20 v21 σ22 h23 _ _ _ hI (lv_sub hl [2, 1, 3, 0] rfl) (fun H locs ls hI hl => ?_)
          obtain ⟨v24, e_v24⟩ : ∃ y : Int32, y = y2 + 1 := ⟨_, rfl⟩
          have h := zl_e h e_v24
          refine lv_iinc (v := v24) (lv' := [(2, .int v24), (0, .ref (za G (j + 4))), (1, .int v20), (3, .int v21)]) hx hb dX0_findRulers_113 hl (k := 2) rfl (by rw [lc_1]; exact e_v24.symm) (by decide) rfl (fun ls hl => ?_)
          refine lv_goto (tgt := 56) hx hb dX0_findRulers_116 (by decide) ?_
          exact ih v20 v24 σ22 y1o y2o σo h _ _ _ hI (lv_sub hl [1, 2, 0] rfl) kE
  unfold F_X0_findRulers at h
  refine lv_aload_n hx hb dX0_findRulers_0 rfl (lv_at hl 0 rfl) ?_
  refine gX0_5 hj hx hb hC hI q_fl_X0_24 dX0_findRulers_1 ?_
  refine lv_iconst (v := 0) hx hb dX0_findRulers_4 lc_0 ?_
  obtain ⟨σ2, h1, h⟩ := zb_e h
  refine z_cSv (As := [.ref (za G (j + 9)), .int 0]) (rest := []) hx hb hC (hml.trans hl.1.symm) hI (c_J7_fill_53178 l G (vX0_5 G hj) h1) yyJ7_fill_53178 q_ml_X0_46 ⟨Nat.le_of_ble_eq_true rfl, Nat.le_of_ble_eq_true rfl⟩ rfl rfl (Nat.le_of_ble_eq_true rfl) ⟨Nat.le_refl _, Nat.le_refl _⟩ dX0_findRulers_5 (fun H locs hI => ?_)
  refine lv_iconst (v := 0) hx hb dX0_findRulers_8 lc_0 ?_
  refine lv_istore_n (lv' := [(1, .int 0), (0, .ref (za G (j + 4)))]) hx hb dX0_findRulers_9 rfl hl (by decide) rfl (fun ls hl => ?_)
  obtain ⟨v7, σ8, h9, h⟩ := zb2_e h
  refine w_10 100 0 σ2 v7 σ8 h9 _ _ _ hI (lv_sub hl [1, 0] rfl) (fun H locs ls hI hl => ?_)
  refine lv_iconst (v := 1) hx hb dX0_findRulers_52 lc_1 ?_
  refine lv_istore_n (lv' := [(1, .int 1), (0, .ref (za G (j + 4)))]) hx hb dX0_findRulers_53 rfl hl (by decide) rfl (fun ls hl => ?_)
  refine lv_iconst (v := 0) hx hb dX0_findRulers_54 lc_0 ?_
  refine lv_istore_n (lv' := [(2, .int 0), (1, .int 1), (0, .ref (za G (j + 4)))]) hx hb dX0_findRulers_55 rfl hl (by decide) rfl (fun ls hl => ?_)
  obtain ⟨v25, v26, σ27, h28, h⟩ := zb3_e h
  refine w_56 100 1 0 σ8 v25 v26 σ27 h28 _ _ _ hI (lv_sub hl [2, 1, 0] rfl) (fun H locs ls hI hl => ?_)
  exact hret (Option.some.inj h) hI dX0_findRulers_119
set_option maxRecDepth 100000 in
set_option maxHeartbeats 4000000 in
theorem c_X0_weighEdges (l : Launch) (G : zG) {j : Nat} (hj : isF j) {σ σ' : SF} (h : F_X0_weighEdges σ j  = some σ') : zMv l WF G yX0_weighEdges cX0_weighEdges 6 1 [.ref (za G (j + 4))] σ σ' := by
  refine zMv_of (by decide) (Nat.le_of_ble_eq_true rfl) (fun p e s m args below meth c ls Q hx hb hr hlk hml hC hI hl hret => ?_)
  have hl : lv_has ls 6 [(0, .ref (za G (j + 4)))] := hl
  have hC : zC WF G RX0 args s m := hC
  have w_29 : ∀ (n : Nat) (y1 : Int32) (y2 : Int32) (σ : SF) (y1o : Int32) (y2o : Int32) (σo : SF), L_X0_weighEdges_29 j n y1 y2 σ = some (y1o, y2o, σo) → ∀ (H : Heap) (locs : List Loc) (ls : Array Slot), zI WF G s σ H locs → lv_has ls 6 [(0, .ref (za G (j + 4))), (1, .int y1), (2, .int y2)] → (∀ (H : Heap) (locs : List Loc) (ls : Array Slot), zI WF G s σo H locs → lv_has ls 6 [(0, .ref (za G (j + 4))), (1, .int y1o), (2, .int y2o)] → W p l e (zR 1) s m args below meth c H locs 0 0 Q (F0 m 200 ls [])) → W p l e (zR 1) s m args below meth c H locs 0 0 Q (F0 m 29 ls []) := by
    intro n
    induction n with
    | zero => intro y1 y2 σ y1o y2o σo h; cases h
    | succ n ih =>
      intro y1 y2 σ y1o y2o σo h H locs ls hI hl kE
      unfold L_X0_weighEdges_29 at h
      refine lv_iload_n hx hb dX0_weighEdges_29 rfl (lv_at hl 2 rfl) ?_
      refine lv_bipush (v := 16) hx hb dX0_weighEdges_30 lb_16 ?_
      refine lv_icmp_ge (tgt := 200) hx hb dX0_weighEdges_32 (by decide) (fun hc => ?_) (fun hc => ?_)
      · have h := zi_t hc h
        cases h
        exact kE _ _ _ hI (lv_sub hl [0, 1, 2] rfl)
      · have h := zi_f hc h
        refine lv_iload_n hx hb dX0_weighEdges_35 rfl (lv_at hl 2 rfl) ?_
        refine lv_iconst (v := 2) hx hb dX0_weighEdges_36 lc_2 ?_
        refine lv_idiv hx hb dX0_weighEdges_37 (by decide) ?_
        refine lv_topi (fun v6 e_v6 => ?_)
        have h := zl_e h e_v6
        refine lv_istore_n (lv' := [(3, .int v6), (0, .ref (za G (j + 4))), (1, .int y1), (2, .int y2)]) hx hb dX0_weighEdges_38 rfl hl (by decide) rfl (fun ls hl => ?_)
        refine lv_aload_n hx hb dX0_weighEdges_39 rfl (lv_at hl 1 rfl) ?_
        refine gX0_1 hj hx hb hC hI q_fl_X0_9 dX0_weighEdges_40 ?_
        refine lv_iload_n hx hb dX0_weighEdges_43 rfl (lv_at hl 3 rfl) ?_
        obtain ⟨hg, h⟩ := zg_e h
        refine z_iald hx hb hC hI (vX0_1 G hj) hg dX0_weighEdges_44 ?_
        refine lv_topi (fun v7 e_v7 => ?_)
        have h := zl_e h e_v7
        refine lv_istore (lv' := [(4, .int v7), (3, .int v6), (0, .ref (za G (j + 4))), (1, .int y1), (2, .int y2)]) hx hb dX0_weighEdges_45 hl (by decide) rfl (fun ls hl => ?_)
        refine lv_aload_n hx hb dX0_weighEdges_47 rfl (lv_at hl 2 rfl) ?_
        refine gX0_2 hj hx hb hC hI q_fl_X0_15 dX0_weighEdges_48 ?_
        refine lv_iload_n hx hb dX0_weighEdges_51 rfl (lv_at hl 4 rfl) ?_
        refine lv_iconst (v := (-1)) hx hb dX0_weighEdges_52 lc_m1 ?_
        obtain ⟨hg, h⟩ := zg_e h
        refine z_iast hx hb hC hI (vX0_2 G hj) hg dX0_weighEdges_53 (fun σ8 H locs e_σ8 hI => ?_)
        have h := zl_e h e_σ8
        refine lv_iload hx hb dX0_weighEdges_54 (lv_at hl 0 rfl) ?_
        refine lv_iconst (v := (-1)) hx hb dX0_weighEdges_56 lc_m1 ?_
        refine lv_icmp_eq (tgt := 194) hx hb dX0_weighEdges_57 (by decide) (fun hc => ?_) (fun hc => ?_)
        · have h := zi_t hc h
          obtain ⟨v9, e_v9⟩ : ∃ y : Int32, y = y2 + 1 := ⟨_, rfl⟩
          have h := zl_e h e_v9
          refine lv_iinc (v := v9) (lv' := [(2, .int v9), (4, .int v7), (3, .int v6), (0, .ref (za G (j + 4))), (1, .int y1)]) hx hb dX0_weighEdges_194 hl (k := 4) rfl (by rw [lc_1]; exact e_v9.symm) (by decide) rfl (fun ls hl => ?_)
          refine lv_goto (tgt := 29) hx hb dX0_weighEdges_197 (by decide) ?_
          exact ih y1 v9 σ8 y1o y2o σo h _ _ _ hI (lv_sub hl [3, 4, 0] rfl) kE
        · have h := zi_f hc h
          refine lv_aload_n hx hb dX0_weighEdges_60 rfl (lv_at hl 2 rfl) ?_
          refine gX0_7 hj hx hb hC hI q_fl_X0_35 dX0_weighEdges_61 ?_
          refine lv_iload_n hx hb dX0_weighEdges_64 rfl (lv_at hl 1 rfl) ?_
          refine lv_ishr hx hb dX0_weighEdges_65 ?_
          refine lv_iconst (v := 1) hx hb dX0_weighEdges_66 lc_1 ?_
          refine lv_iand hx hb dX0_weighEdges_67 ?_
          refine lv_if_ne (tgt := 74) hx hb dX0_weighEdges_68 (by decide) (fun hc => ?_) (fun hc => ?_)
          · have h := zi_f hc h
            refine lv_aload_n hx hb dX0_weighEdges_74 rfl (lv_at hl 2 rfl) ?_
            refine lv_dup hx hb dX0_weighEdges_75 rfl ?_
            refine gX0_8 hj hx hb hC hI q_fl_X0_97 dX0_weighEdges_76 ?_
            refine lv_iconst (v := 1) hx hb dX0_weighEdges_79 lc_1 ?_
            refine lv_iadd hx hb dX0_weighEdges_80 ?_
            refine pX0_8 hj hx hb hC hI q_fl_X0_97 dX0_weighEdges_81 (fun σ10 H locs e_σ10 hI => ?_)
            have h := zl_e h e_σ10
            refine lv_iconst (v := 1) hx hb dX0_weighEdges_84 lc_1 ?_
            refine lv_iload hx hb dX0_weighEdges_85 (lv_at hl 0 rfl) ?_
            refine lv_ishl hx hb dX0_weighEdges_87 ?_
            refine lv_topi (fun v11 e_v11 => ?_)
            have h := zl_e h e_v11
            refine lv_istore (lv' := [(5, .int v11), (4, .int v7), (3, .int v6), (0, .ref (za G (j + 4))), (1, .int y1), (2, .int y2)]) hx hb dX0_weighEdges_88 hl (by decide) rfl (fun ls hl => ?_)
            refine lv_aload_n hx hb dX0_weighEdges_90 rfl (lv_at hl 3 rfl) ?_
            refine gX0_4 hj hx hb hC hI q_fl_X0_21 dX0_weighEdges_91 ?_
            refine lv_iload hx hb dX0_weighEdges_94 (lv_at hl 1 rfl) ?_
            obtain ⟨hg, h⟩ := zg_e h
            refine z_iald hx hb hC hI (vX0_4 G hj) hg dX0_weighEdges_96 ?_
            refine lv_aload_n hx hb dX0_weighEdges_97 rfl (lv_at hl 3 rfl) ?_
            refine gX0_4 hj hx hb hC hI q_fl_X0_21 dX0_weighEdges_98 ?_
            refine lv_iload_n hx hb dX0_weighEdges_101 rfl (lv_at hl 2 rfl) ?_
            obtain ⟨hg, h⟩ := zg_e h
            refine z_iald hx hb hC hI (vX0_4 G hj) hg dX0_weighEdges_102 ?_
            refine lv_icmp_le (tgt := 134) hx hb dX0_weighEdges_103 (by decide) (fun hc => ?_) (fun hc => ?_)
            · have h := zi_t hc h
              refine lv_aload_n hx hb dX0_weighEdges_134 rfl (lv_at hl 3 rfl) ?_
              refine gX0_5 hj hx hb hC hI q_fl_X0_24 dX0_weighEdges_135 ?_
              refine lv_iload_n hx hb dX0_weighEdges_138 rfl (lv_at hl 2 rfl) ?_
              obtain ⟨hg, h⟩ := zg_e h
              refine z_iald hx hb hC hI (vX0_5 G hj) hg dX0_weighEdges_139 ?_
              refine lv_iload hx hb dX0_weighEdges_140 (lv_at hl 0 rfl) ?_
              refine lv_iand hx hb dX0_weighEdges_142 ?_
              refine lv_if_eq (tgt := 177) hx hb dX0_weighEdges_143 (by decide) (fun hc => ?_) (fun hc => ?_)
              · have h := zi_t hc h
                refine lv_aload_n hx hb dX0_weighEdges_177 rfl (lv_at hl 3 rfl) ?_
                refine gX0_2 hj hx hb hC hI q_fl_X0_15 dX0_weighEdges_178 ?_
                refine lv_iload_n hx hb dX0_weighEdges_181 rfl (lv_at hl 5 rfl) ?_
                refine lv_iconst (v := 2) hx hb dX0_weighEdges_182 lc_2 ?_
                obtain ⟨hg, h⟩ := zg_e h
                refine z_iast hx hb hC hI (vX0_2 G hj) hg dX0_weighEdges_183 (fun σ12 H locs e_σ12 hI => ?_)
                have h := zl_e h e_σ12
                refine lv_aload_n hx hb dX0_weighEdges_184 rfl (lv_at hl 3 rfl) ?_
                refine lv_dup hx hb dX0_weighEdges_185 rfl ?_
                refine gX0_10 hj hx hb hC hI q_fl_X0_58 dX0_weighEdges_186 ?_
                refine lv_iconst (v := 1) hx hb dX0_weighEdges_189 lc_1 ?_
                refine lv_iadd hx hb dX0_weighEdges_190 ?_
                refine pX0_10 hj hx hb hC hI q_fl_X0_58 dX0_weighEdges_191 (fun σ13 H locs e_σ13 hI => ?_)
                have h := zl_e h e_σ13
                obtain ⟨v14, e_v14⟩ : ∃ y : Int32, y = y2 + 1 := ⟨_, rfl⟩
                have h := zl_e h e_v14
                refine lv_iinc (v := v14) (lv' := [(2, .int v14), (5, .int v11), (4, .int v7), (3, .int v6), (0, .ref (za G (j + 4))), (1, .int y1)]) hx hb dX0_weighEdges_194 hl (k := 5) rfl (by rw [lc_1]; exact e_v14.symm) (by decide) rfl (fun ls hl => ?_)
                refine lv_goto (tgt := 29) hx hb dX0_weighEdges_197 (by decide) ?_
                exact ih y1 v14 σ13 y1o y2o σo h _ _ _ hI (lv_sub hl [4, 5, 0] rfl) kE
              · have h := zi_f hc h
                refine lv_aload_n hx hb dX0_weighEdges_146 rfl (lv_at hl 3 rfl) ?_
                refine gX0_2 hj hx hb hC hI q_fl_X0_15 dX0_weighEdges_147 ?_
                refine lv_iload_n hx hb dX0_weighEdges_150 rfl (lv_at hl 5 rfl) ?_
                refine lv_iconst (v := 1) hx hb dX0_weighEdges_151 lc_1 ?_
                obtain ⟨hg, h⟩ := zg_e h
                refine z_iast hx hb hC hI (vX0_2 G hj) hg dX0_weighEdges_152 (fun σ15 H locs e_σ15 hI => ?_)
                have h := zl_e h e_σ15
                refine lv_aload_n hx hb dX0_weighEdges_153 rfl (lv_at hl 3 rfl) ?_
                refine lv_dup hx hb dX0_weighEdges_154 rfl ?_
                refine gX0_9 hj hx hb hC hI q_fl_X0_100 dX0_weighEdges_155 ?_
                refine lv_iconst (v := 1) hx hb dX0_weighEdges_158 lc_1 ?_
                refine lv_iadd hx hb dX0_weighEdges_159 ?_
                refine pX0_9 hj hx hb hC hI q_fl_X0_100 dX0_weighEdges_160 (fun σ16 H locs e_σ16 hI => ?_)
                have h := zl_e h e_σ16
                refine lv_aload_n hx hb dX0_weighEdges_163 rfl (lv_at hl 3 rfl) ?_
                refine lv_dup hx hb dX0_weighEdges_164 rfl ?_
                refine gX0_11 hj hx hb hC hI q_fl_X0_70 dX0_weighEdges_165 ?_
                refine lv_iload hx hb dX0_weighEdges_168 (lv_at hl 0 rfl) ?_
                refine lv_ior hx hb dX0_weighEdges_170 ?_
                refine pX0_11 hj hx hb hC hI q_fl_X0_70 dX0_weighEdges_171 (fun σ17 H locs e_σ17 hI => ?_)
                have h := zl_e h e_σ17
                refine lv_goto (tgt := 194) hx hb dX0_weighEdges_174 (by decide) ?_
                obtain ⟨v18, e_v18⟩ : ∃ y : Int32, y = y2 + 1 := ⟨_, rfl⟩
                have h := zl_e h e_v18
                refine lv_iinc (v := v18) (lv' := [(2, .int v18), (5, .int v11), (4, .int v7), (3, .int v6), (0, .ref (za G (j + 4))), (1, .int y1)]) hx hb dX0_weighEdges_194 hl (k := 5) rfl (by rw [lc_1]; exact e_v18.symm) (by decide) rfl (fun ls hl => ?_)
                refine lv_goto (tgt := 29) hx hb dX0_weighEdges_197 (by decide) ?_
                exact ih y1 v18 σ17 y1o y2o σo h _ _ _ hI (lv_sub hl [4, 5, 0] rfl) kE
            · have h := zi_f hc h
              refine lv_aload_n hx hb dX0_weighEdges_106 rfl (lv_at hl 3 rfl) ?_
              refine gX0_2 hj hx hb hC hI q_fl_X0_15 dX0_weighEdges_107 ?_
              refine lv_iload_n hx hb dX0_weighEdges_110 rfl (lv_at hl 5 rfl) ?_
              refine lv_iconst (v := 0) hx hb dX0_weighEdges_111 lc_0 ?_
              obtain ⟨hg, h⟩ := zg_e h
              refine z_iast hx hb hC hI (vX0_2 G hj) hg dX0_weighEdges_112 (fun σ19 H locs e_σ19 hI => ?_)
              have h := zl_e h e_σ19
              refine lv_aload_n hx hb dX0_weighEdges_113 rfl (lv_at hl 3 rfl) ?_
              refine lv_dup hx hb dX0_weighEdges_114 rfl ?_
              refine gX0_12 hj hx hb hC hI q_fl_X0_73 dX0_weighEdges_115 ?_
              refine lv_iload_n hx hb dX0_weighEdges_118 rfl (lv_at hl 4 rfl) ?_
              refine lv_iload hx hb dX0_weighEdges_119 (lv_at hl 0 rfl) ?_
              refine lv_iand hx hb dX0_weighEdges_121 ?_
              refine lv_ior hx hb dX0_weighEdges_122 ?_
              refine pX0_12 hj hx hb hC hI q_fl_X0_73 dX0_weighEdges_123 (fun σ20 H locs e_σ20 hI => ?_)
              have h := zl_e h e_σ20
              refine lv_iload_n hx hb dX0_weighEdges_126 rfl (lv_at hl 4 rfl) ?_
              refine lv_iload hx hb dX0_weighEdges_127 (lv_at hl 0 rfl) ?_
              refine lv_ior hx hb dX0_weighEdges_129 ?_
              refine lv_topi (fun v21 e_v21 => ?_)
              have h := zl_e h e_v21
              refine lv_istore_n (lv' := [(1, .int v21), (5, .int v11), (4, .int v7), (3, .int v6), (0, .ref (za G (j + 4))), (2, .int y2)]) hx hb dX0_weighEdges_130 rfl hl (by decide) rfl (fun ls hl => ?_)
              refine lv_goto (tgt := 194) hx hb dX0_weighEdges_131 (by decide) ?_
              obtain ⟨v22, e_v22⟩ : ∃ y : Int32, y = y2 + 1 := ⟨_, rfl⟩
              have h := zl_e h e_v22
              refine lv_iinc (v := v22) (lv' := [(2, .int v22), (1, .int v21), (5, .int v11), (4, .int v7), (3, .int v6), (0, .ref (za G (j + 4)))]) hx hb dX0_weighEdges_194 hl (k := 5) rfl (by rw [lc_1]; exact e_v22.symm) (by decide) rfl (fun ls hl => ?_)
              refine lv_goto (tgt := 29) hx hb dX0_weighEdges_197 (by decide) ?_
              exact ih v21 v22 σ20 y1o y2o σo h _ _ _ hI (lv_sub hl [5, 1, 0] rfl) kE
          · have h := zi_t hc h
            refine lv_goto (tgt := 194) hx hb dX0_weighEdges_71 (by decide) ?_
            obtain ⟨v23, e_v23⟩ : ∃ y : Int32, y = y2 + 1 := ⟨_, rfl⟩
            have h := zl_e h e_v23
            refine lv_iinc (v := v23) (lv' := [(2, .int v23), (4, .int v7), (3, .int v6), (0, .ref (za G (j + 4))), (1, .int y1)]) hx hb dX0_weighEdges_194 hl (k := 4) rfl (by rw [lc_1]; exact e_v23.symm) (by decide) rfl (fun ls hl => ?_)
            refine lv_goto (tgt := 29) hx hb dX0_weighEdges_197 (by decide) ?_
            exact ih y1 v23 σ8 y1o y2o σo h _ _ _ hI (lv_sub hl [3, 4, 0] rfl) kE
  unfold F_X0_weighEdges at h
  refine lv_aload_n hx hb dX0_weighEdges_0 rfl (lv_at hl 0 rfl) ?_
  refine lv_iconst (v := 0) hx hb dX0_weighEdges_1 lc_0 ?_
  refine pX0_8 hj hx hb hC hI q_fl_X0_97 dX0_weighEdges_2 (fun σ1 H locs e_σ1 hI => ?_)
  have h := zl_e h e_σ1
  refine lv_aload_n hx hb dX0_weighEdges_5 rfl (lv_at hl 0 rfl) ?_
  refine lv_iconst (v := 0) hx hb dX0_weighEdges_6 lc_0 ?_
  refine pX0_9 hj hx hb hC hI q_fl_X0_100 dX0_weighEdges_7 (fun σ2 H locs e_σ2 hI => ?_)
  have h := zl_e h e_σ2
  refine lv_aload_n hx hb dX0_weighEdges_10 rfl (lv_at hl 0 rfl) ?_
  refine lv_iconst (v := 0) hx hb dX0_weighEdges_11 lc_0 ?_
  refine pX0_10 hj hx hb hC hI q_fl_X0_58 dX0_weighEdges_12 (fun σ3 H locs e_σ3 hI => ?_)
  have h := zl_e h e_σ3
  refine lv_aload_n hx hb dX0_weighEdges_15 rfl (lv_at hl 0 rfl) ?_
  refine lv_iconst (v := 0) hx hb dX0_weighEdges_16 lc_0 ?_
  refine pX0_11 hj hx hb hC hI q_fl_X0_70 dX0_weighEdges_17 (fun σ4 H locs e_σ4 hI => ?_)
  have h := zl_e h e_σ4
  refine lv_aload_n hx hb dX0_weighEdges_20 rfl (lv_at hl 0 rfl) ?_
  refine lv_iconst (v := 0) hx hb dX0_weighEdges_21 lc_0 ?_
  refine pX0_12 hj hx hb hC hI q_fl_X0_73 dX0_weighEdges_22 (fun σ5 H locs e_σ5 hI => ?_)
  have h := zl_e h e_σ5
  refine lv_iconst (v := 0) hx hb dX0_weighEdges_25 lc_0 ?_
  refine lv_istore_n (lv' := [(1, .int 0), (0, .ref (za G (j + 4)))]) hx hb dX0_weighEdges_26 rfl hl (by decide) rfl (fun ls hl => ?_)
  refine lv_iconst (v := 0) hx hb dX0_weighEdges_27 lc_0 ?_
  refine lv_istore_n (lv' := [(2, .int 0), (1, .int 0), (0, .ref (za G (j + 4)))]) hx hb dX0_weighEdges_28 rfl hl (by decide) rfl (fun ls hl => ?_)
  obtain ⟨v24, v25, σ26, h27, h⟩ := zb3_e h
  refine w_29 100 0 0 σ5 v24 v25 σ26 h27 _ _ _ hI (lv_sub hl [2, 1, 0] rfl) (fun H locs ls hI hl => ?_)
  exact hret (Option.some.inj h) hI dX0_weighEdges_200
set_option maxRecDepth 100000 in
set_option maxHeartbeats 4000000 in
theorem c_X0_look (l : Launch) (G : zG) {j : Nat} (hj : isF j) {σ σ' : SF} {x1 : Int32} (h : F_X0_look σ j x1 = some σ') : zMv l WF G yX0_look cX0_look 3 14 [.ref (za G (j + 4)), .int x1] σ σ' := by
  refine zMv_of (by decide) (Nat.le_of_ble_eq_true rfl) (fun p e s m args below meth c ls Q hx hb hr hlk hml hC hI hl hret => ?_)
  have hl : lv_has ls 3 [(0, .ref (za G (j + 4))), (1, .int x1)] := hl
  have hC : zC WF G RX0 args s m := hC
  have w_31 : ∀ (n : Nat) (y2 : Int32) (σ : SF) (y2o : Int32) (σo : SF), L_X0_look_31 j n y2 σ = some (y2o, σo) → ∀ (H : Heap) (locs : List Loc) (ls : Array Slot), zI WF G s σ H locs → lv_has ls 3 [(0, .ref (za G (j + 4))), (2, .int y2)] → (∀ (H : Heap) (locs : List Loc) (ls : Array Slot), zI WF G s σo H locs → lv_has ls 3 [(0, .ref (za G (j + 4))), (2, .int y2o)] → W p l e (zR 14) s m args below meth c H locs 0 0 Q (F0 m 64 ls [])) → W p l e (zR 14) s m args below meth c H locs 0 0 Q (F0 m 31 ls []) := by
    intro n
    induction n with
    | zero => intro y2 σ y2o σo h; cases h
    | succ n ih =>
      intro y2 σ y2o σo h H locs ls hI hl kE
      unfold L_X0_look_31 at h
      refine lv_iload_n hx hb dX0_look_31 rfl (lv_at hl 1 rfl) ?_
      refine lv_aload_n hx hb dX0_look_32 rfl (lv_at hl 0 rfl) ?_
      refine gX0_6 hj hx hb hC hI q_fl_X0_39 dX0_look_33 ?_
      refine lv_icmp_ge (tgt := 64) hx hb dX0_look_36 (by decide) (fun hc => ?_) (fun hc => ?_)
      · have h := zi_t hc h
        cases h
        exact kE _ _ _ hI (lv_sub hl [0, 1] rfl)
      · have h := zi_f hc h
        refine lv_aload_n hx hb dX0_look_39 rfl (lv_at hl 0 rfl) ?_
        refine gX0_4 hj hx hb hC hI q_fl_X0_21 dX0_look_40 ?_
        refine lv_aload_n hx hb dX0_look_43 rfl (lv_at hl 0 rfl) ?_
        refine gX0_3 hj hx hb hC hI q_fl_X0_18 dX0_look_44 ?_
        refine lv_iload_n hx hb dX0_look_47 rfl (lv_at hl 1 rfl) ?_
        obtain ⟨hg, h⟩ := zg_e h
        refine z_iald hx hb hC hI (vX0_3 G hj) hg dX0_look_48 ?_
        refine lv_aload_n hx hb dX0_look_49 rfl (lv_at hl 0 rfl) ?_
        refine gX0_6 hj hx hb hC hI q_fl_X0_39 dX0_look_50 ?_
        refine lv_iconst (v := 1) hx hb dX0_look_53 lc_1 ?_
        refine lv_isub hx hb dX0_look_54 ?_
        refine lv_iload_n hx hb dX0_look_55 rfl (lv_at hl 1 rfl) ?_
        refine lv_isub hx hb dX0_look_56 ?_
        obtain ⟨hg, h⟩ := zg_e h
        refine z_iast hx hb hC hI (vX0_4 G hj) hg dX0_look_57 (fun σ9 H locs e_σ9 hI => ?_)
        have h := zl_e h e_σ9
        obtain ⟨v10, e_v10⟩ : ∃ y : Int32, y = y2 + 1 := ⟨_, rfl⟩
        have h := zl_e h e_v10
        refine lv_iinc (v := v10) (lv' := [(2, .int v10), (0, .ref (za G (j + 4)))]) hx hb dX0_look_58 hl (k := 1) rfl (by rw [lc_1]; exact e_v10.symm) (by decide) rfl (fun ls hl => ?_)
        refine lv_goto (tgt := 31) hx hb dX0_look_61 (by decide) ?_
        exact ih v10 σ9 y2o σo h _ _ _ hI (lv_sub hl [1, 0] rfl) kE
  unfold F_X0_look at h
  refine lv_aload_n hx hb dX0_look_0 rfl (lv_at hl 0 rfl) ?_
  refine lv_iload_n hx hb dX0_look_1 rfl (lv_at hl 1 rfl) ?_
  obtain ⟨σ2, h1, h⟩ := zb_e h
  refine z_cVv (As := [.int x1]) (rest := []) hx hb hC (hml.trans hl.1.symm) hI (c_X0_findTargets l G hj h1) yyX0_findTargets q_ml_X0_31 (oX0 G hj) rfl ⟨Nat.le_of_ble_eq_true rfl, Nat.le_of_ble_eq_true rfl⟩ rfl rfl (Nat.le_of_ble_eq_true rfl) ⟨Nat.le_refl _, Nat.le_refl _⟩ dX0_look_2 (fun H locs hI => ?_)
  refine lv_aload_n hx hb dX0_look_5 rfl (lv_at hl 0 rfl) ?_
  refine lv_iconst (v := 0) hx hb dX0_look_6 lc_0 ?_
  refine pX0_7 hj hx hb hC hI q_fl_X0_35 dX0_look_7 (fun σ3 H locs e_σ3 hI => ?_)
  have h := zl_e h e_σ3
  refine lv_aload_n hx hb dX0_look_10 rfl (lv_at hl 0 rfl) ?_
  refine lv_iconst (v := 0) hx hb dX0_look_11 lc_0 ?_
  refine pX0_6 hj hx hb hC hI q_fl_X0_39 dX0_look_12 (fun σ4 H locs e_σ4 hI => ?_)
  have h := zl_e h e_σ4
  refine lv_aload_n hx hb dX0_look_15 rfl (lv_at hl 0 rfl) ?_
  refine lv_iconst (v := 0) hx hb dX0_look_16 lc_0 ?_
  refine lv_iconst (v := 0) hx hb dX0_look_17 lc_0 ?_
  obtain ⟨σ6, h5, h⟩ := zb_e h
  refine z_cVv (As := [.int 0, .int 0]) (rest := []) hx hb hC (hml.trans hl.1.symm) hI (c_X0_doNode l G hj 9 h5) yyX0_doNode q_ml_X0_42 (oX0 G hj) rfl ⟨Nat.le_of_ble_eq_true rfl, Nat.le_of_ble_eq_true rfl⟩ rfl rfl (Nat.le_of_ble_eq_true rfl) ⟨Nat.le_refl _, Nat.le_refl _⟩ dX0_look_18 (fun H locs hI => ?_)
  refine lv_aload_n hx hb dX0_look_21 rfl (lv_at hl 0 rfl) ?_
  refine gX0_4 hj hx hb hC hI q_fl_X0_21 dX0_look_22 ?_
  refine lv_iconst (v := (-1)) hx hb dX0_look_25 lc_m1 ?_
  obtain ⟨σ8, h7, h⟩ := zb_e h
  refine z_cSv (As := [.ref (za G (j + 8)), .int (-1)]) (rest := []) hx hb hC (hml.trans hl.1.symm) hI (c_J7_fill_53178 l G (vX0_4 G hj) h7) yyJ7_fill_53178 q_ml_X0_46 ⟨Nat.le_of_ble_eq_true rfl, Nat.le_of_ble_eq_true rfl⟩ rfl rfl (Nat.le_of_ble_eq_true rfl) ⟨Nat.le_refl _, Nat.le_refl _⟩ dX0_look_26 (fun H locs hI => ?_)
  refine lv_iconst (v := 0) hx hb dX0_look_29 lc_0 ?_
  refine lv_istore_n (lv' := [(2, .int 0), (0, .ref (za G (j + 4))), (1, .int x1)]) hx hb dX0_look_30 rfl hl (by decide) rfl (fun ls hl => ?_)
  obtain ⟨v11, σ12, h13, h⟩ := zb2_e h
  refine w_31 100 0 σ8 v11 σ12 h13 _ _ _ hI (lv_sub hl [1, 0] rfl) (fun H locs ls hI hl => ?_)
  refine lv_aload_n hx hb dX0_look_64 rfl (lv_at hl 0 rfl) ?_
  obtain ⟨σ15, h14, h⟩ := zb_e h
  refine z_cVv (As := []) (rest := []) hx hb hC (hml.trans hl.1.symm) hI (c_X0_findRulers l G hj h14) yyX0_findRulers q_ml_X0_52 (oX0 G hj) rfl ⟨Nat.le_of_ble_eq_true rfl, Nat.le_of_ble_eq_true rfl⟩ rfl rfl (Nat.le_of_ble_eq_true rfl) ⟨Nat.le_refl _, Nat.le_refl _⟩ dX0_look_65 (fun H locs hI => ?_)
  refine lv_aload_n hx hb dX0_look_68 rfl (lv_at hl 0 rfl) ?_
  obtain ⟨σ17, h16, h⟩ := zb_e h
  refine z_cVv (As := []) (rest := []) hx hb hC (hml.trans hl.1.symm) hI (c_X0_weighEdges l G hj h16) yyX0_weighEdges q_ml_X0_55 (oX0 G hj) rfl ⟨Nat.le_of_ble_eq_true rfl, Nat.le_of_ble_eq_true rfl⟩ rfl rfl (Nat.le_of_ble_eq_true rfl) ⟨Nat.le_refl _, Nat.le_refl _⟩ dX0_look_69 (fun H locs hI => ?_)
  exact hret (Option.some.inj h) hI dX0_look_72
set_option maxRecDepth 100000 in
set_option maxHeartbeats 4000000 in
theorem c_X0_folds (l : Launch) (G : zG) {j : Nat} (hj : isF j) {σ : SF} {r : Int32} (h : F_X0_folds σ j  = some r) : zMi l WF G yX0_folds cX0_folds 1 .boolean 1 [.ref (za G (j + 4))] σ r σ := by
  refine zMi_of (by decide) (Nat.le_of_ble_eq_true rfl) (fun p e s m args below meth c ls Q hx hb hr hlk hml hC hI hl hret => ?_)
  have hl : lv_has ls 1 [(0, .ref (za G (j + 4)))] := hl
  have hC : zC WF G RX0 args s m := hC
  unfold F_X0_folds at h
  refine lv_aload_n hx hb dX0_folds_0 rfl (lv_at hl 0 rfl) ?_
  refine gX0_6 hj hx hb hC hI q_fl_X0_39 dX0_folds_1 ?_
  refine lv_if_le (tgt := 18) hx hb dX0_folds_4 (by decide) (fun hc => ?_) (fun hc => ?_)
  · have h := zi_t hc h
    refine lv_iconst (v := 0) hx hb dX0_folds_18 lc_0 ?_
    exact hret ⟨(Option.some.inj h), rfl⟩ hI rfl dX0_folds_19
  · have h := zi_f hc h
    refine lv_aload_n hx hb dX0_folds_7 rfl (lv_at hl 0 rfl) ?_
    refine gX0_10 hj hx hb hC hI q_fl_X0_58 dX0_folds_8 ?_
    refine lv_if_ne (tgt := 18) hx hb dX0_folds_11 (by decide) (fun hc => ?_) (fun hc => ?_)
    · have h := zi_f hc h
      refine lv_iconst (v := 0) hx hb dX0_folds_18 lc_0 ?_
      exact hret ⟨(Option.some.inj h), rfl⟩ hI rfl dX0_folds_19
    · have h := zi_t hc h
      refine lv_iconst (v := 1) hx hb dX0_folds_14 lc_1 ?_
      refine lv_goto (tgt := 19) hx hb dX0_folds_15 (by decide) ?_
      exact hret ⟨(Option.some.inj h), rfl⟩ hI rfl dX0_folds_19
set_option maxRecDepth 100000 in
set_option maxHeartbeats 4000000 in
theorem c_X0_nodeAt (l : Launch) (G : zG) {j : Nat} (hj : isF j) {σ : SF} {r : Int32} {x1 : Int32} (h : F_X0_nodeAt σ j x1 = some r) : zMi l WF G yX0_nodeAt cX0_nodeAt 2 .int 1 [.ref (za G (j + 4)), .int x1] σ r σ := by
  refine zMi_of (by decide) (Nat.le_of_ble_eq_true rfl) (fun p e s m args below meth c ls Q hx hb hr hlk hml hC hI hl hret => ?_)
  have hl : lv_has ls 2 [(0, .ref (za G (j + 4))), (1, .int x1)] := hl
  have hC : zC WF G RX0 args s m := hC
  unfold F_X0_nodeAt at h
  refine lv_iload_n hx hb dX0_nodeAt_0 rfl (lv_at hl 1 rfl) ?_
  refine lv_if_lt (tgt := 28) hx hb dX0_nodeAt_1 (by decide) (fun hc => ?_) (fun hc => ?_)
  · have h := zi_t hc h
    refine lv_iconst (v := (-1)) hx hb dX0_nodeAt_28 lc_m1 ?_
    exact hret ⟨(Option.some.inj h), rfl⟩ hI rfl dX0_nodeAt_29
  · have h := zi_f hc h
    refine lv_iload_n hx hb dX0_nodeAt_4 rfl (lv_at hl 1 rfl) ?_
    refine lv_aload_n hx hb dX0_nodeAt_5 rfl (lv_at hl 0 rfl) ?_
    refine gX0_6 hj hx hb hC hI q_fl_X0_39 dX0_nodeAt_6 ?_
    refine lv_icmp_ge (tgt := 28) hx hb dX0_nodeAt_9 (by decide) (fun hc => ?_) (fun hc => ?_)
    · have h := zi_t hc h
      refine lv_iconst (v := (-1)) hx hb dX0_nodeAt_28 lc_m1 ?_
      exact hret ⟨(Option.some.inj h), rfl⟩ hI rfl dX0_nodeAt_29
    · have h := zi_f hc h
      refine lv_aload_n hx hb dX0_nodeAt_12 rfl (lv_at hl 0 rfl) ?_
      refine gX0_3 hj hx hb hC hI q_fl_X0_18 dX0_nodeAt_13 ?_
      refine lv_aload_n hx hb dX0_nodeAt_16 rfl (lv_at hl 0 rfl) ?_
      refine gX0_6 hj hx hb hC hI q_fl_X0_39 dX0_nodeAt_17 ?_
      refine lv_iconst (v := 1) hx hb dX0_nodeAt_20 lc_1 ?_
      refine lv_isub hx hb dX0_nodeAt_21 ?_
      refine lv_iload_n hx hb dX0_nodeAt_22 rfl (lv_at hl 1 rfl) ?_
      refine lv_isub hx hb dX0_nodeAt_23 ?_
      refine lv_topi (fun v1 e_v1 => ?_)
      have h := zl_e h e_v1
      obtain ⟨hg, h⟩ := zg_e h
      refine z_iald hx hb hC hI (vX0_3 G hj) hg dX0_nodeAt_24 ?_
      refine lv_goto (tgt := 29) hx hb dX0_nodeAt_25 (by decide) ?_
      exact hret ⟨(Option.some.inj h), rfl⟩ hI rfl dX0_nodeAt_29
set_option maxRecDepth 100000 in
set_option maxHeartbeats 4000000 in
theorem c_X0_placeOf (l : Launch) (G : zG) {j : Nat} (hj : isF j) {σ : SF} {r : Int32} {x1 : Int32} (h : F_X0_placeOf σ j x1 = some r) : zMi l WF G yX0_placeOf cX0_placeOf 2 .int 2 [.ref (za G (j + 4)), .int x1] σ r σ := by
  refine zMi_of (by decide) (Nat.le_of_ble_eq_true rfl) (fun p e s m args below meth c ls Q hx hb hr hlk hml hC hI hl hret => ?_)
  have hl : lv_has ls 2 [(0, .ref (za G (j + 4))), (1, .int x1)] := hl
  have hC : zC WF G RX0 args s m := hC
  unfold F_X0_placeOf at h
  refine lv_aload_n hx hb dX0_placeOf_0 rfl (lv_at hl 0 rfl) ?_
  refine gX0_0 hj hx hb hC hI q_fl_X0_27 dX0_placeOf_1 ?_
  refine lv_iload_n hx hb dX0_placeOf_4 rfl (lv_at hl 1 rfl) ?_
  obtain ⟨r2, h1, h⟩ := zb_e h
  refine z_cVi (As := [.int x1]) (rest := []) hx hb hC (hml.trans hl.1.symm) hI (c_X1_has l G hj.J h1) yyX1_has q_ml_X0_61 (oX1 G hj.J) rfl ⟨Nat.le_of_ble_eq_true rfl, Nat.le_of_ble_eq_true rfl⟩ rfl rfl (Nat.le_of_ble_eq_true rfl) ⟨Nat.le_refl _, Nat.le_refl _⟩ dX0_placeOf_5 (fun H locs hI => ?_)
  refine lv_if_eq (tgt := 20) hx hb dX0_placeOf_8 (by decide) (fun hc => ?_) (fun hc => ?_)
  · have h := zi_t hc h
    refine lv_iconst (v := (-1)) hx hb dX0_placeOf_20 lc_m1 ?_
    exact hret ⟨(Option.some.inj h), rfl⟩ hI rfl dX0_placeOf_21
  · have h := zi_f hc h
    refine lv_aload_n hx hb dX0_placeOf_11 rfl (lv_at hl 0 rfl) ?_
    refine gX0_4 hj hx hb hC hI q_fl_X0_21 dX0_placeOf_12 ?_
    refine lv_iload_n hx hb dX0_placeOf_15 rfl (lv_at hl 1 rfl) ?_
    obtain ⟨hg, h⟩ := zg_e h
    refine z_iald hx hb hC hI (vX0_4 G hj) hg dX0_placeOf_16 ?_
    refine lv_goto (tgt := 21) hx hb dX0_placeOf_17 (by decide) ?_
    exact hret ⟨(Option.some.inj h), rfl⟩ hI rfl dX0_placeOf_21
set_option maxRecDepth 100000 in
set_option maxHeartbeats 4000000 in
theorem c_X6_isEnd (l : Launch) (G : zG)  {σ : SF} {r : Int32} {x0 : Int32} (h : F_X6_isEnd   x0 = some r) : zMi l WF G yX6_isEnd cX6_isEnd 1 .boolean 1 [.int x0] σ r σ := by
  refine zMi_of (by decide) (Nat.le_of_ble_eq_true rfl) (fun p e s m args below meth c ls Q hx hb hr hlk hml hC hI hl hret => ?_)
  have hl : lv_has ls 1 [(0, .int x0)] := hl
  have hC : zC WF G RX6 args s m := hC
  unfold F_X6_isEnd at h
  refine lv_iload_n hx hb dX6_isEnd_0 rfl (lv_at hl 0 rfl) ?_
  refine lv_if_eq (tgt := 9) hx hb dX6_isEnd_1 (by decide) (fun hc => ?_) (fun hc => ?_)
  · have h := zi_t hc h
    refine lv_iconst (v := 1) hx hb dX6_isEnd_9 lc_1 ?_
    refine lv_goto (tgt := 14) hx hb dX6_isEnd_10 (by decide) ?_
    exact hret ⟨(Option.some.inj h), rfl⟩ hI rfl dX6_isEnd_14
  · have h := zi_f hc h
    refine lv_iload_n hx hb dX6_isEnd_4 rfl (lv_at hl 0 rfl) ?_
    refine lv_iconst (v := 1) hx hb dX6_isEnd_5 lc_1 ?_
    refine lv_icmp_ne (tgt := 13) hx hb dX6_isEnd_6 (by decide) (fun hc => ?_) (fun hc => ?_)
    · have h := zi_f hc h
      refine lv_iconst (v := 0) hx hb dX6_isEnd_13 lc_0 ?_
      exact hret ⟨(Option.some.inj h), rfl⟩ hI rfl dX6_isEnd_14
    · have h := zi_t hc h
      refine lv_iconst (v := 1) hx hb dX6_isEnd_9 lc_1 ?_
      refine lv_goto (tgt := 14) hx hb dX6_isEnd_10 (by decide) ?_
      exact hret ⟨(Option.some.inj h), rfl⟩ hI rfl dX6_isEnd_14
set_option maxRecDepth 100000 in
set_option maxHeartbeats 4000000 in
theorem c_X0_stateOf (l : Launch) (G : zG) {j : Nat} (hj : isF j) {σ : SF} {r : Int32} {x1 : Int32} {x2 : Int32} (h : F_X0_stateOf σ j x1 x2 = some r) : zMi l WF G yX0_stateOf cX0_stateOf 3 .int 2 [.ref (za G (j + 4)), .int x1, .int x2] σ r σ := by
  refine zMi_of (by decide) (Nat.le_of_ble_eq_true rfl) (fun p e s m args below meth c ls Q hx hb hr hlk hml hC hI hl hret => ?_)
  have hl : lv_has ls 3 [(0, .ref (za G (j + 4))), (1, .int x1), (2, .int x2)] := hl
  have hC : zC WF G RX0 args s m := hC
  unfold F_X0_stateOf at h
  refine lv_aload_n hx hb dX0_stateOf_0 rfl (lv_at hl 0 rfl) ?_
  refine gX0_0 hj hx hb hC hI q_fl_X0_27 dX0_stateOf_1 ?_
  refine lv_iload_n hx hb dX0_stateOf_4 rfl (lv_at hl 1 rfl) ?_
  obtain ⟨r2, h1, h⟩ := zb_e h
  refine z_cVi (As := [.int x1]) (rest := []) hx hb hC (hml.trans hl.1.symm) hI (c_X1_has l G hj.J h1) yyX1_has q_ml_X0_61 (oX1 G hj.J) rfl ⟨Nat.le_of_ble_eq_true rfl, Nat.le_of_ble_eq_true rfl⟩ rfl rfl (Nat.le_of_ble_eq_true rfl) ⟨Nat.le_refl _, Nat.le_refl _⟩ dX0_stateOf_5 (fun H locs hI => ?_)
  refine lv_if_eq (tgt := 31) hx hb dX0_stateOf_8 (by decide) (fun hc => ?_) (fun hc => ?_)
  · have h := zi_t hc h
    refine lv_iconst (v := (-1)) hx hb dX0_stateOf_31 lc_m1 ?_
    exact hret ⟨(Option.some.inj h), rfl⟩ hI rfl dX0_stateOf_32
  · have h := zi_f hc h
    refine lv_iload_n hx hb dX0_stateOf_11 rfl (lv_at hl 2 rfl) ?_
    obtain ⟨r4, h3, h⟩ := zb_e h
    refine z_cNi (As := [.int x2]) (rest := []) hx hb hC (hml.trans hl.1.symm) hI (c_X6_isEnd l G  (σ := σ) h3) yyX6_isEnd q_nl_X0_67 ⟨Nat.le_of_ble_eq_true rfl, Nat.le_of_ble_eq_true rfl⟩ rfl rfl (Nat.le_of_ble_eq_true rfl) ⟨Nat.le_refl _, Nat.le_refl _⟩ dX0_stateOf_12 (fun H locs hI => ?_)
    refine lv_if_eq (tgt := 31) hx hb dX0_stateOf_15 (by decide) (fun hc => ?_) (fun hc => ?_)
    · have h := zi_t hc h
      refine lv_iconst (v := (-1)) hx hb dX0_stateOf_31 lc_m1 ?_
      exact hret ⟨(Option.some.inj h), rfl⟩ hI rfl dX0_stateOf_32
    · have h := zi_f hc h
      refine lv_aload_n hx hb dX0_stateOf_18 rfl (lv_at hl 0 rfl) ?_
      refine gX0_2 hj hx hb hC hI q_fl_X0_15 dX0_stateOf_19 ?_
      refine lv_iconst (v := 2) hx hb dX0_stateOf_22 lc_2 ?_
      refine lv_iload_n hx hb dX0_stateOf_23 rfl (lv_at hl 1 rfl) ?_
      refine lv_imul hx hb dX0_stateOf_24 ?_
      refine lv_iload_n hx hb dX0_stateOf_25 rfl (lv_at hl 2 rfl) ?_
      refine lv_iadd hx hb dX0_stateOf_26 ?_
      refine lv_topi (fun v5 e_v5 => ?_)
      have h := zl_e h e_v5
      obtain ⟨hg, h⟩ := zg_e h
      refine z_iald hx hb hC hI (vX0_2 G hj) hg dX0_stateOf_27 ?_
      refine lv_goto (tgt := 32) hx hb dX0_stateOf_28 (by decide) ?_
      exact hret ⟨(Option.some.inj h), rfl⟩ hI rfl dX0_stateOf_32
set_option maxRecDepth 100000 in
set_option maxHeartbeats 4000000 in
theorem c_X0_isHead (l : Launch) (G : zG) {j : Nat} (hj : isF j) {σ : SF} {r : Int32} {x1 : Int32} (h : F_X0_isHead σ j x1 = some r) : zMi l WF G yX0_isHead cX0_isHead 2 .boolean 2 [.ref (za G (j + 4)), .int x1] σ r σ := by
  refine zMi_of (by decide) (Nat.le_of_ble_eq_true rfl) (fun p e s m args below meth c ls Q hx hb hr hlk hml hC hI hl hret => ?_)
  have hl : lv_has ls 2 [(0, .ref (za G (j + 4))), (1, .int x1)] := hl
  have hC : zC WF G RX0 args s m := hC
  unfold F_X0_isHead at h
  refine lv_aload_n hx hb dX0_isHead_0 rfl (lv_at hl 0 rfl) ?_
  refine gX0_0 hj hx hb hC hI q_fl_X0_27 dX0_isHead_1 ?_
  refine lv_iload_n hx hb dX0_isHead_4 rfl (lv_at hl 1 rfl) ?_
  obtain ⟨r2, h1, h⟩ := zb_e h
  refine z_cVi (As := [.int x1]) (rest := []) hx hb hC (hml.trans hl.1.symm) hI (c_X1_has l G hj.J h1) yyX1_has q_ml_X0_61 (oX1 G hj.J) rfl ⟨Nat.le_of_ble_eq_true rfl, Nat.le_of_ble_eq_true rfl⟩ rfl rfl (Nat.le_of_ble_eq_true rfl) ⟨Nat.le_refl _, Nat.le_refl _⟩ dX0_isHead_5 (fun H locs hI => ?_)
  refine lv_if_eq (tgt := 27) hx hb dX0_isHead_8 (by decide) (fun hc => ?_) (fun hc => ?_)
  · have h := zi_t hc h
    refine lv_iconst (v := 0) hx hb dX0_isHead_27 lc_0 ?_
    exact hret ⟨(Option.some.inj h), rfl⟩ hI rfl dX0_isHead_28
  · have h := zi_f hc h
    refine lv_aload_n hx hb dX0_isHead_11 rfl (lv_at hl 0 rfl) ?_
    refine gX0_11 hj hx hb hC hI q_fl_X0_70 dX0_isHead_12 ?_
    refine lv_iload_n hx hb dX0_isHead_15 rfl (lv_at hl 1 rfl) ?_
    refine lv_ishr hx hb dX0_isHead_16 ?_
    refine lv_iconst (v := 1) hx hb dX0_isHead_17 lc_1 ?_
    refine lv_iand hx hb dX0_isHead_18 ?_
    refine lv_iconst (v := 1) hx hb dX0_isHead_19 lc_1 ?_
    refine lv_icmp_ne (tgt := 27) hx hb dX0_isHead_20 (by decide) (fun hc => ?_) (fun hc => ?_)
    · have h := zi_f hc h
      refine lv_iconst (v := 0) hx hb dX0_isHead_27 lc_0 ?_
      exact hret ⟨(Option.some.inj h), rfl⟩ hI rfl dX0_isHead_28
    · have h := zi_t hc h
      refine lv_iconst (v := 1) hx hb dX0_isHead_23 lc_1 ?_
      refine lv_goto (tgt := 28) hx hb dX0_isHead_24 (by decide) ?_
      exact hret ⟨(Option.some.inj h), rfl⟩ hI rfl dX0_isHead_28
set_option maxRecDepth 100000 in
set_option maxHeartbeats 4000000 in
theorem c_X0_isMerge (l : Launch) (G : zG) {j : Nat} (hj : isF j) {σ : SF} {r : Int32} {x1 : Int32} (h : F_X0_isMerge σ j x1 = some r) : zMi l WF G yX0_isMerge cX0_isMerge 2 .boolean 2 [.ref (za G (j + 4)), .int x1] σ r σ := by
  refine zMi_of (by decide) (Nat.le_of_ble_eq_true rfl) (fun p e s m args below meth c ls Q hx hb hr hlk hml hC hI hl hret => ?_)
  have hl : lv_has ls 2 [(0, .ref (za G (j + 4))), (1, .int x1)] := hl
  have hC : zC WF G RX0 args s m := hC
  unfold F_X0_isMerge at h
  refine lv_aload_n hx hb dX0_isMerge_0 rfl (lv_at hl 0 rfl) ?_
  refine gX0_0 hj hx hb hC hI q_fl_X0_27 dX0_isMerge_1 ?_
  refine lv_iload_n hx hb dX0_isMerge_4 rfl (lv_at hl 1 rfl) ?_
  obtain ⟨r2, h1, h⟩ := zb_e h
  refine z_cVi (As := [.int x1]) (rest := []) hx hb hC (hml.trans hl.1.symm) hI (c_X1_has l G hj.J h1) yyX1_has q_ml_X0_61 (oX1 G hj.J) rfl ⟨Nat.le_of_ble_eq_true rfl, Nat.le_of_ble_eq_true rfl⟩ rfl rfl (Nat.le_of_ble_eq_true rfl) ⟨Nat.le_refl _, Nat.le_refl _⟩ dX0_isMerge_5 (fun H locs hI => ?_)
  refine lv_if_eq (tgt := 27) hx hb dX0_isMerge_8 (by decide) (fun hc => ?_) (fun hc => ?_)
  · have h := zi_t hc h
    refine lv_iconst (v := 0) hx hb dX0_isMerge_27 lc_0 ?_
    exact hret ⟨(Option.some.inj h), rfl⟩ hI rfl dX0_isMerge_28
  · have h := zi_f hc h
    refine lv_aload_n hx hb dX0_isMerge_11 rfl (lv_at hl 0 rfl) ?_
    refine gX0_12 hj hx hb hC hI q_fl_X0_73 dX0_isMerge_12 ?_
    refine lv_iload_n hx hb dX0_isMerge_15 rfl (lv_at hl 1 rfl) ?_
    refine lv_ishr hx hb dX0_isMerge_16 ?_
    refine lv_iconst (v := 1) hx hb dX0_isMerge_17 lc_1 ?_
    refine lv_iand hx hb dX0_isMerge_18 ?_
    refine lv_iconst (v := 1) hx hb dX0_isMerge_19 lc_1 ?_
    refine lv_icmp_ne (tgt := 27) hx hb dX0_isMerge_20 (by decide) (fun hc => ?_) (fun hc => ?_)
    · have h := zi_f hc h
      refine lv_iconst (v := 0) hx hb dX0_isMerge_27 lc_0 ?_
      exact hret ⟨(Option.some.inj h), rfl⟩ hI rfl dX0_isMerge_28
    · have h := zi_t hc h
      refine lv_iconst (v := 1) hx hb dX0_isMerge_23 lc_1 ?_
      refine lv_goto (tgt := 28) hx hb dX0_isMerge_24 (by decide) ?_
      exact hret ⟨(Option.some.inj h), rfl⟩ hI rfl dX0_isMerge_28
set_option maxRecDepth 100000 in
set_option maxHeartbeats 4000000 in
theorem c_X0_rules (l : Launch) (G : zG) {j : Nat} (hj : isF j) {σ : SF} {r : Int32} {x1 : Int32} {x2 : Int32} (h : F_X0_rules σ j x1 x2 = some r) : zMi l WF G yX0_rules cX0_rules 3 .boolean 2 [.ref (za G (j + 4)), .int x1, .int x2] σ r σ := by
  refine zMi_of (by decide) (Nat.le_of_ble_eq_true rfl) (fun p e s m args below meth c ls Q hx hb hr hlk hml hC hI hl hret => ?_)
  have hl : lv_has ls 3 [(0, .ref (za G (j + 4))), (1, .int x1), (2, .int x2)] := hl
  have hC : zC WF G RX0 args s m := hC
  unfold F_X0_rules at h
  refine lv_aload_n hx hb dX0_rules_0 rfl (lv_at hl 0 rfl) ?_
  refine gX0_0 hj hx hb hC hI q_fl_X0_27 dX0_rules_1 ?_
  refine lv_iload_n hx hb dX0_rules_4 rfl (lv_at hl 1 rfl) ?_
  obtain ⟨r2, h1, h⟩ := zb_e h
  refine z_cVi (As := [.int x1]) (rest := []) hx hb hC (hml.trans hl.1.symm) hI (c_X1_has l G hj.J h1) yyX1_has q_ml_X0_61 (oX1 G hj.J) rfl ⟨Nat.le_of_ble_eq_true rfl, Nat.le_of_ble_eq_true rfl⟩ rfl rfl (Nat.le_of_ble_eq_true rfl) ⟨Nat.le_refl _, Nat.le_refl _⟩ dX0_rules_5 (fun H locs hI => ?_)
  refine lv_if_eq (tgt := 40) hx hb dX0_rules_8 (by decide) (fun hc => ?_) (fun hc => ?_)
  · have h := zi_t hc h
    refine lv_iconst (v := 0) hx hb dX0_rules_40 lc_0 ?_
    exact hret ⟨(Option.some.inj h), rfl⟩ hI rfl dX0_rules_41
  · have h := zi_f hc h
    refine lv_aload_n hx hb dX0_rules_11 rfl (lv_at hl 0 rfl) ?_
    refine gX0_0 hj hx hb hC hI q_fl_X0_27 dX0_rules_12 ?_
    refine lv_iload_n hx hb dX0_rules_15 rfl (lv_at hl 2 rfl) ?_
    obtain ⟨r4, h3, h⟩ := zb_e h
    refine z_cVi (As := [.int x2]) (rest := []) hx hb hC (hml.trans hl.1.symm) hI (c_X1_has l G hj.J h3) yyX1_has q_ml_X0_61 (oX1 G hj.J) rfl ⟨Nat.le_of_ble_eq_true rfl, Nat.le_of_ble_eq_true rfl⟩ rfl rfl (Nat.le_of_ble_eq_true rfl) ⟨Nat.le_refl _, Nat.le_refl _⟩ dX0_rules_16 (fun H locs hI => ?_)
    refine lv_if_eq (tgt := 40) hx hb dX0_rules_19 (by decide) (fun hc => ?_) (fun hc => ?_)
    · have h := zi_t hc h
      refine lv_iconst (v := 0) hx hb dX0_rules_40 lc_0 ?_
      exact hret ⟨(Option.some.inj h), rfl⟩ hI rfl dX0_rules_41
    · have h := zi_f hc h
      refine lv_aload_n hx hb dX0_rules_22 rfl (lv_at hl 0 rfl) ?_
      refine gX0_5 hj hx hb hC hI q_fl_X0_24 dX0_rules_23 ?_
      refine lv_iload_n hx hb dX0_rules_26 rfl (lv_at hl 2 rfl) ?_
      obtain ⟨hg, h⟩ := zg_e h
      refine z_iald hx hb hC hI (vX0_5 G hj) hg dX0_rules_27 ?_
      refine lv_iload_n hx hb dX0_rules_28 rfl (lv_at hl 1 rfl) ?_
      refine lv_ishr hx hb dX0_rules_29 ?_
      refine lv_iconst (v := 1) hx hb dX0_rules_30 lc_1 ?_
      refine lv_iand hx hb dX0_rules_31 ?_
      refine lv_iconst (v := 1) hx hb dX0_rules_32 lc_1 ?_
      refine lv_icmp_ne (tgt := 40) hx hb dX0_rules_33 (by decide) (fun hc => ?_) (fun hc => ?_)
      · have h := zi_f hc h
        refine lv_iconst (v := 0) hx hb dX0_rules_40 lc_0 ?_
        exact hret ⟨(Option.some.inj h), rfl⟩ hI rfl dX0_rules_41
      · have h := zi_t hc h
        refine lv_iconst (v := 1) hx hb dX0_rules_36 lc_1 ?_
        refine lv_goto (tgt := 41) hx hb dX0_rules_37 (by decide) ?_
        exact hret ⟨(Option.some.inj h), rfl⟩ hI rfl dX0_rules_41
set_option maxRecDepth 100000 in
set_option maxHeartbeats 4000000 in
theorem c_X0_ruledBy (l : Launch) (G : zG) {j : Nat} (hj : isF j) {σ : SF} {r : Int32} {x1 : Int32} (h : F_X0_ruledBy σ j x1 = some r) : zMi l WF G yX0_ruledBy cX0_ruledBy 4 .int 3 [.ref (za G (j + 4)), .int x1] σ r σ := by
  refine zMi_of (by decide) (Nat.le_of_ble_eq_true rfl) (fun p e s m args below meth c ls Q hx hb hr hlk hml hC hI hl hret => ?_)
  have hl : lv_has ls 4 [(0, .ref (za G (j + 4))), (1, .int x1)] := hl
  have hC : zC WF G RX0 args s m := hC
  have w_4 : ∀ (n : Nat) (y1 : Int32) (y2 : Int32) (y3 : Int32) (y2o : Int32) (y3o : Int32), L_X0_ruledBy_4 σ j y1 n y2 y3 = some (y2o, y3o) → ∀ (H : Heap) (locs : List Loc) (ls : Array Slot), zI WF G s σ H locs → lv_has ls 4 [(0, .ref (za G (j + 4))), (1, .int y1), (2, .int y2), (3, .int y3)] → (∀ (H : Heap) (locs : List Loc) (ls : Array Slot), zI WF G s σ H locs → lv_has ls 4 [(0, .ref (za G (j + 4))), (1, .int y1), (2, .int y2o), (3, .int y3o)] → W p l e (zR 3) s m args below meth c H locs 0 0 Q (F0 m 38 ls [])) → W p l e (zR 3) s m args below meth c H locs 0 0 Q (F0 m 4 ls []) := by
    intro n
    induction n with
    | zero => intro y1 y2 y3 y2o y3o h; cases h
    | succ n ih =>
      intro y1 y2 y3 y2o y3o h H locs ls hI hl kE
      unfold L_X0_ruledBy_4 at h
      refine lv_iload_n hx hb dX0_ruledBy_4 rfl (lv_at hl 3 rfl) ?_
      refine lv_aload_n hx hb dX0_ruledBy_5 rfl (lv_at hl 0 rfl) ?_
      refine gX0_0 hj hx hb hC hI q_fl_X0_27 dX0_ruledBy_6 ?_
      refine gX1_0 hj.J hx hb hC hI q_fl_X0_76 dX0_ruledBy_9 ?_
      refine lv_icmp_ge (tgt := 38) hx hb dX0_ruledBy_12 (by decide) (fun hc => ?_) (fun hc => ?_)
      · have h := zi_t hc h
        cases h
        exact kE _ _ _ hI (lv_sub hl [0, 1, 2, 3] rfl)
      · have h := zi_f hc h
        refine lv_iload_n hx hb dX0_ruledBy_15 rfl (lv_at hl 2 rfl) ?_
        refine lv_aload_n hx hb dX0_ruledBy_16 rfl (lv_at hl 0 rfl) ?_
        refine lv_iload_n hx hb dX0_ruledBy_17 rfl (lv_at hl 1 rfl) ?_
        refine lv_iload_n hx hb dX0_ruledBy_18 rfl (lv_at hl 3 rfl) ?_
        obtain ⟨r2, h1, h⟩ := zb_e h
        refine z_cVi (As := [.int y1, .int y3]) (rest := [.int y2]) hx hb hC (hml.trans hl.1.symm) hI (c_X0_rules l G hj h1) yyX0_rules q_ml_X0_79 (oX0 G hj) rfl ⟨Nat.le_of_ble_eq_true rfl, Nat.le_of_ble_eq_true rfl⟩ rfl rfl (Nat.le_of_ble_eq_true rfl) ⟨Nat.le_refl _, Nat.le_refl _⟩ dX0_ruledBy_19 (fun H locs hI => ?_)
        refine lv_if_eq (tgt := 29) hx hb dX0_ruledBy_22 (by decide) (fun hc => ?_) (fun hc => ?_)
        · have h := zi_t hc h
          refine lv_iconst (v := 0) hx hb dX0_ruledBy_29 lc_0 ?_
          refine lv_iadd hx hb dX0_ruledBy_30 ?_
          refine lv_topi (fun v3 e_v3 => ?_)
          have h := zl_e h e_v3
          refine lv_istore_n (lv' := [(2, .int v3), (0, .ref (za G (j + 4))), (1, .int y1), (3, .int y3)]) hx hb dX0_ruledBy_31 rfl hl (by decide) rfl (fun ls hl => ?_)
          obtain ⟨v4, e_v4⟩ : ∃ y : Int32, y = y3 + 1 := ⟨_, rfl⟩
          have h := zl_e h e_v4
          refine lv_iinc (v := v4) (lv' := [(3, .int v4), (2, .int v3), (0, .ref (za G (j + 4))), (1, .int y1)]) hx hb dX0_ruledBy_32 hl (k := 3) rfl (by rw [lc_1]; exact e_v4.symm) (by decide) rfl (fun ls hl => ?_)
          refine lv_goto (tgt := 4) hx hb dX0_ruledBy_35 (by decide) ?_
          exact ih y1 v3 v4 y2o y3o h _ _ _ hI (lv_sub hl [2, 3, 1, 0] rfl) kE
        · have h := zi_f hc h
          refine lv_iconst (v := 1) hx hb dX0_ruledBy_25 lc_1 ?_
          refine lv_goto (tgt := 30) hx hb dX0_ruledBy_26 (by decide) ?_
          refine lv_iadd hx hb dX0_ruledBy_30 ?_
          refine lv_topi (fun v5 e_v5 => ?_)
          have h := zl_e h e_v5
          refine lv_istore_n (lv' := [(2, .int v5), (0, .ref (za G (j + 4))), (1, .int y1), (3, .int y3)]) hx hb dX0_ruledBy_31 rfl hl (by decide) rfl (fun ls hl => ?_)
          obtain ⟨v6, e_v6⟩ : ∃ y : Int32, y = y3 + 1 := ⟨_, rfl⟩
          have h := zl_e h e_v6
          refine lv_iinc (v := v6) (lv' := [(3, .int v6), (2, .int v5), (0, .ref (za G (j + 4))), (1, .int y1)]) hx hb dX0_ruledBy_32 hl (k := 3) rfl (by rw [lc_1]; exact e_v6.symm) (by decide) rfl (fun ls hl => ?_)
          refine lv_goto (tgt := 4) hx hb dX0_ruledBy_35 (by decide) ?_
          exact ih y1 v5 v6 y2o y3o h _ _ _ hI (lv_sub hl [2, 3, 1, 0] rfl) kE
  unfold F_X0_ruledBy at h
  refine lv_iconst (v := 0) hx hb dX0_ruledBy_0 lc_0 ?_
  refine lv_istore_n (lv' := [(2, .int 0), (0, .ref (za G (j + 4))), (1, .int x1)]) hx hb dX0_ruledBy_1 rfl hl (by decide) rfl (fun ls hl => ?_)
  refine lv_iconst (v := 0) hx hb dX0_ruledBy_2 lc_0 ?_
  refine lv_istore_n (lv' := [(3, .int 0), (2, .int 0), (0, .ref (za G (j + 4))), (1, .int x1)]) hx hb dX0_ruledBy_3 rfl hl (by decide) rfl (fun ls hl => ?_)
  obtain ⟨v7, v8, h9, h⟩ := zb2_e h
  refine w_4 100 x1 0 0 v7 v8 h9 _ _ _ hI (lv_sub hl [2, 3, 1, 0] rfl) (fun H locs ls hI hl => ?_)
  refine lv_iload_n hx hb dX0_ruledBy_38 rfl (lv_at hl 2 rfl) ?_
  exact hret ⟨(Option.some.inj h), rfl⟩ hI rfl dX0_ruledBy_39
set_option maxRecDepth 100000 in
set_option maxHeartbeats 4000000 in
theorem c_X0_lordOf (l : Launch) (G : zG) {j : Nat} (hj : isF j) {σ : SF} {r : Int32} {x1 : Int32} (h : F_X0_lordOf σ j x1 = some r) : zMi l WF G yX0_lordOf cX0_lordOf 4 .int 2 [.ref (za G (j + 4)), .int x1] σ r σ := by
  refine zMi_of (by decide) (Nat.le_of_ble_eq_true rfl) (fun p e s m args below meth c ls Q hx hb hr hlk hml hC hI hl hret => ?_)
  have hl : lv_has ls 4 [(0, .ref (za G (j + 4))), (1, .int x1)] := hl
  have hC : zC WF G RX0 args s m := hC
  have w_28 : ∀ (n : Nat) (y2 : Int32) (y3 : Int32) (u : (Int32) ⊕ (Int32)), L_X0_lordOf_28 σ j y2 n y3 = some u → ∀ (H : Heap) (locs : List Loc) (ls : Array Slot), zI WF G s σ H locs → lv_has ls 4 [(0, .ref (za G (j + 4))), (2, .int y2), (3, .int y3)] → (∀ ρ, u = .inl ρ → ρ = r) → (∀ (y3o : Int32), u = .inr y3o → ∀ (H : Heap) (locs : List Loc) (ls : Array Slot), zI WF G s σ H locs → lv_has ls 4 [(0, .ref (za G (j + 4))), (2, .int y2), (3, .int y3o)] → W p l e (zR 2) s m args below meth c H locs 0 0 Q (F0 m 61 ls [])) → W p l e (zR 2) s m args below meth c H locs 0 0 Q (F0 m 28 ls []) := by
    intro n
    induction n with
    | zero => intro y2 y3 u h; cases h
    | succ n ih =>
      intro y2 y3 u h H locs ls hI hl kR kE
      unfold L_X0_lordOf_28 at h
      refine lv_iload_n hx hb dX0_lordOf_28 rfl (lv_at hl 2 rfl) ?_
      refine lv_aload_n hx hb dX0_lordOf_29 rfl (lv_at hl 0 rfl) ?_
      refine gX0_0 hj hx hb hC hI q_fl_X0_27 dX0_lordOf_30 ?_
      refine gX1_0 hj.J hx hb hC hI q_fl_X0_76 dX0_lordOf_33 ?_
      refine lv_icmp_ge (tgt := 61) hx hb dX0_lordOf_36 (by decide) (fun hc => ?_) (fun hc => ?_)
      · have h := zi_t hc h
        exact kE _ (Option.some.inj h).symm _ _ _ hI (lv_sub hl [0, 1, 2] rfl)
      · have h := zi_f hc h
        refine lv_iload_n hx hb dX0_lordOf_39 rfl (lv_at hl 1 rfl) ?_
        refine lv_if_eq (tgt := 55) hx hb dX0_lordOf_40 (by decide) (fun hc => ?_) (fun hc => ?_)
        · have h := zi_t hc h
          obtain ⟨v4, e_v4⟩ : ∃ y : Int32, y = y3 + 1 := ⟨_, rfl⟩
          have h := zl_e h e_v4
          refine lv_iinc (v := v4) (lv' := [(3, .int v4), (0, .ref (za G (j + 4))), (2, .int y2)]) hx hb dX0_lordOf_55 hl (k := 2) rfl (by rw [lc_1]; exact e_v4.symm) (by decide) rfl (fun ls hl => ?_)
          refine lv_goto (tgt := 28) hx hb dX0_lordOf_58 (by decide) ?_
          exact ih y2 v4 u h _ _ _ hI (lv_sub hl [1, 2, 0] rfl) kR kE
        · have h := zi_f hc h
          refine lv_aload_n hx hb dX0_lordOf_43 rfl (lv_at hl 0 rfl) ?_
          refine gX0_5 hj hx hb hC hI q_fl_X0_24 dX0_lordOf_44 ?_
          refine lv_iload_n hx hb dX0_lordOf_47 rfl (lv_at hl 2 rfl) ?_
          obtain ⟨hg, h⟩ := zg_e h
          refine z_iald hx hb hC hI (vX0_5 G hj) hg dX0_lordOf_48 ?_
          refine lv_iload_n hx hb dX0_lordOf_49 rfl (lv_at hl 1 rfl) ?_
          refine lv_icmp_ne (tgt := 55) hx hb dX0_lordOf_50 (by decide) (fun hc => ?_) (fun hc => ?_)
          · have h := zi_f hc h
            obtain ⟨v5, e_v5⟩ : ∃ y : Int32, y = y3 + 1 := ⟨_, rfl⟩
            have h := zl_e h e_v5
            refine lv_iinc (v := v5) (lv' := [(3, .int v5), (0, .ref (za G (j + 4))), (2, .int y2)]) hx hb dX0_lordOf_55 hl (k := 2) rfl (by rw [lc_1]; exact e_v5.symm) (by decide) rfl (fun ls hl => ?_)
            refine lv_goto (tgt := 28) hx hb dX0_lordOf_58 (by decide) ?_
            exact ih y2 v5 u h _ _ _ hI (lv_sub hl [1, 2, 0] rfl) kR kE
          · have h := zi_t hc h
            refine lv_iload_n hx hb dX0_lordOf_53 rfl (lv_at hl 2 rfl) ?_
            exact hret ⟨(kR _ (Option.some.inj h).symm), rfl⟩ hI rfl dX0_lordOf_54
  unfold F_X0_lordOf at h
  refine lv_aload_n hx hb dX0_lordOf_0 rfl (lv_at hl 0 rfl) ?_
  refine gX0_0 hj hx hb hC hI q_fl_X0_27 dX0_lordOf_1 ?_
  refine lv_iload_n hx hb dX0_lordOf_4 rfl (lv_at hl 1 rfl) ?_
  obtain ⟨r2, h1, h⟩ := zb_e h
  refine z_cVi (As := [.int x1]) (rest := []) hx hb hC (hml.trans hl.1.symm) hI (c_X1_has l G hj.J h1) yyX1_has q_ml_X0_61 (oX1 G hj.J) rfl ⟨Nat.le_of_ble_eq_true rfl, Nat.le_of_ble_eq_true rfl⟩ rfl rfl (Nat.le_of_ble_eq_true rfl) ⟨Nat.le_refl _, Nat.le_refl _⟩ dX0_lordOf_5 (fun H locs hI => ?_)
  refine lv_if_ne (tgt := 13) hx hb dX0_lordOf_8 (by decide) (fun hc => ?_) (fun hc => ?_)
  · have h := zi_f hc h
    refine lv_aload_n hx hb dX0_lordOf_13 rfl (lv_at hl 0 rfl) ?_
    refine gX0_5 hj hx hb hC hI q_fl_X0_24 dX0_lordOf_14 ?_
    refine lv_iload_n hx hb dX0_lordOf_17 rfl (lv_at hl 1 rfl) ?_
    obtain ⟨hg, h⟩ := zg_e h
    refine z_iald hx hb hC hI (vX0_5 G hj) hg dX0_lordOf_18 ?_
    refine lv_iconst (v := 1) hx hb dX0_lordOf_19 lc_1 ?_
    refine lv_iload_n hx hb dX0_lordOf_20 rfl (lv_at hl 1 rfl) ?_
    refine lv_ishl hx hb dX0_lordOf_21 ?_
    refine lv_iconst (v := (-1)) hx hb dX0_lordOf_22 lc_m1 ?_
    refine lv_ixor hx hb dX0_lordOf_23 ?_
    refine lv_iand hx hb dX0_lordOf_24 ?_
    refine lv_topi (fun v3 e_v3 => ?_)
    have h := zl_e h e_v3
    refine lv_istore_n (lv' := [(2, .int v3), (0, .ref (za G (j + 4))), (1, .int x1)]) hx hb dX0_lordOf_25 rfl hl (by decide) rfl (fun ls hl => ?_)
    refine lv_iconst (v := 0) hx hb dX0_lordOf_26 lc_0 ?_
    refine lv_istore_n (lv' := [(3, .int 0), (2, .int v3), (0, .ref (za G (j + 4))), (1, .int x1)]) hx hb dX0_lordOf_27 rfl hl (by decide) rfl (fun ls hl => ?_)
    obtain ⟨u8, h7, hR, hE⟩ := zs_e h
    refine w_28 100 v3 0 u8 h7 _ _ _ hI (lv_sub hl [2, 1, 0] rfl) (fun ρ eρ => Option.some.inj (hR ρ eρ)) (fun v6 e_h7 H locs ls hI hl => ?_)
    have h := zb_s (hE _ e_h7)
    refine lv_iconst (v := (-1)) hx hb dX0_lordOf_61 lc_m1 ?_
    exact hret ⟨(Option.some.inj h), rfl⟩ hI rfl dX0_lordOf_62
  · have h := zi_t hc h
    refine lv_iconst (v := (-1)) hx hb dX0_lordOf_11 lc_m1 ?_
    exact hret ⟨(Option.some.inj h), rfl⟩ hI rfl dX0_lordOf_12
set_option maxRecDepth 100000 in
set_option maxHeartbeats 4000000 in
theorem c_X1_grow (l : Launch) (G : zG) {b : Nat} (hb1 : isJ b) {σ σ' : SF} {r : Int32} {x1 : Int32} (h : F_X1_grow σ b x1 = some (r, σ')) : zMi l WF G yX1_grow cX1_grow 2 .boolean 1 [.ref (za G b), .int x1] σ r σ' := by
  refine zMi_of (by decide) (Nat.le_of_ble_eq_true rfl) (fun p e s m args below meth c ls Q hx hb hr hlk hml hC hI hl hret => ?_)
  have hl : lv_has ls 2 [(0, .ref (za G b)), (1, .int x1)] := hl
  have hC : zC WF G RX1 args s m := hC
  unfold F_X1_grow at h
  refine lv_aload_n hx hb dX1_grow_0 rfl (lv_at hl 0 rfl) ?_
  refine gX1_0 hb1 hx hb hC hI q_fl_X1_21 dX1_grow_1 ?_
  refine lv_bipush (v := 8) hx hb dX1_grow_4 lb_8 ?_
  refine lv_icmp_lt (tgt := 11) hx hb dX1_grow_6 (by decide) (fun hc => ?_) (fun hc => ?_)
  · have h := zi_t hc h
    refine lv_aload_n hx hb dX1_grow_11 rfl (lv_at hl 0 rfl) ?_
    refine gX1_1 hb1 hx hb hC hI q_fl_X1_9 dX1_grow_12 ?_
    refine lv_aload_n hx hb dX1_grow_15 rfl (lv_at hl 0 rfl) ?_
    refine gX1_0 hb1 hx hb hC hI q_fl_X1_21 dX1_grow_16 ?_
    refine lv_iload_n hx hb dX1_grow_19 rfl (lv_at hl 1 rfl) ?_
    obtain ⟨hg, h⟩ := zg_e h
    refine z_iast hx hb hC hI (vX1_1 G hb1) hg dX1_grow_20 (fun σ1 H locs e_σ1 hI => ?_)
    have h := zl_e h e_σ1
    refine lv_aload_n hx hb dX1_grow_21 rfl (lv_at hl 0 rfl) ?_
    refine gX1_2 hb1 hx hb hC hI q_fl_X1_15 dX1_grow_22 ?_
    refine lv_aload_n hx hb dX1_grow_25 rfl (lv_at hl 0 rfl) ?_
    refine gX1_0 hb1 hx hb hC hI q_fl_X1_21 dX1_grow_26 ?_
    refine lv_iconst (v := 0) hx hb dX1_grow_29 lc_0 ?_
    obtain ⟨hg, h⟩ := zg_e h
    refine z_iast hx hb hC hI (vX1_2 G hb1) hg dX1_grow_30 (fun σ2 H locs e_σ2 hI => ?_)
    have h := zl_e h e_σ2
    refine lv_aload_n hx hb dX1_grow_31 rfl (lv_at hl 0 rfl) ?_
    refine gX1_3 hb1 hx hb hC hI q_fl_X1_18 dX1_grow_32 ?_
    refine lv_aload_n hx hb dX1_grow_35 rfl (lv_at hl 0 rfl) ?_
    refine gX1_0 hb1 hx hb hC hI q_fl_X1_21 dX1_grow_36 ?_
    refine lv_iconst (v := 0) hx hb dX1_grow_39 lc_0 ?_
    obtain ⟨hg, h⟩ := zg_e h
    refine z_iast hx hb hC hI (vX1_3 G hb1) hg dX1_grow_40 (fun σ3 H locs e_σ3 hI => ?_)
    have h := zl_e h e_σ3
    refine lv_aload_n hx hb dX1_grow_41 rfl (lv_at hl 0 rfl) ?_
    refine lv_dup hx hb dX1_grow_42 rfl ?_
    refine gX1_0 hb1 hx hb hC hI q_fl_X1_21 dX1_grow_43 ?_
    refine lv_iconst (v := 1) hx hb dX1_grow_46 lc_1 ?_
    refine lv_iadd hx hb dX1_grow_47 ?_
    refine pX1_0 hb1 hx hb hC hI q_fl_X1_21 dX1_grow_48 (fun σ4 H locs e_σ4 hI => ?_)
    have h := zl_e h e_σ4
    refine lv_iconst (v := 1) hx hb dX1_grow_51 lc_1 ?_
    exact hret ⟨congrArg Prod.fst (Option.some.inj h), congrArg Prod.snd (Option.some.inj h)⟩ hI rfl dX1_grow_52
  · have h := zi_f hc h
    refine lv_iconst (v := 0) hx hb dX1_grow_9 lc_0 ?_
    exact hret ⟨congrArg Prod.fst (Option.some.inj h), congrArg Prod.snd (Option.some.inj h)⟩ hI rfl dX1_grow_10
set_option maxRecDepth 100000 in
set_option maxHeartbeats 4000000 in
theorem c_X1_put (l : Launch) (G : zG) {b : Nat} (hb1 : isJ b) {σ σ' : SF} {x1 : Int32} {x2 : Int32} {x3 : Int32} (h : F_X1_put σ b x1 x2 x3 = some σ') : zMv l WF G yX1_put cX1_put 4 2 [.ref (za G b), .int x1, .int x2, .int x3] σ σ' := by
  refine zMv_of (by decide) (Nat.le_of_ble_eq_true rfl) (fun p e s m args below meth c ls Q hx hb hr hlk hml hC hI hl hret => ?_)
  have hl : lv_has ls 4 [(0, .ref (za G b)), (1, .int x1), (2, .int x2), (3, .int x3)] := hl
  have hC : zC WF G RX1 args s m := hC
  unfold F_X1_put at h
  refine lv_aload_n hx hb dX1_put_0 rfl (lv_at hl 0 rfl) ?_
  refine lv_iload_n hx hb dX1_put_1 rfl (lv_at hl 1 rfl) ?_
  obtain ⟨r2, h1, h⟩ := zb_e h
  refine z_cVi (As := [.int x1]) (rest := []) hx hb hC (hml.trans hl.1.symm) hI (c_X1_has l G hb1 h1) yyX1_has q_ml_X1_25 (oX1 G hb1) rfl ⟨Nat.le_of_ble_eq_true rfl, Nat.le_of_ble_eq_true rfl⟩ rfl rfl (Nat.le_of_ble_eq_true rfl) ⟨Nat.le_refl _, Nat.le_refl _⟩ dX1_put_2 (fun H locs hI => ?_)
  refine lv_if_ne (tgt := 9) hx hb dX1_put_5 (by decide) (fun hc => ?_) (fun hc => ?_)
  · have h := zi_f hc h
    refine lv_iload_n hx hb dX1_put_9 rfl (lv_at hl 2 rfl) ?_
    refine lv_if_ne (tgt := 23) hx hb dX1_put_10 (by decide) (fun hc => ?_) (fun hc => ?_)
    · have h := zi_f hc h
      refine lv_aload_n hx hb dX1_put_23 rfl (lv_at hl 0 rfl) ?_
      refine gX1_3 hb1 hx hb hC hI q_fl_X1_18 dX1_put_24 ?_
      refine lv_iload_n hx hb dX1_put_27 rfl (lv_at hl 1 rfl) ?_
      refine lv_iload_n hx hb dX1_put_28 rfl (lv_at hl 3 rfl) ?_
      obtain ⟨hg, h⟩ := zg_e h
      refine z_iast hx hb hC hI (vX1_3 G hb1) hg dX1_put_29 (fun σ3 H locs e_σ3 hI => ?_)
      have h := zl_e h e_σ3
      exact hret (Option.some.inj h) hI dX1_put_30
    · have h := zi_t hc h
      refine lv_aload_n hx hb dX1_put_13 rfl (lv_at hl 0 rfl) ?_
      refine gX1_2 hb1 hx hb hC hI q_fl_X1_15 dX1_put_14 ?_
      refine lv_iload_n hx hb dX1_put_17 rfl (lv_at hl 1 rfl) ?_
      refine lv_iload_n hx hb dX1_put_18 rfl (lv_at hl 3 rfl) ?_
      obtain ⟨hg, h⟩ := zg_e h
      refine z_iast hx hb hC hI (vX1_2 G hb1) hg dX1_put_19 (fun σ4 H locs e_σ4 hI => ?_)
      have h := zl_e h e_σ4
      refine lv_goto (tgt := 30) hx hb dX1_put_20 (by decide) ?_
      exact hret (Option.some.inj h) hI dX1_put_30
  · have h := zi_t hc h
    exact hret (Option.some.inj h) hI dX1_put_8
set_option maxRecDepth 100000 in
set_option maxHeartbeats 4000000 in
theorem c_X1_copyFrom (l : Launch) (G : zG) {b : Nat} (hb1 : isJ b) {b2 : Nat} (hb2 : isJ b2) {σ σ' : SF} (h : F_X1_copyFrom σ b b2  = some σ') : zMv l WF G yX1_copyFrom cX1_copyFrom 2 1 [.ref (za G b), .ref (za G b2)] σ σ' := by
  refine zMv_of (by decide) (Nat.le_of_ble_eq_true rfl) (fun p e s m args below meth c ls Q hx hb hr hlk hml hC hI hl hret => ?_)
  have hl : lv_has ls 2 [(0, .ref (za G b)), (1, .ref (za G b2))] := hl
  have hC : zC WF G RX1 args s m := hC
  unfold F_X1_copyFrom at h
  refine lv_aload_n hx hb dX1_copyFrom_0 rfl (lv_at hl 0 rfl) ?_
  refine lv_aload_n hx hb dX1_copyFrom_1 rfl (lv_at hl 1 rfl) ?_
  refine gX1_0 hb2 hx hb hC hI q_fl_X1_21 dX1_copyFrom_2 ?_
  refine pX1_0 hb1 hx hb hC hI q_fl_X1_21 dX1_copyFrom_5 (fun σ1 H locs e_σ1 hI => ?_)
  have h := zl_e h e_σ1
  refine lv_aload_n hx hb dX1_copyFrom_8 rfl (lv_at hl 1 rfl) ?_
  refine gX1_1 hb2 hx hb hC hI q_fl_X1_9 dX1_copyFrom_9 ?_
  refine lv_iconst (v := 0) hx hb dX1_copyFrom_12 lc_0 ?_
  refine lv_aload_n hx hb dX1_copyFrom_13 rfl (lv_at hl 0 rfl) ?_
  refine gX1_1 hb1 hx hb hC hI q_fl_X1_9 dX1_copyFrom_14 ?_
  refine lv_iconst (v := 0) hx hb dX1_copyFrom_17 lc_0 ?_
  refine lv_bipush (v := 8) hx hb dX1_copyFrom_18 lb_8 ?_
  refine z_copy hx hb hC (hml.trans hl.1.symm) hI q_ml_X1_29 (vX1_1 G hb2) (vX1_1 G hb1) (by decide) (by decide) (Nat.le_of_ble_eq_true rfl) (Nat.le_of_ble_eq_true rfl) dX1_copyFrom_20 (fun σ2 H locs e_σ2 hI => ?_)
  have h := zl_e h e_σ2
  refine lv_aload_n hx hb dX1_copyFrom_23 rfl (lv_at hl 1 rfl) ?_
  refine gX1_2 hb2 hx hb hC hI q_fl_X1_15 dX1_copyFrom_24 ?_
  refine lv_iconst (v := 0) hx hb dX1_copyFrom_27 lc_0 ?_
  refine lv_aload_n hx hb dX1_copyFrom_28 rfl (lv_at hl 0 rfl) ?_
  refine gX1_2 hb1 hx hb hC hI q_fl_X1_15 dX1_copyFrom_29 ?_
  refine lv_iconst (v := 0) hx hb dX1_copyFrom_32 lc_0 ?_
  refine lv_bipush (v := 8) hx hb dX1_copyFrom_33 lb_8 ?_
  refine z_copy hx hb hC (hml.trans hl.1.symm) hI q_ml_X1_29 (vX1_2 G hb2) (vX1_2 G hb1) (by decide) (by decide) (Nat.le_of_ble_eq_true rfl) (Nat.le_of_ble_eq_true rfl) dX1_copyFrom_35 (fun σ3 H locs e_σ3 hI => ?_)
  have h := zl_e h e_σ3
  refine lv_aload_n hx hb dX1_copyFrom_38 rfl (lv_at hl 1 rfl) ?_
  refine gX1_3 hb2 hx hb hC hI q_fl_X1_18 dX1_copyFrom_39 ?_
  refine lv_iconst (v := 0) hx hb dX1_copyFrom_42 lc_0 ?_
  refine lv_aload_n hx hb dX1_copyFrom_43 rfl (lv_at hl 0 rfl) ?_
  refine gX1_3 hb1 hx hb hC hI q_fl_X1_18 dX1_copyFrom_44 ?_
  refine lv_iconst (v := 0) hx hb dX1_copyFrom_47 lc_0 ?_
  refine lv_bipush (v := 8) hx hb dX1_copyFrom_48 lb_8 ?_
  refine z_copy hx hb hC (hml.trans hl.1.symm) hI q_ml_X1_29 (vX1_3 G hb2) (vX1_3 G hb1) (by decide) (by decide) (Nat.le_of_ble_eq_true rfl) (Nat.le_of_ble_eq_true rfl) dX1_copyFrom_50 (fun σ4 H locs e_σ4 hI => ?_)
  have h := zl_e h e_σ4
  exact hret (Option.some.inj h) hI dX1_copyFrom_53
