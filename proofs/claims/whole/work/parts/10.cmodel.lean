set_option maxRecDepth 100000 in
set_option maxHeartbeats 4000000 in
theorem c_X7_aim (l : Launch) (G : zG)  {σ σ' : SF} {r : Int32} {x1 : Int32} {x2 : Int32} {x3 : Int32} (h : F_X7_aim σ  x1 x2 x3 = some (r, σ')) : zMi l WM G yX7_aim cX7_aim 5 .int 3 [.ref (za G 0), .int x1, .int x2, .int x3] σ r σ' := by
  refine zMi_of (by decide) (Nat.le_of_ble_eq_true rfl) (fun p e s m args below meth c ls Q hx hb hr hlk hml hC hI hl hret => ?_)
  have hl : lv_has ls 5 [(0, .ref (za G 0)), (1, .int x1), (2, .int x2), (3, .int x3)] := hl
  have hC : zC WM G RX7 args s m := hC
  unfold F_X7_aim at h
  refine lv_aload_n hx hb dX7_aim_0 rfl (lv_at hl 0 rfl) ?_
  refine lv_iload_n hx hb dX7_aim_1 rfl (lv_at hl 1 rfl) ?_
  obtain ⟨r2, h1, h⟩ := zb_e h
  refine z_cVi (As := [.int x1]) (rest := []) hx hb hC (hml.trans hl.1.symm) hI (c_X7_isNode l G  h1) yyX7_isNode q_ml_X7_207 (oX7 G) rfl ⟨Nat.le_of_ble_eq_true rfl, Nat.le_of_ble_eq_true rfl⟩ rfl rfl (Nat.le_of_ble_eq_true rfl) ⟨Nat.le_refl _, Nat.le_refl _⟩ dX7_aim_2 (fun H locs hI => ?_)
  refine lv_if_eq (tgt := 16) hx hb dX7_aim_5 (by decide) (fun hc => ?_) (fun hc => ?_)
  · have h := zi_t hc h
    refine lv_bipush (v := (-101)) hx hb dX7_aim_16 lb_m101 ?_
    exact hret ⟨congrArg Prod.fst (Option.some.inj h), congrArg Prod.snd (Option.some.inj h)⟩ hI rfl dX7_aim_18
  · have h := zi_f hc h
    refine lv_aload_n hx hb dX7_aim_8 rfl (lv_at hl 0 rfl) ?_
    refine lv_iload_n hx hb dX7_aim_9 rfl (lv_at hl 3 rfl) ?_
    obtain ⟨r4, h3, h⟩ := zb_e h
    refine z_cVi (As := [.int x3]) (rest := []) hx hb hC (hml.trans hl.1.symm) hI (c_X7_isNode l G  h3) yyX7_isNode q_ml_X7_207 (oX7 G) rfl ⟨Nat.le_of_ble_eq_true rfl, Nat.le_of_ble_eq_true rfl⟩ rfl rfl (Nat.le_of_ble_eq_true rfl) ⟨Nat.le_refl _, Nat.le_refl _⟩ dX7_aim_10 (fun H locs hI => ?_)
    refine lv_if_ne (tgt := 19) hx hb dX7_aim_13 (by decide) (fun hc => ?_) (fun hc => ?_)
    · have h := zi_f hc h
      refine lv_iload_n hx hb dX7_aim_19 rfl (lv_at hl 2 rfl) ?_
      refine lv_iconst (v := 0) hx hb dX7_aim_20 lc_0 ?_
      refine lv_iconst (v := 1) hx hb dX7_aim_21 lc_1 ?_
      obtain ⟨r6, h5, h⟩ := zb_e h
      refine z_cSi (As := [.int x2, .int 0, .int 1]) (rest := []) hx hb hC (hml.trans hl.1.symm) hI (c_X7_within l G  (σ := σ) h5) yyX7_within q_ml_X7_89 ⟨Nat.le_of_ble_eq_true rfl, Nat.le_of_ble_eq_true rfl⟩ rfl rfl (Nat.le_of_ble_eq_true rfl) ⟨Nat.le_refl _, Nat.le_refl _⟩ dX7_aim_22 (fun H locs hI => ?_)
      refine lv_if_ne (tgt := 31) hx hb dX7_aim_25 (by decide) (fun hc => ?_) (fun hc => ?_)
      · have h := zi_f hc h
        refine lv_aload_n hx hb dX7_aim_31 rfl (lv_at hl 0 rfl) ?_
        refine gX7_3 hx hb hC hI q_fl_X7_13 dX7_aim_32 ?_
        refine lv_iconst (v := 2) hx hb dX7_aim_35 lc_2 ?_
        refine lv_iload_n hx hb dX7_aim_36 rfl (lv_at hl 1 rfl) ?_
        refine lv_imul hx hb dX7_aim_37 ?_
        refine lv_iload_n hx hb dX7_aim_38 rfl (lv_at hl 2 rfl) ?_
        refine lv_iadd hx hb dX7_aim_39 ?_
        refine lv_topi (fun v7 e_v7 => ?_)
        have h := zl_e h e_v7
        obtain ⟨hg, h⟩ := zg_e h
        refine z_iald hx hb hC hI (vX7_3 G) hg dX7_aim_40 ?_
        refine lv_topi (fun v8 e_v8 => ?_)
        have h := zl_e h e_v8
        refine lv_istore (lv' := [(4, .int v8), (0, .ref (za G 0)), (1, .int x1), (2, .int x2), (3, .int x3)]) hx hb dX7_aim_41 hl (by decide) rfl (fun ls hl => ?_)
        refine lv_aload_n hx hb dX7_aim_43 rfl (lv_at hl 1 rfl) ?_
        refine gX7_3 hx hb hC hI q_fl_X7_13 dX7_aim_44 ?_
        refine lv_iconst (v := 2) hx hb dX7_aim_47 lc_2 ?_
        refine lv_iload_n hx hb dX7_aim_48 rfl (lv_at hl 2 rfl) ?_
        refine lv_imul hx hb dX7_aim_49 ?_
        refine lv_iload_n hx hb dX7_aim_50 rfl (lv_at hl 3 rfl) ?_
        refine lv_iadd hx hb dX7_aim_51 ?_
        refine lv_iload_n hx hb dX7_aim_52 rfl (lv_at hl 4 rfl) ?_
        obtain ⟨hg, h⟩ := zg_e h
        refine z_iast hx hb hC hI (vX7_3 G) hg dX7_aim_53 (fun σ9 H locs e_σ9 hI => ?_)
        have h := zl_e h e_σ9
        refine lv_iload hx hb dX7_aim_54 (lv_at hl 0 rfl) ?_
        exact hret ⟨congrArg Prod.fst (Option.some.inj h), congrArg Prod.snd (Option.some.inj h)⟩ hI rfl dX7_aim_56
      · have h := zi_t hc h
        refine lv_bipush (v := (-102)) hx hb dX7_aim_28 lb_m102 ?_
        exact hret ⟨congrArg Prod.fst (Option.some.inj h), congrArg Prod.snd (Option.some.inj h)⟩ hI rfl dX7_aim_30
    · have h := zi_t hc h
      refine lv_bipush (v := (-101)) hx hb dX7_aim_16 lb_m101 ?_
      exact hret ⟨congrArg Prod.fst (Option.some.inj h), congrArg Prod.snd (Option.some.inj h)⟩ hI rfl dX7_aim_18
set_option maxRecDepth 100000 in
set_option maxHeartbeats 4000000 in
theorem c_X7_be (l : Launch) (G : zG)  {σ σ' : SF} {r : Int32} {x1 : Int32} {x2 : Int32} (h : F_X7_be σ  x1 x2 = some (r, σ')) : zMi l WM G yX7_be cX7_be 4 .int 3 [.ref (za G 0), .int x1, .int x2] σ r σ' := by
  refine zMi_of (by decide) (Nat.le_of_ble_eq_true rfl) (fun p e s m args below meth c ls Q hx hb hr hlk hml hC hI hl hret => ?_)
  have hl : lv_has ls 4 [(0, .ref (za G 0)), (1, .int x1), (2, .int x2)] := hl
  have hC : zC WM G RX7 args s m := hC
  unfold F_X7_be at h
  refine lv_aload_n hx hb dX7_be_0 rfl (lv_at hl 0 rfl) ?_
  refine lv_iload_n hx hb dX7_be_1 rfl (lv_at hl 1 rfl) ?_
  obtain ⟨r2, h1, h⟩ := zb_e h
  refine z_cVi (As := [.int x1]) (rest := []) hx hb hC (hml.trans hl.1.symm) hI (c_X7_isNode l G  h1) yyX7_isNode q_ml_X7_207 (oX7 G) rfl ⟨Nat.le_of_ble_eq_true rfl, Nat.le_of_ble_eq_true rfl⟩ rfl rfl (Nat.le_of_ble_eq_true rfl) ⟨Nat.le_refl _, Nat.le_refl _⟩ dX7_be_2 (fun H locs hI => ?_)
  refine lv_if_ne (tgt := 11) hx hb dX7_be_5 (by decide) (fun hc => ?_) (fun hc => ?_)
  · have h := zi_f hc h
    refine lv_iload_n hx hb dX7_be_11 rfl (lv_at hl 2 rfl) ?_
    refine lv_iconst (v := 0) hx hb dX7_be_12 lc_0 ?_
    refine lv_iconst (v := 4) hx hb dX7_be_13 lc_4 ?_
    obtain ⟨r4, h3, h⟩ := zb_e h
    refine z_cSi (As := [.int x2, .int 0, .int 4]) (rest := []) hx hb hC (hml.trans hl.1.symm) hI (c_X7_within l G  (σ := σ) h3) yyX7_within q_ml_X7_89 ⟨Nat.le_of_ble_eq_true rfl, Nat.le_of_ble_eq_true rfl⟩ rfl rfl (Nat.le_of_ble_eq_true rfl) ⟨Nat.le_refl _, Nat.le_refl _⟩ dX7_be_14 (fun H locs hI => ?_)
    refine lv_if_ne (tgt := 23) hx hb dX7_be_17 (by decide) (fun hc => ?_) (fun hc => ?_)
    · have h := zi_f hc h
      refine lv_aload_n hx hb dX7_be_23 rfl (lv_at hl 0 rfl) ?_
      refine gX7_2 hx hb hC hI q_fl_X7_7 dX7_be_24 ?_
      refine lv_iload_n hx hb dX7_be_27 rfl (lv_at hl 1 rfl) ?_
      obtain ⟨hg, h⟩ := zg_e h
      refine z_iald hx hb hC hI (vX7_2 G) hg dX7_be_28 ?_
      refine lv_topi (fun v5 e_v5 => ?_)
      have h := zl_e h e_v5
      refine lv_istore_n (lv' := [(3, .int v5), (0, .ref (za G 0)), (1, .int x1), (2, .int x2)]) hx hb dX7_be_29 rfl hl (by decide) rfl (fun ls hl => ?_)
      refine lv_aload_n hx hb dX7_be_30 rfl (lv_at hl 1 rfl) ?_
      refine gX7_2 hx hb hC hI q_fl_X7_7 dX7_be_31 ?_
      refine lv_iload_n hx hb dX7_be_34 rfl (lv_at hl 2 rfl) ?_
      refine lv_iload_n hx hb dX7_be_35 rfl (lv_at hl 3 rfl) ?_
      obtain ⟨hg, h⟩ := zg_e h
      refine z_iast hx hb hC hI (vX7_2 G) hg dX7_be_36 (fun σ6 H locs e_σ6 hI => ?_)
      have h := zl_e h e_σ6
      refine lv_iload_n hx hb dX7_be_37 rfl (lv_at hl 0 rfl) ?_
      exact hret ⟨congrArg Prod.fst (Option.some.inj h), congrArg Prod.snd (Option.some.inj h)⟩ hI rfl dX7_be_38
    · have h := zi_t hc h
      refine lv_bipush (v := (-102)) hx hb dX7_be_20 lb_m102 ?_
      exact hret ⟨congrArg Prod.fst (Option.some.inj h), congrArg Prod.snd (Option.some.inj h)⟩ hI rfl dX7_be_22
  · have h := zi_t hc h
    refine lv_bipush (v := (-101)) hx hb dX7_be_8 lb_m101 ?_
    exact hret ⟨congrArg Prod.fst (Option.some.inj h), congrArg Prod.snd (Option.some.inj h)⟩ hI rfl dX7_be_10
set_option maxRecDepth 100000 in
set_option maxHeartbeats 4000000 in
theorem c_X7_walkNow (l : Launch) (G : zG)  {σ σ' : SF} {r : Int32} {x1 : Int32} (h : F_X7_walkNow σ  x1 = some (r, σ')) : zMi l WM G yX7_walkNow cX7_walkNow 6 .int 2 [.ref (za G 0), .int x1] σ r σ' := by
  refine zMi_of (by decide) (Nat.le_of_ble_eq_true rfl) (fun p e s m args below meth c ls Q hx hb hr hlk hml hC hI hl hret => ?_)
  have hl : lv_has ls 6 [(0, .ref (za G 0)), (1, .int x1)] := hl
  have hC : zC WM G RX7 args s m := hC
  have w_2 : ∀ (n : Nat) (y1 : Int32) (y2 : Int32) (σ : SF) (y2o : Int32) (σo : SF), L_X7_walkNow_2 y1 n y2 σ = some (y2o, σo) → ∀ (H : Heap) (locs : List Loc) (ls : Array Slot), zI WM G s σ H locs → lv_has ls 6 [(0, .ref (za G 0)), (1, .int y1), (2, .int y2)] → (∀ (H : Heap) (locs : List Loc) (ls : Array Slot), zI WM G s σo H locs → lv_has ls 6 [(0, .ref (za G 0)), (1, .int y1), (2, .int y2o)] → W p l e (zR 2) s m args below meth c H locs 0 0 Q (F0 m 21 ls [])) → W p l e (zR 2) s m args below meth c H locs 0 0 Q (F0 m 2 ls []) := by
    intro n
    induction n with
    | zero => intro y1 y2 σ y2o σo h; cases h
    | succ n ih =>
      intro y1 y2 σ y2o σo h H locs ls hI hl kE
      unfold L_X7_walkNow_2 at h
      refine lv_iload_n hx hb dX7_walkNow_2 rfl (lv_at hl 2 rfl) ?_
      refine lv_bipush (v := 8) hx hb dX7_walkNow_3 lb_8 ?_
      refine lv_icmp_ge (tgt := 21) hx hb dX7_walkNow_5 (by decide) (fun hc => ?_) (fun hc => ?_)
      · have h := zi_t hc h
        cases h
        exact kE _ _ _ hI (lv_sub hl [0, 1, 2] rfl)
      · have h := zi_f hc h
        refine lv_aload_n hx hb dX7_walkNow_8 rfl (lv_at hl 0 rfl) ?_
        refine gX7_35 hx hb hC hI q_fl_X7_62 dX7_walkNow_9 ?_
        refine lv_iload_n hx hb dX7_walkNow_12 rfl (lv_at hl 2 rfl) ?_
        refine lv_iconst (v := 0) hx hb dX7_walkNow_13 lc_0 ?_
        obtain ⟨hg, h⟩ := zg_e h
        refine z_iast hx hb hC hI (vX7_35 G) hg dX7_walkNow_14 (fun σ1 H locs e_σ1 hI => ?_)
        have h := zl_e h e_σ1
        obtain ⟨v2, e_v2⟩ : ∃ y : Int32, y = y2 + 1 := ⟨_, rfl⟩
        have h := zl_e h e_v2
        refine lv_iinc (v := v2) (lv' := [(2, .int v2), (0, .ref (za G 0)), (1, .int y1)]) hx hb dX7_walkNow_15 hl (k := 2) rfl (by rw [lc_1]; exact e_v2.symm) (by decide) rfl (fun ls hl => ?_)
        refine lv_goto (tgt := 2) hx hb dX7_walkNow_18 (by decide) ?_
        exact ih y1 v2 σ1 y2o σo h _ _ _ hI (lv_sub hl [1, 2, 0] rfl) kE
  have w_33 : ∀ (n : Nat) (y2 : Int32) (y3 : Int32) (y4 : Int32) (σ : SF) (y2o : Int32) (y3o : Int32) (y4o : Int32) (σo : SF), L_X7_walkNow_33 n y2 y3 y4 σ = some (y2o, y3o, y4o, σo) → ∀ (H : Heap) (locs : List Loc) (ls : Array Slot), zI WM G s σ H locs → lv_has ls 6 [(0, .ref (za G 0)), (2, .int y2), (3, .int y3), (4, .int y4)] → (∀ (H : Heap) (locs : List Loc) (ls : Array Slot), zI WM G s σo H locs → lv_has ls 6 [(0, .ref (za G 0)), (2, .int y2o), (3, .int y3o), (4, .int y4o)] → W p l e (zR 2) s m args below meth c H locs 0 0 Q (F0 m 147 ls [])) → W p l e (zR 2) s m args below meth c H locs 0 0 Q (F0 m 33 ls []) := by
    intro n
    induction n with
    | zero => intro y2 y3 y4 σ y2o y3o y4o σo h; cases h
    | succ n ih =>
      intro y2 y3 y4 σ y2o y3o y4o σo h H locs ls hI hl kE
      unfold L_X7_walkNow_33 at h
      refine lv_iload hx hb dX7_walkNow_33 (lv_at hl 3 rfl) ?_
      refine lv_if_eq (tgt := 147) hx hb dX7_walkNow_35 (by decide) (fun hc => ?_) (fun hc => ?_)
      · have h := zi_t hc h
        cases h
        exact kE _ _ _ hI (lv_sub hl [0, 1, 2, 3] rfl)
      · have h := zi_f hc h
        refine lv_aload_n hx hb dX7_walkNow_38 rfl (lv_at hl 0 rfl) ?_
        refine gX7_5 hx hb hC hI q_fl_X7_16 dX7_walkNow_39 ?_
        refine lv_aload_n hx hb dX7_walkNow_42 rfl (lv_at hl 0 rfl) ?_
        refine gX7_4 hx hb hC hI q_fl_X7_124 dX7_walkNow_43 ?_
        refine lv_iload_n hx hb dX7_walkNow_46 rfl (lv_at hl 1 rfl) ?_
        obtain ⟨hg, h⟩ := zg_e h
        refine z_iast hx hb hC hI (vX7_5 G) hg dX7_walkNow_47 (fun σ7 H locs e_σ7 hI => ?_)
        have h := zl_e h e_σ7
        refine lv_aload_n hx hb dX7_walkNow_48 rfl (lv_at hl 0 rfl) ?_
        refine lv_dup hx hb dX7_walkNow_49 rfl ?_
        refine gX7_4 hx hb hC hI q_fl_X7_124 dX7_walkNow_50 ?_
        refine lv_iconst (v := 1) hx hb dX7_walkNow_53 lc_1 ?_
        refine lv_iadd hx hb dX7_walkNow_54 ?_
        refine pX7_4 hx hb hC hI q_fl_X7_124 dX7_walkNow_55 (fun σ8 H locs e_σ8 hI => ?_)
        have h := zl_e h e_σ8
        refine lv_aload_n hx hb dX7_walkNow_58 rfl (lv_at hl 0 rfl) ?_
        refine gX7_35 hx hb hC hI q_fl_X7_62 dX7_walkNow_59 ?_
        refine lv_iload_n hx hb dX7_walkNow_62 rfl (lv_at hl 1 rfl) ?_
        refine lv_dup2_11 hx hb dX7_walkNow_63 rfl rfl ?_
        obtain ⟨hg, h⟩ := zg_e h
        refine z_iald hx hb hC hI (vX7_35 G) hg dX7_walkNow_64 ?_
        refine lv_iconst (v := 1) hx hb dX7_walkNow_65 lc_1 ?_
        refine lv_iadd hx hb dX7_walkNow_66 ?_
        obtain ⟨hg, h⟩ := zg_e h
        refine z_iast hx hb hC hI (vX7_35 G) hg dX7_walkNow_67 (fun σ9 H locs e_σ9 hI => ?_)
        have h := zl_e h e_σ9
        refine lv_aload_n hx hb dX7_walkNow_68 rfl (lv_at hl 0 rfl) ?_
        refine gX7_2 hx hb hC hI q_fl_X7_7 dX7_walkNow_69 ?_
        refine lv_iload_n hx hb dX7_walkNow_72 rfl (lv_at hl 1 rfl) ?_
        obtain ⟨hg, h⟩ := zg_e h
        refine z_iald hx hb hC hI (vX7_2 G) hg dX7_walkNow_73 ?_
        refine lv_iconst (v := 2) hx hb dX7_walkNow_74 lc_2 ?_
        refine lv_icmp_eq (tgt := 91) hx hb dX7_walkNow_75 (by decide) (fun hc => ?_) (fun hc => ?_)
        · have h := zi_t hc h
          refine lv_iconst (v := 0) hx hb dX7_walkNow_91 lc_0 ?_
          refine lv_istore (lv' := [(4, .int 0), (0, .ref (za G 0)), (2, .int y2), (3, .int y3)]) hx hb dX7_walkNow_92 hl (by decide) rfl (fun ls hl => ?_)
          refine lv_aload_n hx hb dX7_walkNow_94 rfl (lv_at hl 1 rfl) ?_
          refine gX7_2 hx hb hC hI q_fl_X7_7 dX7_walkNow_95 ?_
          refine lv_iload_n hx hb dX7_walkNow_98 rfl (lv_at hl 2 rfl) ?_
          obtain ⟨hg, h⟩ := zg_e h
          refine z_iald hx hb hC hI (vX7_2 G) hg dX7_walkNow_99 ?_
          refine lv_aload_n hx hb dX7_walkNow_100 rfl (lv_at hl 1 rfl) ?_
          refine gX7_35 hx hb hC hI q_fl_X7_62 dX7_walkNow_101 ?_
          refine lv_iload_n hx hb dX7_walkNow_104 rfl (lv_at hl 2 rfl) ?_
          obtain ⟨hg, h⟩ := zg_e h
          refine z_iald hx hb hC hI (vX7_35 G) hg dX7_walkNow_105 ?_
          refine lv_iload_n hx hb dX7_walkNow_106 rfl (lv_at hl 3 rfl) ?_
          refine lv_iconst (v := 1) hx hb dX7_walkNow_107 lc_1 ?_
          refine lv_iand hx hb dX7_walkNow_108 ?_
          obtain ⟨r11, h10, h⟩ := zb_e h
          refine z_cSi (As := [.int (σ9 1 (y2 : Int32).toNatClampNeg), .int (σ9 18 (y2 : Int32).toNatClampNeg), .int (y3 &&& 1)]) (rest := []) hx hb hC (hml.trans hl.1.symm) hI (c_X7_endBy l G  (σ := σ9) h10) yyX7_endBy q_ml_X7_220 ⟨Nat.le_of_ble_eq_true rfl, Nat.le_of_ble_eq_true rfl⟩ rfl rfl (Nat.le_of_ble_eq_true rfl) ⟨Nat.le_refl _, Nat.le_refl _⟩ dX7_walkNow_109 (fun H locs hI => ?_)
          refine lv_istore (lv' := [(5, .int r11), (4, .int 0), (0, .ref (za G 0)), (2, .int y2), (3, .int y3)]) hx hb dX7_walkNow_112 hl (by decide) rfl (fun ls hl => ?_)
          refine lv_aload_n hx hb dX7_walkNow_114 rfl (lv_at hl 2 rfl) ?_
          refine gX7_2 hx hb hC hI q_fl_X7_7 dX7_walkNow_115 ?_
          refine lv_iload_n hx hb dX7_walkNow_118 rfl (lv_at hl 3 rfl) ?_
          obtain ⟨hg, h⟩ := zg_e h
          refine z_iald hx hb hC hI (vX7_2 G) hg dX7_walkNow_119 ?_
          refine lv_iconst (v := 1) hx hb dX7_walkNow_120 lc_1 ?_
          refine lv_icmp_ne (tgt := 130) hx hb dX7_walkNow_121 (by decide) (fun hc => ?_) (fun hc => ?_)
          · have h := zi_f hc h
            refine lv_iload_n hx hb dX7_walkNow_130 rfl (lv_at hl 4 rfl) ?_
            refine lv_istore_n (lv' := [(3, .int y3), (5, .int r11), (4, .int 0), (0, .ref (za G 0)), (2, .int y2)]) hx hb dX7_walkNow_131 rfl hl (by decide) rfl (fun ls hl => ?_)
            refine lv_aload_n hx hb dX7_walkNow_132 rfl (lv_at hl 3 rfl) ?_
            refine gX7_3 hx hb hC hI q_fl_X7_13 dX7_walkNow_133 ?_
            refine lv_iconst (v := 2) hx hb dX7_walkNow_136 lc_2 ?_
            refine lv_iload_n hx hb dX7_walkNow_137 rfl (lv_at hl 4 rfl) ?_
            refine lv_imul hx hb dX7_walkNow_138 ?_
            refine lv_iload hx hb dX7_walkNow_139 (lv_at hl 1 rfl) ?_
            refine lv_iadd hx hb dX7_walkNow_141 ?_
            refine lv_topi (fun v12 e_v12 => ?_)
            have h := zl_e h e_v12
            obtain ⟨hg, h⟩ := zg_e h
            refine z_iald hx hb hC hI (vX7_3 G) hg dX7_walkNow_142 ?_
            refine lv_topi (fun v13 e_v13 => ?_)
            have h := zl_e h e_v13
            refine lv_istore_n (lv' := [(2, .int v13), (3, .int y3), (5, .int r11), (4, .int 0), (0, .ref (za G 0))]) hx hb dX7_walkNow_143 rfl hl (by decide) rfl (fun ls hl => ?_)
            refine lv_goto (tgt := 33) hx hb dX7_walkNow_144 (by decide) ?_
            exact ih v13 y3 0 σ9 y2o y3o y4o σo h _ _ _ hI (lv_sub hl [4, 0, 1, 3] rfl) kE
          · have h := zi_t hc h
            refine lv_iload_n hx hb dX7_walkNow_124 rfl (lv_at hl 4 rfl) ?_
            refine lv_iconst (v := 1) hx hb dX7_walkNow_125 lc_1 ?_
            refine lv_ishr hx hb dX7_walkNow_126 ?_
            refine lv_goto (tgt := 131) hx hb dX7_walkNow_127 (by decide) ?_
            refine lv_topi (fun v14 e_v14 => ?_)
            have h := zl_e h e_v14
            refine lv_istore_n (lv' := [(3, .int v14), (5, .int r11), (4, .int 0), (0, .ref (za G 0)), (2, .int y2)]) hx hb dX7_walkNow_131 rfl hl (by decide) rfl (fun ls hl => ?_)
            refine lv_aload_n hx hb dX7_walkNow_132 rfl (lv_at hl 3 rfl) ?_
            refine gX7_3 hx hb hC hI q_fl_X7_13 dX7_walkNow_133 ?_
            refine lv_iconst (v := 2) hx hb dX7_walkNow_136 lc_2 ?_
            refine lv_iload_n hx hb dX7_walkNow_137 rfl (lv_at hl 4 rfl) ?_
            refine lv_imul hx hb dX7_walkNow_138 ?_
            refine lv_iload hx hb dX7_walkNow_139 (lv_at hl 1 rfl) ?_
            refine lv_iadd hx hb dX7_walkNow_141 ?_
            refine lv_topi (fun v15 e_v15 => ?_)
            have h := zl_e h e_v15
            obtain ⟨hg, h⟩ := zg_e h
            refine z_iald hx hb hC hI (vX7_3 G) hg dX7_walkNow_142 ?_
            refine lv_topi (fun v16 e_v16 => ?_)
            have h := zl_e h e_v16
            refine lv_istore_n (lv' := [(2, .int v16), (3, .int v14), (5, .int r11), (4, .int 0), (0, .ref (za G 0))]) hx hb dX7_walkNow_143 rfl hl (by decide) rfl (fun ls hl => ?_)
            refine lv_goto (tgt := 33) hx hb dX7_walkNow_144 (by decide) ?_
            exact ih v16 v14 0 σ9 y2o y3o y4o σo h _ _ _ hI (lv_sub hl [4, 0, 1, 3] rfl) kE
        · have h := zi_f hc h
          refine lv_aload_n hx hb dX7_walkNow_78 rfl (lv_at hl 0 rfl) ?_
          refine gX7_4 hx hb hC hI q_fl_X7_124 dX7_walkNow_79 ?_
          refine lv_bipush (v := 30) hx hb dX7_walkNow_82 lb_30 ?_
          refine lv_icmp_ge (tgt := 91) hx hb dX7_walkNow_84 (by decide) (fun hc => ?_) (fun hc => ?_)
          · have h := zi_t hc h
            refine lv_iconst (v := 0) hx hb dX7_walkNow_91 lc_0 ?_
            refine lv_istore (lv' := [(4, .int 0), (0, .ref (za G 0)), (2, .int y2), (3, .int y3)]) hx hb dX7_walkNow_92 hl (by decide) rfl (fun ls hl => ?_)
            refine lv_aload_n hx hb dX7_walkNow_94 rfl (lv_at hl 1 rfl) ?_
            refine gX7_2 hx hb hC hI q_fl_X7_7 dX7_walkNow_95 ?_
            refine lv_iload_n hx hb dX7_walkNow_98 rfl (lv_at hl 2 rfl) ?_
            obtain ⟨hg, h⟩ := zg_e h
            refine z_iald hx hb hC hI (vX7_2 G) hg dX7_walkNow_99 ?_
            refine lv_aload_n hx hb dX7_walkNow_100 rfl (lv_at hl 1 rfl) ?_
            refine gX7_35 hx hb hC hI q_fl_X7_62 dX7_walkNow_101 ?_
            refine lv_iload_n hx hb dX7_walkNow_104 rfl (lv_at hl 2 rfl) ?_
            obtain ⟨hg, h⟩ := zg_e h
            refine z_iald hx hb hC hI (vX7_35 G) hg dX7_walkNow_105 ?_
            refine lv_iload_n hx hb dX7_walkNow_106 rfl (lv_at hl 3 rfl) ?_
            refine lv_iconst (v := 1) hx hb dX7_walkNow_107 lc_1 ?_
            refine lv_iand hx hb dX7_walkNow_108 ?_
            obtain ⟨r18, h17, h⟩ := zb_e h
            refine z_cSi (As := [.int (σ9 1 (y2 : Int32).toNatClampNeg), .int (σ9 18 (y2 : Int32).toNatClampNeg), .int (y3 &&& 1)]) (rest := []) hx hb hC (hml.trans hl.1.symm) hI (c_X7_endBy l G  (σ := σ9) h17) yyX7_endBy q_ml_X7_220 ⟨Nat.le_of_ble_eq_true rfl, Nat.le_of_ble_eq_true rfl⟩ rfl rfl (Nat.le_of_ble_eq_true rfl) ⟨Nat.le_refl _, Nat.le_refl _⟩ dX7_walkNow_109 (fun H locs hI => ?_)
            refine lv_istore (lv' := [(5, .int r18), (4, .int 0), (0, .ref (za G 0)), (2, .int y2), (3, .int y3)]) hx hb dX7_walkNow_112 hl (by decide) rfl (fun ls hl => ?_)
            refine lv_aload_n hx hb dX7_walkNow_114 rfl (lv_at hl 2 rfl) ?_
            refine gX7_2 hx hb hC hI q_fl_X7_7 dX7_walkNow_115 ?_
            refine lv_iload_n hx hb dX7_walkNow_118 rfl (lv_at hl 3 rfl) ?_
            obtain ⟨hg, h⟩ := zg_e h
            refine z_iald hx hb hC hI (vX7_2 G) hg dX7_walkNow_119 ?_
            refine lv_iconst (v := 1) hx hb dX7_walkNow_120 lc_1 ?_
            refine lv_icmp_ne (tgt := 130) hx hb dX7_walkNow_121 (by decide) (fun hc => ?_) (fun hc => ?_)
            · have h := zi_f hc h
              refine lv_iload_n hx hb dX7_walkNow_130 rfl (lv_at hl 4 rfl) ?_
              refine lv_istore_n (lv' := [(3, .int y3), (5, .int r18), (4, .int 0), (0, .ref (za G 0)), (2, .int y2)]) hx hb dX7_walkNow_131 rfl hl (by decide) rfl (fun ls hl => ?_)
              refine lv_aload_n hx hb dX7_walkNow_132 rfl (lv_at hl 3 rfl) ?_
              refine gX7_3 hx hb hC hI q_fl_X7_13 dX7_walkNow_133 ?_
              refine lv_iconst (v := 2) hx hb dX7_walkNow_136 lc_2 ?_
              refine lv_iload_n hx hb dX7_walkNow_137 rfl (lv_at hl 4 rfl) ?_
              refine lv_imul hx hb dX7_walkNow_138 ?_
              refine lv_iload hx hb dX7_walkNow_139 (lv_at hl 1 rfl) ?_
              refine lv_iadd hx hb dX7_walkNow_141 ?_
              refine lv_topi (fun v19 e_v19 => ?_)
              have h := zl_e h e_v19
              obtain ⟨hg, h⟩ := zg_e h
              refine z_iald hx hb hC hI (vX7_3 G) hg dX7_walkNow_142 ?_
              refine lv_topi (fun v20 e_v20 => ?_)
              have h := zl_e h e_v20
              refine lv_istore_n (lv' := [(2, .int v20), (3, .int y3), (5, .int r18), (4, .int 0), (0, .ref (za G 0))]) hx hb dX7_walkNow_143 rfl hl (by decide) rfl (fun ls hl => ?_)
              refine lv_goto (tgt := 33) hx hb dX7_walkNow_144 (by decide) ?_
              exact ih v20 y3 0 σ9 y2o y3o y4o σo h _ _ _ hI (lv_sub hl [4, 0, 1, 3] rfl) kE
            · have h := zi_t hc h
              refine lv_iload_n hx hb dX7_walkNow_124 rfl (lv_at hl 4 rfl) ?_
              refine lv_iconst (v := 1) hx hb dX7_walkNow_125 lc_1 ?_
              refine lv_ishr hx hb dX7_walkNow_126 ?_
              refine lv_goto (tgt := 131) hx hb dX7_walkNow_127 (by decide) ?_
              refine lv_topi (fun v21 e_v21 => ?_)
              have h := zl_e h e_v21
              refine lv_istore_n (lv' := [(3, .int v21), (5, .int r18), (4, .int 0), (0, .ref (za G 0)), (2, .int y2)]) hx hb dX7_walkNow_131 rfl hl (by decide) rfl (fun ls hl => ?_)
              refine lv_aload_n hx hb dX7_walkNow_132 rfl (lv_at hl 3 rfl) ?_
              refine gX7_3 hx hb hC hI q_fl_X7_13 dX7_walkNow_133 ?_
              refine lv_iconst (v := 2) hx hb dX7_walkNow_136 lc_2 ?_
              refine lv_iload_n hx hb dX7_walkNow_137 rfl (lv_at hl 4 rfl) ?_
              refine lv_imul hx hb dX7_walkNow_138 ?_
              refine lv_iload hx hb dX7_walkNow_139 (lv_at hl 1 rfl) ?_
              refine lv_iadd hx hb dX7_walkNow_141 ?_
              refine lv_topi (fun v22 e_v22 => ?_)
              have h := zl_e h e_v22
              obtain ⟨hg, h⟩ := zg_e h
              refine z_iald hx hb hC hI (vX7_3 G) hg dX7_walkNow_142 ?_
              refine lv_topi (fun v23 e_v23 => ?_)
              have h := zl_e h e_v23
              refine lv_istore_n (lv' := [(2, .int v23), (3, .int v21), (5, .int r18), (4, .int 0), (0, .ref (za G 0))]) hx hb dX7_walkNow_143 rfl hl (by decide) rfl (fun ls hl => ?_)
              refine lv_goto (tgt := 33) hx hb dX7_walkNow_144 (by decide) ?_
              exact ih v23 v21 0 σ9 y2o y3o y4o σo h _ _ _ hI (lv_sub hl [4, 0, 1, 3] rfl) kE
          · have h := zi_f hc h
            refine lv_iconst (v := 1) hx hb dX7_walkNow_87 lc_1 ?_
            refine lv_goto (tgt := 92) hx hb dX7_walkNow_88 (by decide) ?_
            refine lv_istore (lv' := [(4, .int 1), (0, .ref (za G 0)), (2, .int y2), (3, .int y3)]) hx hb dX7_walkNow_92 hl (by decide) rfl (fun ls hl => ?_)
            refine lv_aload_n hx hb dX7_walkNow_94 rfl (lv_at hl 1 rfl) ?_
            refine gX7_2 hx hb hC hI q_fl_X7_7 dX7_walkNow_95 ?_
            refine lv_iload_n hx hb dX7_walkNow_98 rfl (lv_at hl 2 rfl) ?_
            obtain ⟨hg, h⟩ := zg_e h
            refine z_iald hx hb hC hI (vX7_2 G) hg dX7_walkNow_99 ?_
            refine lv_aload_n hx hb dX7_walkNow_100 rfl (lv_at hl 1 rfl) ?_
            refine gX7_35 hx hb hC hI q_fl_X7_62 dX7_walkNow_101 ?_
            refine lv_iload_n hx hb dX7_walkNow_104 rfl (lv_at hl 2 rfl) ?_
            obtain ⟨hg, h⟩ := zg_e h
            refine z_iald hx hb hC hI (vX7_35 G) hg dX7_walkNow_105 ?_
            refine lv_iload_n hx hb dX7_walkNow_106 rfl (lv_at hl 3 rfl) ?_
            refine lv_iconst (v := 1) hx hb dX7_walkNow_107 lc_1 ?_
            refine lv_iand hx hb dX7_walkNow_108 ?_
            obtain ⟨r25, h24, h⟩ := zb_e h
            refine z_cSi (As := [.int (σ9 1 (y2 : Int32).toNatClampNeg), .int (σ9 18 (y2 : Int32).toNatClampNeg), .int (y3 &&& 1)]) (rest := []) hx hb hC (hml.trans hl.1.symm) hI (c_X7_endBy l G  (σ := σ9) h24) yyX7_endBy q_ml_X7_220 ⟨Nat.le_of_ble_eq_true rfl, Nat.le_of_ble_eq_true rfl⟩ rfl rfl (Nat.le_of_ble_eq_true rfl) ⟨Nat.le_refl _, Nat.le_refl _⟩ dX7_walkNow_109 (fun H locs hI => ?_)
            refine lv_istore (lv' := [(5, .int r25), (4, .int 1), (0, .ref (za G 0)), (2, .int y2), (3, .int y3)]) hx hb dX7_walkNow_112 hl (by decide) rfl (fun ls hl => ?_)
            refine lv_aload_n hx hb dX7_walkNow_114 rfl (lv_at hl 2 rfl) ?_
            refine gX7_2 hx hb hC hI q_fl_X7_7 dX7_walkNow_115 ?_
            refine lv_iload_n hx hb dX7_walkNow_118 rfl (lv_at hl 3 rfl) ?_
            obtain ⟨hg, h⟩ := zg_e h
            refine z_iald hx hb hC hI (vX7_2 G) hg dX7_walkNow_119 ?_
            refine lv_iconst (v := 1) hx hb dX7_walkNow_120 lc_1 ?_
            refine lv_icmp_ne (tgt := 130) hx hb dX7_walkNow_121 (by decide) (fun hc => ?_) (fun hc => ?_)
            · have h := zi_f hc h
              refine lv_iload_n hx hb dX7_walkNow_130 rfl (lv_at hl 4 rfl) ?_
              refine lv_istore_n (lv' := [(3, .int y3), (5, .int r25), (4, .int 1), (0, .ref (za G 0)), (2, .int y2)]) hx hb dX7_walkNow_131 rfl hl (by decide) rfl (fun ls hl => ?_)
              refine lv_aload_n hx hb dX7_walkNow_132 rfl (lv_at hl 3 rfl) ?_
              refine gX7_3 hx hb hC hI q_fl_X7_13 dX7_walkNow_133 ?_
              refine lv_iconst (v := 2) hx hb dX7_walkNow_136 lc_2 ?_
              refine lv_iload_n hx hb dX7_walkNow_137 rfl (lv_at hl 4 rfl) ?_
              refine lv_imul hx hb dX7_walkNow_138 ?_
              refine lv_iload hx hb dX7_walkNow_139 (lv_at hl 1 rfl) ?_
              refine lv_iadd hx hb dX7_walkNow_141 ?_
              refine lv_topi (fun v26 e_v26 => ?_)
              have h := zl_e h e_v26
              obtain ⟨hg, h⟩ := zg_e h
              refine z_iald hx hb hC hI (vX7_3 G) hg dX7_walkNow_142 ?_
              refine lv_topi (fun v27 e_v27 => ?_)
              have h := zl_e h e_v27
              refine lv_istore_n (lv' := [(2, .int v27), (3, .int y3), (5, .int r25), (4, .int 1), (0, .ref (za G 0))]) hx hb dX7_walkNow_143 rfl hl (by decide) rfl (fun ls hl => ?_)
              refine lv_goto (tgt := 33) hx hb dX7_walkNow_144 (by decide) ?_
              exact ih v27 y3 1 σ9 y2o y3o y4o σo h _ _ _ hI (lv_sub hl [4, 0, 1, 3] rfl) kE
            · have h := zi_t hc h
              refine lv_iload_n hx hb dX7_walkNow_124 rfl (lv_at hl 4 rfl) ?_
              refine lv_iconst (v := 1) hx hb dX7_walkNow_125 lc_1 ?_
              refine lv_ishr hx hb dX7_walkNow_126 ?_
              refine lv_goto (tgt := 131) hx hb dX7_walkNow_127 (by decide) ?_
              refine lv_topi (fun v28 e_v28 => ?_)
              have h := zl_e h e_v28
              refine lv_istore_n (lv' := [(3, .int v28), (5, .int r25), (4, .int 1), (0, .ref (za G 0)), (2, .int y2)]) hx hb dX7_walkNow_131 rfl hl (by decide) rfl (fun ls hl => ?_)
              refine lv_aload_n hx hb dX7_walkNow_132 rfl (lv_at hl 3 rfl) ?_
              refine gX7_3 hx hb hC hI q_fl_X7_13 dX7_walkNow_133 ?_
              refine lv_iconst (v := 2) hx hb dX7_walkNow_136 lc_2 ?_
              refine lv_iload_n hx hb dX7_walkNow_137 rfl (lv_at hl 4 rfl) ?_
              refine lv_imul hx hb dX7_walkNow_138 ?_
              refine lv_iload hx hb dX7_walkNow_139 (lv_at hl 1 rfl) ?_
              refine lv_iadd hx hb dX7_walkNow_141 ?_
              refine lv_topi (fun v29 e_v29 => ?_)
              have h := zl_e h e_v29
              obtain ⟨hg, h⟩ := zg_e h
              refine z_iald hx hb hC hI (vX7_3 G) hg dX7_walkNow_142 ?_
              refine lv_topi (fun v30 e_v30 => ?_)
              have h := zl_e h e_v30
              refine lv_istore_n (lv' := [(2, .int v30), (3, .int v28), (5, .int r25), (4, .int 1), (0, .ref (za G 0))]) hx hb dX7_walkNow_143 rfl hl (by decide) rfl (fun ls hl => ?_)
              refine lv_goto (tgt := 33) hx hb dX7_walkNow_144 (by decide) ?_
              exact ih v30 v28 1 σ9 y2o y3o y4o σo h _ _ _ hI (lv_sub hl [4, 0, 1, 3] rfl) kE
  unfold F_X7_walkNow at h
  refine lv_iconst (v := 0) hx hb dX7_walkNow_0 lc_0 ?_
  refine lv_istore_n (lv' := [(2, .int 0), (0, .ref (za G 0)), (1, .int x1)]) hx hb dX7_walkNow_1 rfl hl (by decide) rfl (fun ls hl => ?_)
  obtain ⟨v3, σ4, h5, h⟩ := zb2_e h
  refine w_2 100 x1 0 σ v3 σ4 h5 _ _ _ hI (lv_sub hl [1, 2, 0] rfl) (fun H locs ls hI hl => ?_)
  refine lv_aload_n hx hb dX7_walkNow_21 rfl (lv_at hl 0 rfl) ?_
  refine lv_iconst (v := 0) hx hb dX7_walkNow_22 lc_0 ?_
  refine pX7_4 hx hb hC hI q_fl_X7_124 dX7_walkNow_23 (fun σ6 H locs e_σ6 hI => ?_)
  have h := zl_e h e_σ6
  refine lv_iconst (v := 0) hx hb dX7_walkNow_26 lc_0 ?_
  refine lv_istore_n (lv' := [(2, .int 0), (0, .ref (za G 0)), (1, .int x1)]) hx hb dX7_walkNow_27 rfl hl (by decide) rfl (fun ls hl => ?_)
  refine lv_iload_n hx hb dX7_walkNow_28 rfl (lv_at hl 2 rfl) ?_
  refine lv_istore_n (lv' := [(3, .int x1), (2, .int 0), (0, .ref (za G 0)), (1, .int x1)]) hx hb dX7_walkNow_29 rfl hl (by decide) rfl (fun ls hl => ?_)
  refine lv_iconst (v := 1) hx hb dX7_walkNow_30 lc_1 ?_
  refine lv_istore (lv' := [(4, .int 1), (3, .int x1), (2, .int 0), (0, .ref (za G 0)), (1, .int x1)]) hx hb dX7_walkNow_31 hl (by decide) rfl (fun ls hl => ?_)
  obtain ⟨v31, v32, v33, σ34, h35, h⟩ := zb4_e h
  refine w_33 100 0 x1 1 σ6 v31 v32 v33 σ34 h35 _ _ _ hI (lv_sub hl [3, 2, 1, 0] rfl) (fun H locs ls hI hl => ?_)
  refine lv_aload_n hx hb dX7_walkNow_147 rfl (lv_at hl 0 rfl) ?_
  refine gX7_4 hx hb hC hI q_fl_X7_124 dX7_walkNow_148 ?_
  exact hret ⟨congrArg Prod.fst (Option.some.inj h), congrArg Prod.snd (Option.some.inj h)⟩ hI rfl dX7_walkNow_151
set_option maxRecDepth 100000 in
set_option maxHeartbeats 4000000 in
theorem c_X7_walk (l : Launch) (G : zG)  {σ σ' : SF} {r : Int32} {x1 : Int32} (h : F_X7_walk σ  x1 = some (r, σ')) : zMi l WM G yX7_walk cX7_walk 2 .int 3 [.ref (za G 0), .int x1] σ r σ' := by
  refine zMi_of (by decide) (Nat.le_of_ble_eq_true rfl) (fun p e s m args below meth c ls Q hx hb hr hlk hml hC hI hl hret => ?_)
  have hl : lv_has ls 2 [(0, .ref (za G 0)), (1, .int x1)] := hl
  have hC : zC WM G RX7 args s m := hC
  unfold F_X7_walk at h
  refine lv_iload_n hx hb dX7_walk_0 rfl (lv_at hl 1 rfl) ?_
  refine lv_if_ge (tgt := 7) hx hb dX7_walk_1 (by decide) (fun hc => ?_) (fun hc => ?_)
  · have h := zi_t hc h
    refine lv_aload_n hx hb dX7_walk_7 rfl (lv_at hl 0 rfl) ?_
    refine gX7_1 hx hb hC hI q_fl_X7_121 dX7_walk_8 ?_
    refine lv_if_ne (tgt := 19) hx hb dX7_walk_11 (by decide) (fun hc => ?_) (fun hc => ?_)
    · have h := zi_f hc h
      refine lv_aload_n hx hb dX7_walk_19 rfl (lv_at hl 0 rfl) ?_
      refine lv_iload_n hx hb dX7_walk_20 rfl (lv_at hl 1 rfl) ?_
      obtain ⟨r3, σ2, h1, h⟩ := zb2_e h
      refine z_cVi (As := [.int x1]) (rest := []) hx hb hC (hml.trans hl.1.symm) hI (c_X7_walkNow l G  h1) yyX7_walkNow q_ml_X7_224 (oX7 G) rfl ⟨Nat.le_of_ble_eq_true rfl, Nat.le_of_ble_eq_true rfl⟩ rfl rfl (Nat.le_of_ble_eq_true rfl) ⟨Nat.le_refl _, Nat.le_refl _⟩ dX7_walk_21 (fun H locs hI => ?_)
      exact hret ⟨congrArg Prod.fst (Option.some.inj h), congrArg Prod.snd (Option.some.inj h)⟩ hI rfl dX7_walk_24
    · have h := zi_t hc h
      refine lv_bipush (v := (-103)) hx hb dX7_walk_14 lb_m103 ?_
      refine lv_goto (tgt := 24) hx hb dX7_walk_16 (by decide) ?_
      exact hret ⟨congrArg Prod.fst (Option.some.inj h), congrArg Prod.snd (Option.some.inj h)⟩ hI rfl dX7_walk_24
  · have h := zi_f hc h
    refine lv_bipush (v := (-102)) hx hb dX7_walk_4 lb_m102 ?_
    exact hret ⟨congrArg Prod.fst (Option.some.inj h), congrArg Prod.snd (Option.some.inj h)⟩ hI rfl dX7_walk_6
set_option maxRecDepth 100000 in
set_option maxHeartbeats 4000000 in
theorem c_X7_visit (l : Launch) (G : zG)  {σ : SF} {r : Int32} {x1 : Int32} (h : F_X7_visit σ  x1 = some r) : zMi l WM G yX7_visit cX7_visit 2 .int 2 [.ref (za G 0), .int x1] σ r σ := by
  refine zMi_of (by decide) (Nat.le_of_ble_eq_true rfl) (fun p e s m args below meth c ls Q hx hb hr hlk hml hC hI hl hret => ?_)
  have hl : lv_has ls 2 [(0, .ref (za G 0)), (1, .int x1)] := hl
  have hC : zC WM G RX7 args s m := hC
  unfold F_X7_visit at h
  refine lv_iload_n hx hb dX7_visit_0 rfl (lv_at hl 1 rfl) ?_
  refine lv_iconst (v := 0) hx hb dX7_visit_1 lc_0 ?_
  refine lv_aload_n hx hb dX7_visit_2 rfl (lv_at hl 0 rfl) ?_
  refine gX7_4 hx hb hC hI q_fl_X7_124 dX7_visit_3 ?_
  refine lv_iconst (v := 1) hx hb dX7_visit_6 lc_1 ?_
  refine lv_isub hx hb dX7_visit_7 ?_
  obtain ⟨r2, h1, h⟩ := zb_e h
  refine z_cSi (As := [.int x1, .int 0, .int ((σ 0 4) - 1)]) (rest := []) hx hb hC (hml.trans hl.1.symm) hI (c_X7_within l G  (σ := σ) h1) yyX7_within q_ml_X7_89 ⟨Nat.le_of_ble_eq_true rfl, Nat.le_of_ble_eq_true rfl⟩ rfl rfl (Nat.le_of_ble_eq_true rfl) ⟨Nat.le_refl _, Nat.le_refl _⟩ dX7_visit_8 (fun H locs hI => ?_)
  refine lv_if_eq (tgt := 23) hx hb dX7_visit_11 (by decide) (fun hc => ?_) (fun hc => ?_)
  · have h := zi_t hc h
    refine lv_bipush (v := (-101)) hx hb dX7_visit_23 lb_m101 ?_
    exact hret ⟨(Option.some.inj h), rfl⟩ hI rfl dX7_visit_25
  · have h := zi_f hc h
    refine lv_aload_n hx hb dX7_visit_14 rfl (lv_at hl 0 rfl) ?_
    refine gX7_5 hx hb hC hI q_fl_X7_16 dX7_visit_15 ?_
    refine lv_iload_n hx hb dX7_visit_18 rfl (lv_at hl 1 rfl) ?_
    obtain ⟨hg, h⟩ := zg_e h
    refine z_iald hx hb hC hI (vX7_5 G) hg dX7_visit_19 ?_
    refine lv_goto (tgt := 25) hx hb dX7_visit_20 (by decide) ?_
    exact hret ⟨(Option.some.inj h), rfl⟩ hI rfl dX7_visit_25
set_option maxRecDepth 100000 in
set_option maxHeartbeats 4000000 in
theorem c_X7_tell (l : Launch) (G : zG)  {σ σ' : SF} {x1 : Int32} (h : F_X7_tell σ  x1 = some σ') : zMv l WM G yX7_tell cX7_tell 2 1 [.ref (za G 0), .int x1] σ σ' := by
  refine zMv_of (by decide) (Nat.le_of_ble_eq_true rfl) (fun p e s m args below meth c ls Q hx hb hr hlk hml hC hI hl hret => ?_)
  have hl : lv_has ls 2 [(0, .ref (za G 0)), (1, .int x1)] := hl
  have hC : zC WM G RX7 args s m := hC
  unfold F_X7_tell at h
  refine lv_aload_n hx hb dX7_tell_0 rfl (lv_at hl 0 rfl) ?_
  refine gX7_40 hx hb hC hI q_fl_X7_65 dX7_tell_1 ?_
  refine lv_aload_n hx hb dX7_tell_4 rfl (lv_at hl 0 rfl) ?_
  refine gX7_36 hx hb hC hI q_fl_X7_227 dX7_tell_5 ?_
  refine lv_iload_n hx hb dX7_tell_8 rfl (lv_at hl 1 rfl) ?_
  obtain ⟨hg, h⟩ := zg_e h
  refine z_iast hx hb hC hI (vX7_40 G) hg dX7_tell_9 (fun σ1 H locs e_σ1 hI => ?_)
  have h := zl_e h e_σ1
  refine lv_aload_n hx hb dX7_tell_10 rfl (lv_at hl 0 rfl) ?_
  refine lv_dup hx hb dX7_tell_11 rfl ?_
  refine gX7_36 hx hb hC hI q_fl_X7_227 dX7_tell_12 ?_
  refine lv_iconst (v := 1) hx hb dX7_tell_15 lc_1 ?_
  refine lv_iadd hx hb dX7_tell_16 ?_
  refine pX7_36 hx hb hC hI q_fl_X7_227 dX7_tell_17 (fun σ2 H locs e_σ2 hI => ?_)
  have h := zl_e h e_σ2
  exact hret (Option.some.inj h) hI dX7_tell_20
set_option maxRecDepth 100000 in
set_option maxHeartbeats 4000000 in
theorem c_X7_later (l : Launch) (G : zG)  {σ σ' : SF} {x1 : Int32} (h : F_X7_later σ  x1 = some σ') : zMv l WM G yX7_later cX7_later 2 1 [.ref (za G 0), .int x1] σ σ' := by
  refine zMv_of (by decide) (Nat.le_of_ble_eq_true rfl) (fun p e s m args below meth c ls Q hx hb hr hlk hml hC hI hl hret => ?_)
  have hl : lv_has ls 2 [(0, .ref (za G 0)), (1, .int x1)] := hl
  have hC : zC WM G RX7 args s m := hC
  unfold F_X7_later at h
  refine lv_aload_n hx hb dX7_later_0 rfl (lv_at hl 0 rfl) ?_
  refine gX7_42 hx hb hC hI q_fl_X7_68 dX7_later_1 ?_
  refine lv_aload_n hx hb dX7_later_4 rfl (lv_at hl 0 rfl) ?_
  refine gX7_41 hx hb hC hI q_fl_X7_230 dX7_later_5 ?_
  refine lv_iload_n hx hb dX7_later_8 rfl (lv_at hl 1 rfl) ?_
  obtain ⟨hg, h⟩ := zg_e h
  refine z_iast hx hb hC hI (vX7_42 G) hg dX7_later_9 (fun σ1 H locs e_σ1 hI => ?_)
  have h := zl_e h e_σ1
  refine lv_aload_n hx hb dX7_later_10 rfl (lv_at hl 0 rfl) ?_
  refine lv_dup hx hb dX7_later_11 rfl ?_
  refine gX7_41 hx hb hC hI q_fl_X7_230 dX7_later_12 ?_
  refine lv_iconst (v := 1) hx hb dX7_later_15 lc_1 ?_
  refine lv_iadd hx hb dX7_later_16 ?_
  refine pX7_41 hx hb hC hI q_fl_X7_230 dX7_later_17 (fun σ2 H locs e_σ2 hI => ?_)
  have h := zl_e h e_σ2
  exact hret (Option.some.inj h) hI dX7_later_20
set_option maxRecDepth 100000 in
set_option maxHeartbeats 4000000 in
theorem c_X7_opens (l : Launch) (G : zG)  {σ σ' : SF} {x1 : Int32} (h : F_X7_opens σ  x1 = some σ') : zMv l WM G yX7_opens cX7_opens 2 1 [.ref (za G 0), .int x1] σ σ' := by
  refine zMv_of (by decide) (Nat.le_of_ble_eq_true rfl) (fun p e s m args below meth c ls Q hx hb hr hlk hml hC hI hl hret => ?_)
  have hl : lv_has ls 2 [(0, .ref (za G 0)), (1, .int x1)] := hl
  have hC : zC WM G RX7 args s m := hC
  unfold F_X7_opens at h
  refine lv_aload_n hx hb dX7_opens_0 rfl (lv_at hl 0 rfl) ?_
  refine gX7_44 hx hb hC hI q_fl_X7_71 dX7_opens_1 ?_
  refine lv_aload_n hx hb dX7_opens_4 rfl (lv_at hl 0 rfl) ?_
  refine gX7_43 hx hb hC hI q_fl_X7_233 dX7_opens_5 ?_
  refine lv_iload_n hx hb dX7_opens_8 rfl (lv_at hl 1 rfl) ?_
  obtain ⟨hg, h⟩ := zg_e h
  refine z_iast hx hb hC hI (vX7_44 G) hg dX7_opens_9 (fun σ1 H locs e_σ1 hI => ?_)
  have h := zl_e h e_σ1
  refine lv_aload_n hx hb dX7_opens_10 rfl (lv_at hl 0 rfl) ?_
  refine lv_dup hx hb dX7_opens_11 rfl ?_
  refine gX7_43 hx hb hC hI q_fl_X7_233 dX7_opens_12 ?_
  refine lv_iconst (v := 1) hx hb dX7_opens_15 lc_1 ?_
  refine lv_iadd hx hb dX7_opens_16 ?_
  refine pX7_43 hx hb hC hI q_fl_X7_233 dX7_opens_17 (fun σ2 H locs e_σ2 hI => ?_)
  have h := zl_e h e_σ2
  refine lv_aload_n hx hb dX7_opens_20 rfl (lv_at hl 0 rfl) ?_
  refine lv_aload_n hx hb dX7_opens_21 rfl (lv_at hl 0 rfl) ?_
  refine gX7_43 hx hb hC hI q_fl_X7_233 dX7_opens_22 ?_
  refine lv_aload_n hx hb dX7_opens_25 rfl (lv_at hl 0 rfl) ?_
  refine gX7_39 hx hb hC hI q_fl_X7_236 dX7_opens_26 ?_
  refine lv_icmp_le (tgt := 39) hx hb dX7_opens_29 (by decide) (fun hc => ?_) (fun hc => ?_)
  · have h := zi_t hc h
    refine lv_aload_n hx hb dX7_opens_39 rfl (lv_at hl 0 rfl) ?_
    refine gX7_39 hx hb hC hI q_fl_X7_236 dX7_opens_40 ?_
    refine pX7_39 hx hb hC hI q_fl_X7_236 dX7_opens_43 (fun σ3 H locs e_σ3 hI => ?_)
    have h := zl_e h e_σ3
    exact hret (Option.some.inj h) hI dX7_opens_46
  · have h := zi_f hc h
    refine lv_aload_n hx hb dX7_opens_32 rfl (lv_at hl 0 rfl) ?_
    refine gX7_43 hx hb hC hI q_fl_X7_233 dX7_opens_33 ?_
    refine lv_goto (tgt := 43) hx hb dX7_opens_36 (by decide) ?_
    refine pX7_39 hx hb hC hI q_fl_X7_236 dX7_opens_43 (fun σ4 H locs e_σ4 hI => ?_)
    have h := zl_e h e_σ4
    exact hret (Option.some.inj h) hI dX7_opens_46
set_option maxRecDepth 100000 in
set_option maxHeartbeats 4000000 in
theorem c_X7_depthOf (l : Launch) (G : zG)  {σ : SF} {r : Int32} {x1 : Int32} (h : F_X7_depthOf σ  x1 = some r) : zMi l WM G yX7_depthOf cX7_depthOf 3 .int 1 [.ref (za G 0), .int x1] σ r σ := by
  refine zMi_of (by decide) (Nat.le_of_ble_eq_true rfl) (fun p e s m args below meth c ls Q hx hb hr hlk hml hC hI hl hret => ?_)
  have hl : lv_has ls 3 [(0, .ref (za G 0)), (1, .int x1)] := hl
  have hC : zC WM G RX7 args s m := hC
  have w_7 : ∀ (n : Nat) (y1 : Int32) (y2 : Int32) (y2o : Int32), L_X7_depthOf_7 σ y1 n y2 = some y2o → ∀ (H : Heap) (locs : List Loc) (ls : Array Slot), zI WM G s σ H locs → lv_has ls 3 [(0, .ref (za G 0)), (1, .int y1), (2, .int y2)] → (∀ (H : Heap) (locs : List Loc) (ls : Array Slot), zI WM G s σ H locs → lv_has ls 3 [(0, .ref (za G 0)), (1, .int y1), (2, .int y2o)] → W p l e (zR 1) s m args below meth c H locs 0 0 Q (F0 m 23 ls [])) → W p l e (zR 1) s m args below meth c H locs 0 0 Q (F0 m 7 ls []) := by
    intro n
    induction n with
    | zero => intro y1 y2 y2o h; cases h
    | succ n ih =>
      intro y1 y2 y2o h H locs ls hI hl kE
      unfold L_X7_depthOf_7 at h
      refine lv_aload_n hx hb dX7_depthOf_7 rfl (lv_at hl 0 rfl) ?_
      refine gX7_44 hx hb hC hI q_fl_X7_71 dX7_depthOf_8 ?_
      refine lv_iload_n hx hb dX7_depthOf_11 rfl (lv_at hl 2 rfl) ?_
      obtain ⟨hg, h⟩ := zg_e h
      refine z_iald hx hb hC hI (vX7_44 G) hg dX7_depthOf_12 ?_
      refine lv_iload_n hx hb dX7_depthOf_13 rfl (lv_at hl 1 rfl) ?_
      refine lv_icmp_eq (tgt := 23) hx hb dX7_depthOf_14 (by decide) (fun hc => ?_) (fun hc => ?_)
      · have h := zi_t hc h
        cases h
        exact kE _ _ _ hI (lv_sub hl [0, 1, 2] rfl)
      · have h := zi_f hc h
        obtain ⟨v2, e_v2⟩ : ∃ y : Int32, y = y2 + (-1) := ⟨_, rfl⟩
        have h := zl_e h e_v2
        refine lv_iinc (v := v2) (lv' := [(2, .int v2), (0, .ref (za G 0)), (1, .int y1)]) hx hb dX7_depthOf_17 hl (k := 2) rfl (by rw [lc_m1]; exact e_v2.symm) (by decide) rfl (fun ls hl => ?_)
        refine lv_goto (tgt := 7) hx hb dX7_depthOf_20 (by decide) ?_
        exact ih y1 v2 y2o h _ _ _ hI (lv_sub hl [1, 2, 0] rfl) kE
  unfold F_X7_depthOf at h
  refine lv_aload_n hx hb dX7_depthOf_0 rfl (lv_at hl 0 rfl) ?_
  refine gX7_43 hx hb hC hI q_fl_X7_233 dX7_depthOf_1 ?_
  refine lv_iconst (v := 1) hx hb dX7_depthOf_4 lc_1 ?_
  refine lv_isub hx hb dX7_depthOf_5 ?_
  refine lv_topi (fun v1 e_v1 => ?_)
  have h := zl_e h e_v1
  refine lv_istore_n (lv' := [(2, .int v1), (0, .ref (za G 0)), (1, .int x1)]) hx hb dX7_depthOf_6 rfl hl (by decide) rfl (fun ls hl => ?_)
  obtain ⟨v3, h4, h⟩ := zb_e h
  refine w_7 100 x1 v1 v3 h4 _ _ _ hI (lv_sub hl [1, 2, 0] rfl) (fun H locs ls hI hl => ?_)
  refine lv_aload_n hx hb dX7_depthOf_23 rfl (lv_at hl 0 rfl) ?_
  refine gX7_43 hx hb hC hI q_fl_X7_233 dX7_depthOf_24 ?_
  refine lv_iconst (v := 1) hx hb dX7_depthOf_27 lc_1 ?_
  refine lv_isub hx hb dX7_depthOf_28 ?_
  refine lv_iload_n hx hb dX7_depthOf_29 rfl (lv_at hl 2 rfl) ?_
  refine lv_isub hx hb dX7_depthOf_30 ?_
  exact hret ⟨(Option.some.inj h), rfl⟩ hI rfl dX7_depthOf_31
set_option maxRecDepth 100000 in
set_option maxHeartbeats 4000000 in
theorem c_X7_goOut (l : Launch) (G : zG)  {σ σ' : SF} {x1 : Int32} {x2 : Int32} (h : F_X7_goOut σ  x1 x2 = some σ') : zMv l WM G yX7_goOut cX7_goOut 4 2 [.ref (za G 0), .int x1, .int x2] σ σ' := by
  refine zMv_of (by decide) (Nat.le_of_ble_eq_true rfl) (fun p e s m args below meth c ls Q hx hb hr hlk hml hC hI hl hret => ?_)
  have hl : lv_has ls 4 [(0, .ref (za G 0)), (1, .int x1), (2, .int x2)] := hl
  have hC : zC WM G RX7 args s m := hC
  unfold F_X7_goOut at h
  refine lv_aload_n hx hb dX7_goOut_0 rfl (lv_at hl 0 rfl) ?_
  refine lv_iload_n hx hb dX7_goOut_1 rfl (lv_at hl 2 rfl) ?_
  obtain ⟨r2, h1, h⟩ := zb_e h
  refine z_cVi (As := [.int x2]) (rest := []) hx hb hC (hml.trans hl.1.symm) hI (c_X7_depthOf l G  h1) yyX7_depthOf q_ml_X7_239 (oX7 G) rfl ⟨Nat.le_of_ble_eq_true rfl, Nat.le_of_ble_eq_true rfl⟩ rfl rfl (Nat.le_of_ble_eq_true rfl) ⟨Nat.le_refl _, Nat.le_refl _⟩ dX7_goOut_2 (fun H locs hI => ?_)
  refine lv_istore_n (lv' := [(3, .int r2), (0, .ref (za G 0)), (1, .int x1), (2, .int x2)]) hx hb dX7_goOut_5 rfl hl (by decide) rfl (fun ls hl => ?_)
  refine lv_aload_n hx hb dX7_goOut_6 rfl (lv_at hl 1 rfl) ?_
  refine lv_iload_n hx hb dX7_goOut_7 rfl (lv_at hl 2 rfl) ?_
  refine lv_iload_n hx hb dX7_goOut_8 rfl (lv_at hl 0 rfl) ?_
  refine lv_iadd hx hb dX7_goOut_9 ?_
  obtain ⟨σ4, h3, h⟩ := zb_e h
  refine z_cVv (As := [.int (x1 + r2)]) (rest := []) hx hb hC (hml.trans hl.1.symm) hI (c_X7_tell l G  h3) yyX7_tell q_ml_X7_242 (oX7 G) rfl ⟨Nat.le_of_ble_eq_true rfl, Nat.le_of_ble_eq_true rfl⟩ rfl rfl (Nat.le_of_ble_eq_true rfl) ⟨Nat.le_refl _, Nat.le_refl _⟩ dX7_goOut_10 (fun H locs hI => ?_)
  refine lv_aload_n hx hb dX7_goOut_13 rfl (lv_at hl 1 rfl) ?_
  refine lv_dup hx hb dX7_goOut_14 rfl ?_
  refine gX7_37 hx hb hC hI q_fl_X7_246 dX7_goOut_15 ?_
  refine lv_iconst (v := 1) hx hb dX7_goOut_18 lc_1 ?_
  refine lv_iadd hx hb dX7_goOut_19 ?_
  refine pX7_37 hx hb hC hI q_fl_X7_246 dX7_goOut_20 (fun σ5 H locs e_σ5 hI => ?_)
  have h := zl_e h e_σ5
  refine lv_aload_n hx hb dX7_goOut_23 rfl (lv_at hl 1 rfl) ?_
  refine lv_dup hx hb dX7_goOut_24 rfl ?_
  refine gX7_38 hx hb hC hI q_fl_X7_249 dX7_goOut_25 ?_
  refine lv_iload_n hx hb dX7_goOut_28 rfl (lv_at hl 0 rfl) ?_
  refine lv_iadd hx hb dX7_goOut_29 ?_
  refine pX7_38 hx hb hC hI q_fl_X7_249 dX7_goOut_30 (fun σ6 H locs e_σ6 hI => ?_)
  have h := zl_e h e_σ6
  exact hret (Option.some.inj h) hI dX7_goOut_33
set_option maxRecDepth 100000 in
set_option maxHeartbeats 4000000 in
theorem c_X7_isBlock (l : Launch) (G : zG)  {σ : SF} {r : Int32} {x1 : Int32} {x2 : Int32} (h : F_X7_isBlock σ  x1 x2 = some r) : zMi l WM G yX7_isBlock cX7_isBlock 3 .boolean 2 [.ref (za G 0), .int x1, .int x2] σ r σ := by
  refine zMi_of (by decide) (Nat.le_of_ble_eq_true rfl) (fun p e s m args below meth c ls Q hx hb hr hlk hml hC hI hl hret => ?_)
  have hl : lv_has ls 3 [(0, .ref (za G 0)), (1, .int x1), (2, .int x2)] := hl
  have hC : zC WM G RX7 args s m := hC
  unfold F_X7_isBlock at h
  refine lv_aload_n hx hb dX7_isBlock_0 rfl (lv_at hl 0 rfl) ?_
  refine gX7_27 hx hb hC hI q_fl_X7_53 dX7_isBlock_1 ?_
  refine lv_iload_n hx hb dX7_isBlock_4 rfl (lv_at hl 2 rfl) ?_
  obtain ⟨hg, h⟩ := zg_e h
  refine z_iald hx hb hC hI (vX7_27 G) hg dX7_isBlock_5 ?_
  refine lv_iload_n hx hb dX7_isBlock_6 rfl (lv_at hl 1 rfl) ?_
  refine lv_icmp_ne (tgt := 36) hx hb dX7_isBlock_7 (by decide) (fun hc => ?_) (fun hc => ?_)
  · have h := zi_f hc h
    refine lv_iconst (v := 0) hx hb dX7_isBlock_36 lc_0 ?_
    exact hret ⟨(Option.some.inj h), rfl⟩ hI rfl dX7_isBlock_37
  · have h := zi_t hc h
    refine lv_aload_n hx hb dX7_isBlock_10 rfl (lv_at hl 0 rfl) ?_
    refine gX7_32 hx hb hC hI q_fl_X7_171 dX7_isBlock_11 ?_
    refine lv_iload_n hx hb dX7_isBlock_14 rfl (lv_at hl 2 rfl) ?_
    obtain ⟨r2, h1, h⟩ := zb_e h
    refine z_cSi (As := [.int (σ 0 32), .int x2]) (rest := []) hx hb hC (hml.trans hl.1.symm) hI (c_X7_isIn l G  (σ := σ) h1) yyX7_isIn q_ml_X7_139 ⟨Nat.le_of_ble_eq_true rfl, Nat.le_of_ble_eq_true rfl⟩ rfl rfl (Nat.le_of_ble_eq_true rfl) ⟨Nat.le_refl _, Nat.le_refl _⟩ dX7_isBlock_15 (fun H locs hI => ?_)
    refine lv_if_eq (tgt := 36) hx hb dX7_isBlock_18 (by decide) (fun hc => ?_) (fun hc => ?_)
    · have h := zi_t hc h
      refine lv_iconst (v := 0) hx hb dX7_isBlock_36 lc_0 ?_
      exact hret ⟨(Option.some.inj h), rfl⟩ hI rfl dX7_isBlock_37
    · have h := zi_f hc h
      refine lv_aload_n hx hb dX7_isBlock_21 rfl (lv_at hl 0 rfl) ?_
      refine gX7_22 hx hb hC hI q_fl_X7_143 dX7_isBlock_22 ?_
      refine lv_iload_n hx hb dX7_isBlock_25 rfl (lv_at hl 2 rfl) ?_
      obtain ⟨r4, h3, h⟩ := zb_e h
      refine z_cSi (As := [.int (σ 0 22), .int x2]) (rest := []) hx hb hC (hml.trans hl.1.symm) hI (c_X7_isIn l G  (σ := σ) h3) yyX7_isIn q_ml_X7_139 ⟨Nat.le_of_ble_eq_true rfl, Nat.le_of_ble_eq_true rfl⟩ rfl rfl (Nat.le_of_ble_eq_true rfl) ⟨Nat.le_refl _, Nat.le_refl _⟩ dX7_isBlock_26 (fun H locs hI => ?_)
      refine lv_if_eq (tgt := 36) hx hb dX7_isBlock_29 (by decide) (fun hc => ?_) (fun hc => ?_)
      · have h := zi_t hc h
        refine lv_iconst (v := 0) hx hb dX7_isBlock_36 lc_0 ?_
        exact hret ⟨(Option.some.inj h), rfl⟩ hI rfl dX7_isBlock_37
      · have h := zi_f hc h
        refine lv_iconst (v := 1) hx hb dX7_isBlock_32 lc_1 ?_
        refine lv_goto (tgt := 37) hx hb dX7_isBlock_33 (by decide) ?_
        exact hret ⟨(Option.some.inj h), rfl⟩ hI rfl dX7_isBlock_37
set_option maxRecDepth 100000 in
set_option maxHeartbeats 4000000 in
theorem c_X7_layWithin (l : Launch) (G : zG)  {σ σ' : SF} {x1 : Int32} (h : F_X7_layWithin σ  x1 = some σ') : zMv l WM G yX7_layWithin cX7_layWithin 4 3 [.ref (za G 0), .int x1] σ σ' := by
  refine zMv_of (by decide) (Nat.le_of_ble_eq_true rfl) (fun p e s m args below meth c ls Q hx hb hr hlk hml hC hI hl hret => ?_)
  have hl : lv_has ls 4 [(0, .ref (za G 0)), (1, .int x1)] := hl
  have hC : zC WM G RX7 args s m := hC
  have w_7 : ∀ (n : Nat) (y1 : Int32) (y2 : Int32) (σ : SF) (y2o : Int32) (σo : SF), L_X7_layWithin_7 y1 n y2 σ = some (y2o, σo) → ∀ (H : Heap) (locs : List Loc) (ls : Array Slot), zI WM G s σ H locs → lv_has ls 4 [(0, .ref (za G 0)), (1, .int y1), (2, .int y2)] → (∀ (H : Heap) (locs : List Loc) (ls : Array Slot), zI WM G s σo H locs → lv_has ls 4 [(0, .ref (za G 0)), (1, .int y1), (2, .int y2o)] → W p l e (zR 3) s m args below meth c H locs 0 0 Q (F0 m 52 ls [])) → W p l e (zR 3) s m args below meth c H locs 0 0 Q (F0 m 7 ls []) := by
    intro n
    induction n with
    | zero => intro y1 y2 σ y2o σo h; cases h
    | succ n ih =>
      intro y1 y2 σ y2o σo h H locs ls hI hl kE
      unfold L_X7_layWithin_7 at h
      refine lv_iload_n hx hb dX7_layWithin_7 rfl (lv_at hl 2 rfl) ?_
      refine lv_if_lt (tgt := 52) hx hb dX7_layWithin_8 (by decide) (fun hc => ?_) (fun hc => ?_)
      · have h := zi_t hc h
        cases h
        exact kE _ _ _ hI (lv_sub hl [0, 1, 2] rfl)
      · have h := zi_f hc h
        refine lv_aload_n hx hb dX7_layWithin_11 rfl (lv_at hl 0 rfl) ?_
        refine lv_iload_n hx hb dX7_layWithin_12 rfl (lv_at hl 1 rfl) ?_
        refine lv_aload_n hx hb dX7_layWithin_13 rfl (lv_at hl 0 rfl) ?_
        refine gX7_24 hx hb hC hI q_fl_X7_44 dX7_layWithin_14 ?_
        refine lv_iload_n hx hb dX7_layWithin_17 rfl (lv_at hl 2 rfl) ?_
        obtain ⟨hg, h⟩ := zg_e h
        refine z_iald hx hb hC hI (vX7_24 G) hg dX7_layWithin_18 ?_
        obtain ⟨r3, h2, h⟩ := zb_e h
        refine z_cVi (As := [.int y1, .int (σ 12 (y2 : Int32).toNatClampNeg)]) (rest := []) hx hb hC (hml.trans hl.1.symm) hI (c_X7_isBlock l G  h2) yyX7_isBlock q_ml_X7_252 (oX7 G) rfl ⟨Nat.le_of_ble_eq_true rfl, Nat.le_of_ble_eq_true rfl⟩ rfl rfl (Nat.le_of_ble_eq_true rfl) ⟨Nat.le_refl _, Nat.le_refl _⟩ dX7_layWithin_19 (fun H locs hI => ?_)
        refine lv_if_eq (tgt := 46) hx hb dX7_layWithin_22 (by decide) (fun hc => ?_) (fun hc => ?_)
        · have h := zi_t hc h
          obtain ⟨v4, e_v4⟩ : ∃ y : Int32, y = y2 + (-1) := ⟨_, rfl⟩
          have h := zl_e h e_v4
          refine lv_iinc (v := v4) (lv' := [(2, .int v4), (0, .ref (za G 0)), (1, .int y1)]) hx hb dX7_layWithin_46 hl (k := 2) rfl (by rw [lc_m1]; exact e_v4.symm) (by decide) rfl (fun ls hl => ?_)
          refine lv_goto (tgt := 7) hx hb dX7_layWithin_49 (by decide) ?_
          exact ih y1 v4 σ y2o σo h _ _ _ hI (lv_sub hl [1, 2, 0] rfl) kE
        · have h := zi_f hc h
          refine lv_aload_n hx hb dX7_layWithin_25 rfl (lv_at hl 0 rfl) ?_
          refine lv_sipush (v := 1000) hx hb dX7_layWithin_26 ls_1000 ?_
          refine lv_aload_n hx hb dX7_layWithin_29 rfl (lv_at hl 0 rfl) ?_
          refine gX7_24 hx hb hC hI q_fl_X7_44 dX7_layWithin_30 ?_
          refine lv_iload_n hx hb dX7_layWithin_33 rfl (lv_at hl 2 rfl) ?_
          obtain ⟨hg, h⟩ := zg_e h
          refine z_iald hx hb hC hI (vX7_24 G) hg dX7_layWithin_34 ?_
          refine lv_iadd hx hb dX7_layWithin_35 ?_
          obtain ⟨σ6, h5, h⟩ := zb_e h
          refine z_cVv (As := [.int ((1000 : Int32) + (σ 12 (y2 : Int32).toNatClampNeg))]) (rest := []) hx hb hC (hml.trans hl.1.symm) hI (c_X7_later l G  h5) yyX7_later q_ml_X7_255 (oX7 G) rfl ⟨Nat.le_of_ble_eq_true rfl, Nat.le_of_ble_eq_true rfl⟩ rfl rfl (Nat.le_of_ble_eq_true rfl) ⟨Nat.le_refl _, Nat.le_refl _⟩ dX7_layWithin_36 (fun H locs hI => ?_)
          refine lv_aload_n hx hb dX7_layWithin_39 rfl (lv_at hl 0 rfl) ?_
          refine lv_sipush (v := 6301) hx hb dX7_layWithin_40 ls_6301 ?_
          obtain ⟨σ8, h7, h⟩ := zb_e h
          refine z_cVv (As := [.int 6301]) (rest := []) hx hb hC (hml.trans hl.1.symm) hI (c_X7_later l G  h7) yyX7_later q_ml_X7_255 (oX7 G) rfl ⟨Nat.le_of_ble_eq_true rfl, Nat.le_of_ble_eq_true rfl⟩ rfl rfl (Nat.le_of_ble_eq_true rfl) ⟨Nat.le_refl _, Nat.le_refl _⟩ dX7_layWithin_43 (fun H locs hI => ?_)
          obtain ⟨v9, e_v9⟩ : ∃ y : Int32, y = y2 + (-1) := ⟨_, rfl⟩
          have h := zl_e h e_v9
          refine lv_iinc (v := v9) (lv' := [(2, .int v9), (0, .ref (za G 0)), (1, .int y1)]) hx hb dX7_layWithin_46 hl (k := 2) rfl (by rw [lc_m1]; exact e_v9.symm) (by decide) rfl (fun ls hl => ?_)
          refine lv_goto (tgt := 7) hx hb dX7_layWithin_49 (by decide) ?_
          exact ih y1 v9 σ8 y2o σo h _ _ _ hI (lv_sub hl [1, 2, 0] rfl) kE
  have w_116 : ∀ (n : Nat) (y1 : Int32) (y3 : Int32) (σ : SF) (y3o : Int32) (σo : SF), L_X7_layWithin_116 y1 n y3 σ = some (y3o, σo) → ∀ (H : Heap) (locs : List Loc) (ls : Array Slot), zI WM G s σ H locs → lv_has ls 4 [(0, .ref (za G 0)), (1, .int y1), (3, .int y3)] → (∀ (H : Heap) (locs : List Loc) (ls : Array Slot), zI WM G s σo H locs → lv_has ls 4 [(0, .ref (za G 0)), (1, .int y1), (3, .int y3o)] → W p l e (zR 3) s m args below meth c H locs 0 0 Q (F0 m 158 ls [])) → W p l e (zR 3) s m args below meth c H locs 0 0 Q (F0 m 116 ls []) := by
    intro n
    induction n with
    | zero => intro y1 y3 σ y3o σo h; cases h
    | succ n ih =>
      intro y1 y3 σ y3o σo h H locs ls hI hl kE
      unfold L_X7_layWithin_116 at h
      refine lv_iload_n hx hb dX7_layWithin_116 rfl (lv_at hl 2 rfl) ?_
      refine lv_aload_n hx hb dX7_layWithin_117 rfl (lv_at hl 0 rfl) ?_
      refine gX7_23 hx hb hC hI q_fl_X7_150 dX7_layWithin_118 ?_
      refine lv_icmp_ge (tgt := 158) hx hb dX7_layWithin_121 (by decide) (fun hc => ?_) (fun hc => ?_)
      · have h := zi_t hc h
        cases h
        exact kE _ _ _ hI (lv_sub hl [0, 1, 2] rfl)
      · have h := zi_f hc h
        refine lv_aload_n hx hb dX7_layWithin_124 rfl (lv_at hl 0 rfl) ?_
        refine lv_iload_n hx hb dX7_layWithin_125 rfl (lv_at hl 1 rfl) ?_
        refine lv_aload_n hx hb dX7_layWithin_126 rfl (lv_at hl 0 rfl) ?_
        refine gX7_24 hx hb hC hI q_fl_X7_44 dX7_layWithin_127 ?_
        refine lv_iload_n hx hb dX7_layWithin_130 rfl (lv_at hl 2 rfl) ?_
        obtain ⟨hg, h⟩ := zg_e h
        refine z_iald hx hb hC hI (vX7_24 G) hg dX7_layWithin_131 ?_
        obtain ⟨r18, h17, h⟩ := zb_e h
        refine z_cVi (As := [.int y1, .int (σ 12 (y3 : Int32).toNatClampNeg)]) (rest := []) hx hb hC (hml.trans hl.1.symm) hI (c_X7_isBlock l G  h17) yyX7_isBlock q_ml_X7_252 (oX7 G) rfl ⟨Nat.le_of_ble_eq_true rfl, Nat.le_of_ble_eq_true rfl⟩ rfl rfl (Nat.le_of_ble_eq_true rfl) ⟨Nat.le_refl _, Nat.le_refl _⟩ dX7_layWithin_132 (fun H locs hI => ?_)
        refine lv_if_eq (tgt := 152) hx hb dX7_layWithin_135 (by decide) (fun hc => ?_) (fun hc => ?_)
        · have h := zi_t hc h
          obtain ⟨v19, e_v19⟩ : ∃ y : Int32, y = y3 + 1 := ⟨_, rfl⟩
          have h := zl_e h e_v19
          refine lv_iinc (v := v19) (lv' := [(3, .int v19), (0, .ref (za G 0)), (1, .int y1)]) hx hb dX7_layWithin_152 hl (k := 2) rfl (by rw [lc_1]; exact e_v19.symm) (by decide) rfl (fun ls hl => ?_)
          refine lv_goto (tgt := 116) hx hb dX7_layWithin_155 (by decide) ?_
          exact ih y1 v19 σ y3o σo h _ _ _ hI (lv_sub hl [1, 2, 0] rfl) kE
        · have h := zi_f hc h
          refine lv_aload_n hx hb dX7_layWithin_138 rfl (lv_at hl 0 rfl) ?_
          refine lv_sipush (v := 5000) hx hb dX7_layWithin_139 ls_5000 ?_
          refine lv_aload_n hx hb dX7_layWithin_142 rfl (lv_at hl 0 rfl) ?_
          refine gX7_24 hx hb hC hI q_fl_X7_44 dX7_layWithin_143 ?_
          refine lv_iload_n hx hb dX7_layWithin_146 rfl (lv_at hl 2 rfl) ?_
          obtain ⟨hg, h⟩ := zg_e h
          refine z_iald hx hb hC hI (vX7_24 G) hg dX7_layWithin_147 ?_
          refine lv_iadd hx hb dX7_layWithin_148 ?_
          obtain ⟨σ21, h20, h⟩ := zb_e h
          refine z_cVv (As := [.int ((5000 : Int32) + (σ 12 (y3 : Int32).toNatClampNeg))]) (rest := []) hx hb hC (hml.trans hl.1.symm) hI (c_X7_later l G  h20) yyX7_later q_ml_X7_255 (oX7 G) rfl ⟨Nat.le_of_ble_eq_true rfl, Nat.le_of_ble_eq_true rfl⟩ rfl rfl (Nat.le_of_ble_eq_true rfl) ⟨Nat.le_refl _, Nat.le_refl _⟩ dX7_layWithin_149 (fun H locs hI => ?_)
          obtain ⟨v22, e_v22⟩ : ∃ y : Int32, y = y3 + 1 := ⟨_, rfl⟩
          have h := zl_e h e_v22
          refine lv_iinc (v := v22) (lv' := [(3, .int v22), (0, .ref (za G 0)), (1, .int y1)]) hx hb dX7_layWithin_152 hl (k := 2) rfl (by rw [lc_1]; exact e_v22.symm) (by decide) rfl (fun ls hl => ?_)
          refine lv_goto (tgt := 116) hx hb dX7_layWithin_155 (by decide) ?_
          exact ih y1 v22 σ21 y3o σo h _ _ _ hI (lv_sub hl [1, 2, 0] rfl) kE
  unfold F_X7_layWithin at h
  refine lv_aload_n hx hb dX7_layWithin_0 rfl (lv_at hl 0 rfl) ?_
  refine gX7_23 hx hb hC hI q_fl_X7_150 dX7_layWithin_1 ?_
  refine lv_iconst (v := 1) hx hb dX7_layWithin_4 lc_1 ?_
  refine lv_isub hx hb dX7_layWithin_5 ?_
  refine lv_topi (fun v1 e_v1 => ?_)
  have h := zl_e h e_v1
  refine lv_istore_n (lv' := [(2, .int v1), (0, .ref (za G 0)), (1, .int x1)]) hx hb dX7_layWithin_6 rfl hl (by decide) rfl (fun ls hl => ?_)
  obtain ⟨v10, σ11, h12, h⟩ := zb2_e h
  refine w_7 100 x1 v1 σ v10 σ11 h12 _ _ _ hI (lv_sub hl [1, 2, 0] rfl) (fun H locs ls hI hl => ?_)
  refine lv_aload_n hx hb dX7_layWithin_52 rfl (lv_at hl 0 rfl) ?_
  refine gX7_20 hx hb hC hI q_fl_X7_38 dX7_layWithin_53 ?_
  refine lv_iload_n hx hb dX7_layWithin_56 rfl (lv_at hl 1 rfl) ?_
  obtain ⟨hg, h⟩ := zg_e h
  refine z_iald hx hb hC hI (vX7_20 G) hg dX7_layWithin_57 ?_
  obtain ⟨r14, h13, h⟩ := zb_e h
  refine z_cSi (As := [.int (σ11 10 (x1 : Int32).toNatClampNeg)]) (rest := []) hx hb hC (hml.trans hl.1.symm) hI (c_X7_ends l G  (σ := σ11) h13) yyX7_ends q_ml_X7_114 ⟨Nat.le_of_ble_eq_true rfl, Nat.le_of_ble_eq_true rfl⟩ rfl rfl (Nat.le_of_ble_eq_true rfl) ⟨Nat.le_refl _, Nat.le_refl _⟩ dX7_layWithin_58 (fun H locs hI => ?_)
  refine lv_istore_n (lv' := [(2, .int r14), (0, .ref (za G 0)), (1, .int x1)]) hx hb dX7_layWithin_61 rfl hl (by decide) rfl (fun ls hl => ?_)
  refine lv_iload_n hx hb dX7_layWithin_62 rfl (lv_at hl 0 rfl) ?_
  refine lv_iconst (v := 1) hx hb dX7_layWithin_63 lc_1 ?_
  refine lv_icmp_le (tgt := 94) hx hb dX7_layWithin_64 (by decide) (fun hc => ?_) (fun hc => ?_)
  · have h := zi_t hc h
    refine lv_iload_n hx hb dX7_layWithin_94 rfl (lv_at hl 0 rfl) ?_
    refine lv_if_le (tgt := 109) hx hb dX7_layWithin_95 (by decide) (fun hc => ?_) (fun hc => ?_)
    · have h := zi_t hc h
      refine lv_aload_n hx hb dX7_layWithin_109 rfl (lv_at hl 1 rfl) ?_
      refine lv_iload_n hx hb dX7_layWithin_110 rfl (lv_at hl 2 rfl) ?_
      obtain ⟨σ16, h15, h⟩ := zb_e h
      refine z_cVv (As := [.int x1]) (rest := []) hx hb hC (hml.trans hl.1.symm) hI (c_X7_later l G  h15) yyX7_later q_ml_X7_255 (oX7 G) rfl ⟨Nat.le_of_ble_eq_true rfl, Nat.le_of_ble_eq_true rfl⟩ rfl rfl (Nat.le_of_ble_eq_true rfl) ⟨Nat.le_refl _, Nat.le_refl _⟩ dX7_layWithin_111 (fun H locs hI => ?_)
      refine lv_iconst (v := 0) hx hb dX7_layWithin_114 lc_0 ?_
      refine lv_istore_n (lv' := [(3, .int 0), (2, .int r14), (0, .ref (za G 0)), (1, .int x1)]) hx hb dX7_layWithin_115 rfl hl (by decide) rfl (fun ls hl => ?_)
      obtain ⟨v23, σ24, h25, h⟩ := zb2_e h
      refine w_116 100 x1 0 σ16 v23 σ24 h25 _ _ _ hI (lv_sub hl [2, 3, 0] rfl) (fun H locs ls hI hl => ?_)
      exact hret (Option.some.inj h) hI dX7_layWithin_158
    · have h := zi_f hc h
      refine lv_aload_n hx hb dX7_layWithin_98 rfl (lv_at hl 1 rfl) ?_
      refine lv_sipush (v := 3000) hx hb dX7_layWithin_99 ls_3000 ?_
      refine lv_iconst (v := 2) hx hb dX7_layWithin_102 lc_2 ?_
      refine lv_iload_n hx hb dX7_layWithin_103 rfl (lv_at hl 2 rfl) ?_
      refine lv_imul hx hb dX7_layWithin_104 ?_
      refine lv_iadd hx hb dX7_layWithin_105 ?_
      obtain ⟨σ27, h26, h⟩ := zb_e h
      refine z_cVv (As := [.int ((3000 : Int32) + ((2 : Int32) * x1))]) (rest := []) hx hb hC (hml.trans hl.1.symm) hI (c_X7_later l G  h26) yyX7_later q_ml_X7_255 (oX7 G) rfl ⟨Nat.le_of_ble_eq_true rfl, Nat.le_of_ble_eq_true rfl⟩ rfl rfl (Nat.le_of_ble_eq_true rfl) ⟨Nat.le_refl _, Nat.le_refl _⟩ dX7_layWithin_106 (fun H locs hI => ?_)
      refine lv_aload_n hx hb dX7_layWithin_109 rfl (lv_at hl 1 rfl) ?_
      refine lv_iload_n hx hb dX7_layWithin_110 rfl (lv_at hl 2 rfl) ?_
      obtain ⟨σ29, h28, h⟩ := zb_e h
      refine z_cVv (As := [.int x1]) (rest := []) hx hb hC (hml.trans hl.1.symm) hI (c_X7_later l G  h28) yyX7_later q_ml_X7_255 (oX7 G) rfl ⟨Nat.le_of_ble_eq_true rfl, Nat.le_of_ble_eq_true rfl⟩ rfl rfl (Nat.le_of_ble_eq_true rfl) ⟨Nat.le_refl _, Nat.le_refl _⟩ dX7_layWithin_111 (fun H locs hI => ?_)
      refine lv_iconst (v := 0) hx hb dX7_layWithin_114 lc_0 ?_
      refine lv_istore_n (lv' := [(3, .int 0), (2, .int r14), (0, .ref (za G 0)), (1, .int x1)]) hx hb dX7_layWithin_115 rfl hl (by decide) rfl (fun ls hl => ?_)
      obtain ⟨v30, σ31, h32, h⟩ := zb2_e h
      refine w_116 100 x1 0 σ29 v30 σ31 h32 _ _ _ hI (lv_sub hl [2, 3, 0] rfl) (fun H locs ls hI hl => ?_)
      exact hret (Option.some.inj h) hI dX7_layWithin_158
  · have h := zi_f hc h
    refine lv_aload_n hx hb dX7_layWithin_67 rfl (lv_at hl 1 rfl) ?_
    refine lv_sipush (v := 401) hx hb dX7_layWithin_68 ls_401 ?_
    obtain ⟨σ34, h33, h⟩ := zb_e h
    refine z_cVv (As := [.int 401]) (rest := []) hx hb hC (hml.trans hl.1.symm) hI (c_X7_later l G  h33) yyX7_later q_ml_X7_255 (oX7 G) rfl ⟨Nat.le_of_ble_eq_true rfl, Nat.le_of_ble_eq_true rfl⟩ rfl rfl (Nat.le_of_ble_eq_true rfl) ⟨Nat.le_refl _, Nat.le_refl _⟩ dX7_layWithin_71 (fun H locs hI => ?_)
    refine lv_aload_n hx hb dX7_layWithin_74 rfl (lv_at hl 1 rfl) ?_
    refine lv_sipush (v := 3000) hx hb dX7_layWithin_75 ls_3000 ?_
    refine lv_iconst (v := 2) hx hb dX7_layWithin_78 lc_2 ?_
    refine lv_iload_n hx hb dX7_layWithin_79 rfl (lv_at hl 2 rfl) ?_
    refine lv_imul hx hb dX7_layWithin_80 ?_
    refine lv_iadd hx hb dX7_layWithin_81 ?_
    refine lv_iconst (v := 1) hx hb dX7_layWithin_82 lc_1 ?_
    refine lv_iadd hx hb dX7_layWithin_83 ?_
    obtain ⟨σ36, h35, h⟩ := zb_e h
    refine z_cVv (As := [.int (((3000 : Int32) + ((2 : Int32) * x1)) + 1)]) (rest := []) hx hb hC (hml.trans hl.1.symm) hI (c_X7_later l G  h35) yyX7_later q_ml_X7_255 (oX7 G) rfl ⟨Nat.le_of_ble_eq_true rfl, Nat.le_of_ble_eq_true rfl⟩ rfl rfl (Nat.le_of_ble_eq_true rfl) ⟨Nat.le_refl _, Nat.le_refl _⟩ dX7_layWithin_84 (fun H locs hI => ?_)
    refine lv_aload_n hx hb dX7_layWithin_87 rfl (lv_at hl 1 rfl) ?_
    refine lv_sipush (v := 400) hx hb dX7_layWithin_88 ls_400 ?_
    obtain ⟨σ38, h37, h⟩ := zb_e h
    refine z_cVv (As := [.int 400]) (rest := []) hx hb hC (hml.trans hl.1.symm) hI (c_X7_later l G  h37) yyX7_later q_ml_X7_255 (oX7 G) rfl ⟨Nat.le_of_ble_eq_true rfl, Nat.le_of_ble_eq_true rfl⟩ rfl rfl (Nat.le_of_ble_eq_true rfl) ⟨Nat.le_refl _, Nat.le_refl _⟩ dX7_layWithin_91 (fun H locs hI => ?_)
    refine lv_iload_n hx hb dX7_layWithin_94 rfl (lv_at hl 0 rfl) ?_
    refine lv_if_le (tgt := 109) hx hb dX7_layWithin_95 (by decide) (fun hc => ?_) (fun hc => ?_)
    · have h := zi_t hc h
      refine lv_aload_n hx hb dX7_layWithin_109 rfl (lv_at hl 1 rfl) ?_
      refine lv_iload_n hx hb dX7_layWithin_110 rfl (lv_at hl 2 rfl) ?_
      obtain ⟨σ40, h39, h⟩ := zb_e h
      refine z_cVv (As := [.int x1]) (rest := []) hx hb hC (hml.trans hl.1.symm) hI (c_X7_later l G  h39) yyX7_later q_ml_X7_255 (oX7 G) rfl ⟨Nat.le_of_ble_eq_true rfl, Nat.le_of_ble_eq_true rfl⟩ rfl rfl (Nat.le_of_ble_eq_true rfl) ⟨Nat.le_refl _, Nat.le_refl _⟩ dX7_layWithin_111 (fun H locs hI => ?_)
      refine lv_iconst (v := 0) hx hb dX7_layWithin_114 lc_0 ?_
      refine lv_istore_n (lv' := [(3, .int 0), (2, .int r14), (0, .ref (za G 0)), (1, .int x1)]) hx hb dX7_layWithin_115 rfl hl (by decide) rfl (fun ls hl => ?_)
      obtain ⟨v41, σ42, h43, h⟩ := zb2_e h
      refine w_116 100 x1 0 σ40 v41 σ42 h43 _ _ _ hI (lv_sub hl [2, 3, 0] rfl) (fun H locs ls hI hl => ?_)
      exact hret (Option.some.inj h) hI dX7_layWithin_158
    · have h := zi_f hc h
      refine lv_aload_n hx hb dX7_layWithin_98 rfl (lv_at hl 1 rfl) ?_
      refine lv_sipush (v := 3000) hx hb dX7_layWithin_99 ls_3000 ?_
      refine lv_iconst (v := 2) hx hb dX7_layWithin_102 lc_2 ?_
      refine lv_iload_n hx hb dX7_layWithin_103 rfl (lv_at hl 2 rfl) ?_
      refine lv_imul hx hb dX7_layWithin_104 ?_
      refine lv_iadd hx hb dX7_layWithin_105 ?_
      obtain ⟨σ45, h44, h⟩ := zb_e h
      refine z_cVv (As := [.int ((3000 : Int32) + ((2 : Int32) * x1))]) (rest := []) hx hb hC (hml.trans hl.1.symm) hI (c_X7_later l G  h44) yyX7_later q_ml_X7_255 (oX7 G) rfl ⟨Nat.le_of_ble_eq_true rfl, Nat.le_of_ble_eq_true rfl⟩ rfl rfl (Nat.le_of_ble_eq_true rfl) ⟨Nat.le_refl _, Nat.le_refl _⟩ dX7_layWithin_106 (fun H locs hI => ?_)
      refine lv_aload_n hx hb dX7_layWithin_109 rfl (lv_at hl 1 rfl) ?_
      refine lv_iload_n hx hb dX7_layWithin_110 rfl (lv_at hl 2 rfl) ?_
      obtain ⟨σ47, h46, h⟩ := zb_e h
      refine z_cVv (As := [.int x1]) (rest := []) hx hb hC (hml.trans hl.1.symm) hI (c_X7_later l G  h46) yyX7_later q_ml_X7_255 (oX7 G) rfl ⟨Nat.le_of_ble_eq_true rfl, Nat.le_of_ble_eq_true rfl⟩ rfl rfl (Nat.le_of_ble_eq_true rfl) ⟨Nat.le_refl _, Nat.le_refl _⟩ dX7_layWithin_111 (fun H locs hI => ?_)
      refine lv_iconst (v := 0) hx hb dX7_layWithin_114 lc_0 ?_
      refine lv_istore_n (lv' := [(3, .int 0), (2, .int r14), (0, .ref (za G 0)), (1, .int x1)]) hx hb dX7_layWithin_115 rfl hl (by decide) rfl (fun ls hl => ?_)
      obtain ⟨v48, σ49, h50, h⟩ := zb2_e h
      refine w_116 100 x1 0 σ47 v48 σ49 h50 _ _ _ hI (lv_sub hl [2, 3, 0] rfl) (fun H locs ls hI hl => ?_)
      exact hret (Option.some.inj h) hI dX7_layWithin_158
set_option maxRecDepth 100000 in
set_option maxHeartbeats 4000000 in
theorem c_X7_layTree (l : Launch) (G : zG)  {σ σ' : SF} {x1 : Int32} (h : F_X7_layTree σ  x1 = some σ') : zMv l WM G yX7_layTree cX7_layTree 2 2 [.ref (za G 0), .int x1] σ σ' := by
  refine zMv_of (by decide) (Nat.le_of_ble_eq_true rfl) (fun p e s m args below meth c ls Q hx hb hr hlk hml hC hI hl hret => ?_)
  have hl : lv_has ls 2 [(0, .ref (za G 0)), (1, .int x1)] := hl
  have hC : zC WM G RX7 args s m := hC
  unfold F_X7_layTree at h
  refine lv_aload_n hx hb dX7_layTree_0 rfl (lv_at hl 0 rfl) ?_
  refine gX7_31 hx hb hC hI q_fl_X7_168 dX7_layTree_1 ?_
  refine lv_iload_n hx hb dX7_layTree_4 rfl (lv_at hl 1 rfl) ?_
  obtain ⟨r2, h1, h⟩ := zb_e h
  refine z_cSi (As := [.int (σ 0 31), .int x1]) (rest := []) hx hb hC (hml.trans hl.1.symm) hI (c_X7_isIn l G  (σ := σ) h1) yyX7_isIn q_ml_X7_139 ⟨Nat.le_of_ble_eq_true rfl, Nat.le_of_ble_eq_true rfl⟩ rfl rfl (Nat.le_of_ble_eq_true rfl) ⟨Nat.le_refl _, Nat.le_refl _⟩ dX7_layTree_5 (fun H locs hI => ?_)
  refine lv_if_eq (tgt := 39) hx hb dX7_layTree_8 (by decide) (fun hc => ?_) (fun hc => ?_)
  · have h := zi_t hc h
    refine lv_aload_n hx hb dX7_layTree_39 rfl (lv_at hl 0 rfl) ?_
    refine lv_sipush (v := 2000) hx hb dX7_layTree_40 ls_2000 ?_
    refine lv_iload_n hx hb dX7_layTree_43 rfl (lv_at hl 1 rfl) ?_
    refine lv_iadd hx hb dX7_layTree_44 ?_
    obtain ⟨σ4, h3, h⟩ := zb_e h
    refine z_cVv (As := [.int ((2000 : Int32) + x1)]) (rest := []) hx hb hC (hml.trans hl.1.symm) hI (c_X7_later l G  h3) yyX7_later q_ml_X7_255 (oX7 G) rfl ⟨Nat.le_of_ble_eq_true rfl, Nat.le_of_ble_eq_true rfl⟩ rfl rfl (Nat.le_of_ble_eq_true rfl) ⟨Nat.le_refl _, Nat.le_refl _⟩ dX7_layTree_45 (fun H locs hI => ?_)
    exact hret (Option.some.inj h) hI dX7_layTree_48
  · have h := zi_f hc h
    refine lv_aload_n hx hb dX7_layTree_11 rfl (lv_at hl 0 rfl) ?_
    refine lv_sipush (v := 6300) hx hb dX7_layTree_12 ls_6300 ?_
    obtain ⟨σ6, h5, h⟩ := zb_e h
    refine z_cVv (As := [.int 6300]) (rest := []) hx hb hC (hml.trans hl.1.symm) hI (c_X7_later l G  h5) yyX7_later q_ml_X7_255 (oX7 G) rfl ⟨Nat.le_of_ble_eq_true rfl, Nat.le_of_ble_eq_true rfl⟩ rfl rfl (Nat.le_of_ble_eq_true rfl) ⟨Nat.le_refl _, Nat.le_refl _⟩ dX7_layTree_15 (fun H locs hI => ?_)
    refine lv_aload_n hx hb dX7_layTree_18 rfl (lv_at hl 0 rfl) ?_
    refine lv_sipush (v := 2000) hx hb dX7_layTree_19 ls_2000 ?_
    refine lv_iload_n hx hb dX7_layTree_22 rfl (lv_at hl 1 rfl) ?_
    refine lv_iadd hx hb dX7_layTree_23 ?_
    obtain ⟨σ8, h7, h⟩ := zb_e h
    refine z_cVv (As := [.int ((2000 : Int32) + x1)]) (rest := []) hx hb hC (hml.trans hl.1.symm) hI (c_X7_later l G  h7) yyX7_later q_ml_X7_255 (oX7 G) rfl ⟨Nat.le_of_ble_eq_true rfl, Nat.le_of_ble_eq_true rfl⟩ rfl rfl (Nat.le_of_ble_eq_true rfl) ⟨Nat.le_refl _, Nat.le_refl _⟩ dX7_layTree_24 (fun H locs hI => ?_)
    refine lv_aload_n hx hb dX7_layTree_27 rfl (lv_at hl 0 rfl) ?_
    refine lv_sipush (v := 4000) hx hb dX7_layTree_28 ls_4000 ?_
    refine lv_iload_n hx hb dX7_layTree_31 rfl (lv_at hl 1 rfl) ?_
    refine lv_iadd hx hb dX7_layTree_32 ?_
    obtain ⟨σ10, h9, h⟩ := zb_e h
    refine z_cVv (As := [.int ((4000 : Int32) + x1)]) (rest := []) hx hb hC (hml.trans hl.1.symm) hI (c_X7_later l G  h9) yyX7_later q_ml_X7_255 (oX7 G) rfl ⟨Nat.le_of_ble_eq_true rfl, Nat.le_of_ble_eq_true rfl⟩ rfl rfl (Nat.le_of_ble_eq_true rfl) ⟨Nat.le_refl _, Nat.le_refl _⟩ dX7_layTree_33 (fun H locs hI => ?_)
    refine lv_goto (tgt := 48) hx hb dX7_layTree_36 (by decide) ?_
    exact hret (Option.some.inj h) hI dX7_layTree_48
set_option maxRecDepth 100000 in
set_option maxHeartbeats 4000000 in
theorem c_X7_branch (l : Launch) (G : zG)  {σ σ' : SF} {x1 : Int32} (h : F_X7_branch σ  x1 = some σ') : zMv l WM G yX7_branch cX7_branch 3 3 [.ref (za G 0), .int x1] σ σ' := by
  refine zMv_of (by decide) (Nat.le_of_ble_eq_true rfl) (fun p e s m args below meth c ls Q hx hb hr hlk hml hC hI hl hret => ?_)
  have hl : lv_has ls 3 [(0, .ref (za G 0)), (1, .int x1)] := hl
  have hC : zC WM G RX7 args s m := hC
  unfold F_X7_branch at h
  refine lv_aload_n hx hb dX7_branch_0 rfl (lv_at hl 0 rfl) ?_
  refine gX7_21 hx hb hC hI q_fl_X7_41 dX7_branch_1 ?_
  refine lv_iload_n hx hb dX7_branch_4 rfl (lv_at hl 1 rfl) ?_
  obtain ⟨hg, h⟩ := zg_e h
  refine z_iald hx hb hC hI (vX7_21 G) hg dX7_branch_5 ?_
  refine lv_topi (fun v1 e_v1 => ?_)
  have h := zl_e h e_v1
  refine lv_istore_n (lv' := [(2, .int v1), (0, .ref (za G 0)), (1, .int x1)]) hx hb dX7_branch_6 rfl hl (by decide) rfl (fun ls hl => ?_)
  refine lv_aload_n hx hb dX7_branch_7 rfl (lv_at hl 1 rfl) ?_
  refine lv_iload_n hx hb dX7_branch_8 rfl (lv_at hl 2 rfl) ?_
  obtain ⟨r3, h2, h⟩ := zb_e h
  refine z_cVi (As := [.int x1]) (rest := []) hx hb hC (hml.trans hl.1.symm) hI (c_X7_retreats l G  h2) yyX7_retreats q_ml_X7_180 (oX7 G) rfl ⟨Nat.le_of_ble_eq_true rfl, Nat.le_of_ble_eq_true rfl⟩ rfl rfl (Nat.le_of_ble_eq_true rfl) ⟨Nat.le_refl _, Nat.le_refl _⟩ dX7_branch_9 (fun H locs hI => ?_)
  refine lv_if_eq (tgt := 30) hx hb dX7_branch_12 (by decide) (fun hc => ?_) (fun hc => ?_)
  · have h := zi_t hc h
    refine lv_aload_n hx hb dX7_branch_30 rfl (lv_at hl 1 rfl) ?_
    refine gX7_32 hx hb hC hI q_fl_X7_171 dX7_branch_31 ?_
    refine lv_iload_n hx hb dX7_branch_34 rfl (lv_at hl 0 rfl) ?_
    obtain ⟨r5, h4, h⟩ := zb_e h
    refine z_cSi (As := [.int (σ 0 32), .int v1]) (rest := []) hx hb hC (hml.trans hl.1.symm) hI (c_X7_isIn l G  (σ := σ) h4) yyX7_isIn q_ml_X7_139 ⟨Nat.le_of_ble_eq_true rfl, Nat.le_of_ble_eq_true rfl⟩ rfl rfl (Nat.le_of_ble_eq_true rfl) ⟨Nat.le_refl _, Nat.le_refl _⟩ dX7_branch_35 (fun H locs hI => ?_)
    refine lv_if_eq (tgt := 56) hx hb dX7_branch_38 (by decide) (fun hc => ?_) (fun hc => ?_)
    · have h := zi_t hc h
      refine lv_aload_n hx hb dX7_branch_56 rfl (lv_at hl 1 rfl) ?_
      refine lv_sipush (v := 1000) hx hb dX7_branch_57 ls_1000 ?_
      refine lv_iload_n hx hb dX7_branch_60 rfl (lv_at hl 0 rfl) ?_
      refine lv_iadd hx hb dX7_branch_61 ?_
      obtain ⟨σ7, h6, h⟩ := zb_e h
      refine z_cVv (As := [.int ((1000 : Int32) + v1)]) (rest := []) hx hb hC (hml.trans hl.1.symm) hI (c_X7_later l G  h6) yyX7_later q_ml_X7_255 (oX7 G) rfl ⟨Nat.le_of_ble_eq_true rfl, Nat.le_of_ble_eq_true rfl⟩ rfl rfl (Nat.le_of_ble_eq_true rfl) ⟨Nat.le_refl _, Nat.le_refl _⟩ dX7_branch_62 (fun H locs hI => ?_)
      exact hret (Option.some.inj h) hI dX7_branch_65
    · have h := zi_f hc h
      refine lv_aload_n hx hb dX7_branch_41 rfl (lv_at hl 1 rfl) ?_
      refine lv_sipush (v := 600) hx hb dX7_branch_42 ls_600 ?_
      refine lv_sipush (v := 5000) hx hb dX7_branch_45 ls_5000 ?_
      refine lv_iload_n hx hb dX7_branch_48 rfl (lv_at hl 0 rfl) ?_
      refine lv_iadd hx hb dX7_branch_49 ?_
      obtain ⟨σ9, h8, h⟩ := zb_e h
      refine z_cVv (As := [.int 600, .int ((5000 : Int32) + v1)]) (rest := []) hx hb hC (hml.trans hl.1.symm) hI (c_X7_goOut l G  h8) yyX7_goOut q_ml_X7_258 (oX7 G) rfl ⟨Nat.le_of_ble_eq_true rfl, Nat.le_of_ble_eq_true rfl⟩ rfl rfl (Nat.le_of_ble_eq_true rfl) ⟨Nat.le_refl _, Nat.le_refl _⟩ dX7_branch_50 (fun H locs hI => ?_)
      refine lv_goto (tgt := 65) hx hb dX7_branch_53 (by decide) ?_
      exact hret (Option.some.inj h) hI dX7_branch_65
  · have h := zi_f hc h
    refine lv_aload_n hx hb dX7_branch_15 rfl (lv_at hl 1 rfl) ?_
    refine lv_sipush (v := 500) hx hb dX7_branch_16 ls_500 ?_
    refine lv_sipush (v := 4000) hx hb dX7_branch_19 ls_4000 ?_
    refine lv_iload_n hx hb dX7_branch_22 rfl (lv_at hl 0 rfl) ?_
    refine lv_iadd hx hb dX7_branch_23 ?_
    obtain ⟨σ11, h10, h⟩ := zb_e h
    refine z_cVv (As := [.int 500, .int ((4000 : Int32) + v1)]) (rest := []) hx hb hC (hml.trans hl.1.symm) hI (c_X7_goOut l G  h10) yyX7_goOut q_ml_X7_258 (oX7 G) rfl ⟨Nat.le_of_ble_eq_true rfl, Nat.le_of_ble_eq_true rfl⟩ rfl rfl (Nat.le_of_ble_eq_true rfl) ⟨Nat.le_refl _, Nat.le_refl _⟩ dX7_branch_24 (fun H locs hI => ?_)
    refine lv_goto (tgt := 65) hx hb dX7_branch_27 (by decide) ?_
    exact hret (Option.some.inj h) hI dX7_branch_65
set_option maxRecDepth 100000 in
set_option maxHeartbeats 4000000 in
theorem c_X7_doNext (l : Launch) (G : zG)  {σ σ' : SF} {x1 : Int32} (h : F_X7_doNext σ  x1 = some σ') : zMv l WM G yX7_doNext cX7_doNext 4 4 [.ref (za G 0), .int x1] σ σ' := by
  refine zMv_of (by decide) (Nat.le_of_ble_eq_true rfl) (fun p e s m args below meth c ls Q hx hb hr hlk hml hC hI hl hret => ?_)
  have hl : lv_has ls 4 [(0, .ref (za G 0)), (1, .int x1)] := hl
  have hC : zC WM G RX7 args s m := hC
  unfold F_X7_doNext at h
  refine lv_iload_n hx hb dX7_doNext_0 rfl (lv_at hl 1 rfl) ?_
  refine lv_sipush (v := 1000) hx hb dX7_doNext_1 ls_1000 ?_
  refine lv_idiv hx hb dX7_doNext_4 (by decide) ?_
  refine lv_sipush (v := 1000) hx hb dX7_doNext_5 ls_1000 ?_
  refine lv_imul hx hb dX7_doNext_8 ?_
  refine lv_topi (fun v1 e_v1 => ?_)
  have h := zl_e h e_v1
  refine lv_istore_n (lv' := [(2, .int v1), (0, .ref (za G 0)), (1, .int x1)]) hx hb dX7_doNext_9 rfl hl (by decide) rfl (fun ls hl => ?_)
  refine lv_iload_n hx hb dX7_doNext_10 rfl (lv_at hl 2 rfl) ?_
  refine lv_sipush (v := 1000) hx hb dX7_doNext_11 ls_1000 ?_
  refine lv_irem hx hb dX7_doNext_14 (by decide) ?_
  refine lv_topi (fun v2 e_v2 => ?_)
  have h := zl_e h e_v2
  refine lv_istore_n (lv' := [(3, .int v2), (2, .int v1), (0, .ref (za G 0)), (1, .int x1)]) hx hb dX7_doNext_15 rfl hl (by decide) rfl (fun ls hl => ?_)
  refine lv_iload_n hx hb dX7_doNext_16 rfl (lv_at hl 1 rfl) ?_
  by_cases n_17_1000 : v1 = 1000
  · have h := zi_t n_17_1000 h
    refine lv_lookup (tgt := 76) (off := 59) hx hb dX7_doNext_17 (by decide) (by rw [n_17_1000]; rfl) (by decide) ?_
    refine lv_aload_n hx hb dX7_doNext_76 rfl (lv_at hl 2 rfl) ?_
    refine lv_iload_n hx hb dX7_doNext_77 rfl (lv_at hl 0 rfl) ?_
    obtain ⟨σ4, h3, h⟩ := zb_e h
    refine z_cVv (As := [.int v2]) (rest := []) hx hb hC (hml.trans hl.1.symm) hI (c_X7_layTree l G  h3) yyX7_layTree q_ml_X7_262 (oX7 G) rfl ⟨Nat.le_of_ble_eq_true rfl, Nat.le_of_ble_eq_true rfl⟩ rfl rfl (Nat.le_of_ble_eq_true rfl) ⟨Nat.le_refl _, Nat.le_refl _⟩ dX7_doNext_78 (fun H locs hI => ?_)
    refine lv_goto (tgt := 156) hx hb dX7_doNext_81 (by decide) ?_
    exact hret (Option.some.inj h) hI dX7_doNext_156
  have h := zi_f n_17_1000 h
  by_cases n_17_2000 : v1 = 2000
  · have h := zi_t n_17_2000 h
    refine lv_lookup (tgt := 84) (off := 67) hx hb dX7_doNext_17 (by decide) (by rw [n_17_2000]; rfl) (by decide) ?_
    refine lv_aload_n hx hb dX7_doNext_84 rfl (lv_at hl 2 rfl) ?_
    refine lv_iload_n hx hb dX7_doNext_85 rfl (lv_at hl 0 rfl) ?_
    obtain ⟨σ6, h5, h⟩ := zb_e h
    refine z_cVv (As := [.int v2]) (rest := []) hx hb hC (hml.trans hl.1.symm) hI (c_X7_layWithin l G  h5) yyX7_layWithin q_ml_X7_265 (oX7 G) rfl ⟨Nat.le_of_ble_eq_true rfl, Nat.le_of_ble_eq_true rfl⟩ rfl rfl (Nat.le_of_ble_eq_true rfl) ⟨Nat.le_refl _, Nat.le_refl _⟩ dX7_doNext_86 (fun H locs hI => ?_)
    refine lv_goto (tgt := 156) hx hb dX7_doNext_89 (by decide) ?_
    exact hret (Option.some.inj h) hI dX7_doNext_156
  have h := zi_f n_17_2000 h
  by_cases n_17_3000 : v1 = 3000
  · have h := zi_t n_17_3000 h
    refine lv_lookup (tgt := 92) (off := 75) hx hb dX7_doNext_17 (by decide) (by rw [n_17_3000]; rfl) (by decide) ?_
    refine lv_aload_n hx hb dX7_doNext_92 rfl (lv_at hl 2 rfl) ?_
    refine lv_iload_n hx hb dX7_doNext_93 rfl (lv_at hl 0 rfl) ?_
    obtain ⟨σ8, h7, h⟩ := zb_e h
    refine z_cVv (As := [.int v2]) (rest := []) hx hb hC (hml.trans hl.1.symm) hI (c_X7_branch l G  h7) yyX7_branch q_ml_X7_268 (oX7 G) rfl ⟨Nat.le_of_ble_eq_true rfl, Nat.le_of_ble_eq_true rfl⟩ rfl rfl (Nat.le_of_ble_eq_true rfl) ⟨Nat.le_refl _, Nat.le_refl _⟩ dX7_doNext_94 (fun H locs hI => ?_)
    refine lv_goto (tgt := 156) hx hb dX7_doNext_97 (by decide) ?_
    exact hret (Option.some.inj h) hI dX7_doNext_156
  have h := zi_f n_17_3000 h
  by_cases n_17_4000 : v1 = 4000
  · have h := zi_t n_17_4000 h
    refine lv_lookup (tgt := 100) (off := 83) hx hb dX7_doNext_17 (by decide) (by rw [n_17_4000]; rfl) (by decide) ?_
    refine lv_aload_n hx hb dX7_doNext_100 rfl (lv_at hl 2 rfl) ?_
    refine lv_bipush (v := 100) hx hb dX7_doNext_101 lb_100 ?_
    refine lv_iload_n hx hb dX7_doNext_103 rfl (lv_at hl 0 rfl) ?_
    refine lv_iadd hx hb dX7_doNext_104 ?_
    obtain ⟨σ10, h9, h⟩ := zb_e h
    refine z_cVv (As := [.int ((100 : Int32) + v2)]) (rest := []) hx hb hC (hml.trans hl.1.symm) hI (c_X7_tell l G  h9) yyX7_tell q_ml_X7_242 (oX7 G) rfl ⟨Nat.le_of_ble_eq_true rfl, Nat.le_of_ble_eq_true rfl⟩ rfl rfl (Nat.le_of_ble_eq_true rfl) ⟨Nat.le_refl _, Nat.le_refl _⟩ dX7_doNext_105 (fun H locs hI => ?_)
    refine lv_aload_n hx hb dX7_doNext_108 rfl (lv_at hl 2 rfl) ?_
    refine lv_iload_n hx hb dX7_doNext_109 rfl (lv_at hl 3 rfl) ?_
    obtain ⟨σ12, h11, h⟩ := zb_e h
    refine z_cVv (As := [.int x1]) (rest := []) hx hb hC (hml.trans hl.1.symm) hI (c_X7_opens l G  h11) yyX7_opens q_ml_X7_271 (oX7 G) rfl ⟨Nat.le_of_ble_eq_true rfl, Nat.le_of_ble_eq_true rfl⟩ rfl rfl (Nat.le_of_ble_eq_true rfl) ⟨Nat.le_refl _, Nat.le_refl _⟩ dX7_doNext_110 (fun H locs hI => ?_)
    refine lv_goto (tgt := 156) hx hb dX7_doNext_113 (by decide) ?_
    exact hret (Option.some.inj h) hI dX7_doNext_156
  have h := zi_f n_17_4000 h
  by_cases n_17_5000 : v1 = 5000
  · have h := zi_t n_17_5000 h
    refine lv_lookup (tgt := 116) (off := 99) hx hb dX7_doNext_17 (by decide) (by rw [n_17_5000]; rfl) (by decide) ?_
    refine lv_aload_n hx hb dX7_doNext_116 rfl (lv_at hl 2 rfl) ?_
    refine lv_sipush (v := 200) hx hb dX7_doNext_117 ls_200 ?_
    refine lv_iload_n hx hb dX7_doNext_120 rfl (lv_at hl 0 rfl) ?_
    refine lv_iadd hx hb dX7_doNext_121 ?_
    obtain ⟨σ14, h13, h⟩ := zb_e h
    refine z_cVv (As := [.int ((200 : Int32) + v2)]) (rest := []) hx hb hC (hml.trans hl.1.symm) hI (c_X7_tell l G  h13) yyX7_tell q_ml_X7_242 (oX7 G) rfl ⟨Nat.le_of_ble_eq_true rfl, Nat.le_of_ble_eq_true rfl⟩ rfl rfl (Nat.le_of_ble_eq_true rfl) ⟨Nat.le_refl _, Nat.le_refl _⟩ dX7_doNext_122 (fun H locs hI => ?_)
    refine lv_aload_n hx hb dX7_doNext_125 rfl (lv_at hl 2 rfl) ?_
    refine lv_iload_n hx hb dX7_doNext_126 rfl (lv_at hl 3 rfl) ?_
    obtain ⟨σ16, h15, h⟩ := zb_e h
    refine z_cVv (As := [.int x1]) (rest := []) hx hb hC (hml.trans hl.1.symm) hI (c_X7_opens l G  h15) yyX7_opens q_ml_X7_271 (oX7 G) rfl ⟨Nat.le_of_ble_eq_true rfl, Nat.le_of_ble_eq_true rfl⟩ rfl rfl (Nat.le_of_ble_eq_true rfl) ⟨Nat.le_refl _, Nat.le_refl _⟩ dX7_doNext_127 (fun H locs hI => ?_)
    refine lv_goto (tgt := 156) hx hb dX7_doNext_130 (by decide) ?_
    exact hret (Option.some.inj h) hI dX7_doNext_156
  have h := zi_f n_17_5000 h
  by_cases n_17_6000 : v1 = 6000
  · have h := zi_t n_17_6000 h
    refine lv_lookup (tgt := 133) (off := 116) hx hb dX7_doNext_17 (by decide) (by rw [n_17_6000]; rfl) (by decide) ?_
    refine lv_aload_n hx hb dX7_doNext_133 rfl (lv_at hl 2 rfl) ?_
    refine lv_iload_n hx hb dX7_doNext_134 rfl (lv_at hl 0 rfl) ?_
    obtain ⟨σ18, h17, h⟩ := zb_e h
    refine z_cVv (As := [.int v2]) (rest := []) hx hb hC (hml.trans hl.1.symm) hI (c_X7_tell l G  h17) yyX7_tell q_ml_X7_242 (oX7 G) rfl ⟨Nat.le_of_ble_eq_true rfl, Nat.le_of_ble_eq_true rfl⟩ rfl rfl (Nat.le_of_ble_eq_true rfl) ⟨Nat.le_refl _, Nat.le_refl _⟩ dX7_doNext_135 (fun H locs hI => ?_)
    refine lv_aload_n hx hb dX7_doNext_138 rfl (lv_at hl 2 rfl) ?_
    refine lv_dup hx hb dX7_doNext_139 rfl ?_
    refine gX7_43 hx hb hC hI q_fl_X7_233 dX7_doNext_140 ?_
    refine lv_iconst (v := 1) hx hb dX7_doNext_143 lc_1 ?_
    refine lv_isub hx hb dX7_doNext_144 ?_
    refine pX7_43 hx hb hC hI q_fl_X7_233 dX7_doNext_145 (fun σ19 H locs e_σ19 hI => ?_)
    have h := zl_e h e_σ19
    refine lv_goto (tgt := 156) hx hb dX7_doNext_148 (by decide) ?_
    exact hret (Option.some.inj h) hI dX7_doNext_156
  have h := zi_f n_17_6000 h
  refine lv_lookup (tgt := 151) (off := 134) hx hb dX7_doNext_17 (by decide) (by simp only [Op.lookupswitch.offset, zko n_17_1000 (show (1000 : Int32).toInt = 1000 by decide), zko n_17_2000 (show (2000 : Int32).toInt = 2000 by decide), zko n_17_3000 (show (3000 : Int32).toInt = 3000 by decide), zko n_17_4000 (show (4000 : Int32).toInt = 4000 by decide), zko n_17_5000 (show (5000 : Int32).toInt = 5000 by decide), zko n_17_6000 (show (6000 : Int32).toInt = 6000 by decide), if_false]) (by decide) ?_
  refine lv_aload_n hx hb dX7_doNext_151 rfl (lv_at hl 2 rfl) ?_
  refine lv_iload_n hx hb dX7_doNext_152 rfl (lv_at hl 3 rfl) ?_
  obtain ⟨σ21, h20, h⟩ := zb_e h
  refine z_cVv (As := [.int x1]) (rest := []) hx hb hC (hml.trans hl.1.symm) hI (c_X7_tell l G  h20) yyX7_tell q_ml_X7_242 (oX7 G) rfl ⟨Nat.le_of_ble_eq_true rfl, Nat.le_of_ble_eq_true rfl⟩ rfl rfl (Nat.le_of_ble_eq_true rfl) ⟨Nat.le_refl _, Nat.le_refl _⟩ dX7_doNext_153 (fun H locs hI => ?_)
  exact hret (Option.some.inj h) hI dX7_doNext_156
set_option maxRecDepth 100000 in
set_option maxHeartbeats 4000000 in
theorem c_X7_layFold (l : Launch) (G : zG)  {σ σ' : SF} (h : F_X7_layFold σ   = some σ') : zMv l WM G yX7_layFold cX7_layFold 1 7 [.ref (za G 0)] σ σ' := by
  refine zMv_of (by decide) (Nat.le_of_ble_eq_true rfl) (fun p e s m args below meth c ls Q hx hb hr hlk hml hC hI hl hret => ?_)
  have hl : lv_has ls 1 [(0, .ref (za G 0))] := hl
  have hC : zC WM G RX7 args s m := hC
  have w_55 : ∀ (n : Nat) (σ : SF) (σo : SF), L_X7_layFold_55 n σ = some σo → ∀ (H : Heap) (locs : List Loc) (ls : Array Slot), zI WM G s σ H locs → lv_has ls 1 [(0, .ref (za G 0))] → (∀ (H : Heap) (locs : List Loc) (ls : Array Slot), zI WM G s σo H locs → lv_has ls 1 [(0, .ref (za G 0))] → W p l e (zR 7) s m args below meth c H locs 0 0 Q (F0 m 88 ls [])) → W p l e (zR 7) s m args below meth c H locs 0 0 Q (F0 m 55 ls []) := by
    intro n
    induction n with
    | zero => intro σ σo h; cases h
    | succ n ih =>
      intro σ σo h H locs ls hI hl kE
      unfold L_X7_layFold_55 at h
      refine lv_aload_n hx hb dX7_layFold_55 rfl (lv_at hl 0 rfl) ?_
      refine gX7_41 hx hb hC hI q_fl_X7_230 dX7_layFold_56 ?_
      refine lv_if_le (tgt := 88) hx hb dX7_layFold_59 (by decide) (fun hc => ?_) (fun hc => ?_)
      · have h := zi_t hc h
        cases h
        exact kE _ _ _ hI (lv_sub hl [0] rfl)
      · have h := zi_f hc h
        refine lv_aload_n hx hb dX7_layFold_62 rfl (lv_at hl 0 rfl) ?_
        refine lv_dup hx hb dX7_layFold_63 rfl ?_
        refine gX7_41 hx hb hC hI q_fl_X7_230 dX7_layFold_64 ?_
        refine lv_iconst (v := 1) hx hb dX7_layFold_67 lc_1 ?_
        refine lv_isub hx hb dX7_layFold_68 ?_
        refine pX7_41 hx hb hC hI q_fl_X7_230 dX7_layFold_69 (fun σ9 H locs e_σ9 hI => ?_)
        have h := zl_e h e_σ9
        refine lv_aload_n hx hb dX7_layFold_72 rfl (lv_at hl 0 rfl) ?_
        refine lv_aload_n hx hb dX7_layFold_73 rfl (lv_at hl 0 rfl) ?_
        refine gX7_42 hx hb hC hI q_fl_X7_68 dX7_layFold_74 ?_
        refine lv_aload_n hx hb dX7_layFold_77 rfl (lv_at hl 0 rfl) ?_
        refine gX7_41 hx hb hC hI q_fl_X7_230 dX7_layFold_78 ?_
        refine lv_topi (fun v10 e_v10 => ?_)
        have h := zl_e h e_v10
        obtain ⟨hg, h⟩ := zg_e h
        refine z_iald hx hb hC hI (vX7_42 G) hg dX7_layFold_81 ?_
        obtain ⟨σ12, h11, h⟩ := zb_e h
        refine z_cVv (As := [.int (σ9 20 (v10 : Int32).toNatClampNeg)]) (rest := []) hx hb hC (hml.trans hl.1.symm) hI (c_X7_doNext l G  h11) yyX7_doNext q_ml_X7_274 (oX7 G) rfl ⟨Nat.le_of_ble_eq_true rfl, Nat.le_of_ble_eq_true rfl⟩ rfl rfl (Nat.le_of_ble_eq_true rfl) ⟨Nat.le_refl _, Nat.le_refl _⟩ dX7_layFold_82 (fun H locs hI => ?_)
        refine lv_goto (tgt := 55) hx hb dX7_layFold_85 (by decide) ?_
        exact ih σ12 σo h _ _ _ hI (lv_sub hl [0] rfl) kE
  unfold F_X7_layFold at h
  refine lv_aload_n hx hb dX7_layFold_0 rfl (lv_at hl 0 rfl) ?_
  obtain ⟨σ2, h1, h⟩ := zb_e h
  refine z_cVv (As := []) (rest := []) hx hb hC (hml.trans hl.1.symm) hI (c_X7_layNow l G  h1) yyX7_layNow q_ml_X7_210 (oX7 G) rfl ⟨Nat.le_of_ble_eq_true rfl, Nat.le_of_ble_eq_true rfl⟩ rfl rfl (Nat.le_of_ble_eq_true rfl) ⟨Nat.le_refl _, Nat.le_refl _⟩ dX7_layFold_1 (fun H locs hI => ?_)
  refine lv_aload_n hx hb dX7_layFold_4 rfl (lv_at hl 0 rfl) ?_
  refine lv_iconst (v := 0) hx hb dX7_layFold_5 lc_0 ?_
  refine pX7_36 hx hb hC hI q_fl_X7_227 dX7_layFold_6 (fun σ3 H locs e_σ3 hI => ?_)
  have h := zl_e h e_σ3
  refine lv_aload_n hx hb dX7_layFold_9 rfl (lv_at hl 0 rfl) ?_
  refine lv_iconst (v := 0) hx hb dX7_layFold_10 lc_0 ?_
  refine pX7_37 hx hb hC hI q_fl_X7_246 dX7_layFold_11 (fun σ4 H locs e_σ4 hI => ?_)
  have h := zl_e h e_σ4
  refine lv_aload_n hx hb dX7_layFold_14 rfl (lv_at hl 0 rfl) ?_
  refine lv_iconst (v := 0) hx hb dX7_layFold_15 lc_0 ?_
  refine pX7_38 hx hb hC hI q_fl_X7_249 dX7_layFold_16 (fun σ5 H locs e_σ5 hI => ?_)
  have h := zl_e h e_σ5
  refine lv_aload_n hx hb dX7_layFold_19 rfl (lv_at hl 0 rfl) ?_
  refine lv_iconst (v := 0) hx hb dX7_layFold_20 lc_0 ?_
  refine pX7_39 hx hb hC hI q_fl_X7_236 dX7_layFold_21 (fun σ6 H locs e_σ6 hI => ?_)
  have h := zl_e h e_σ6
  refine lv_aload_n hx hb dX7_layFold_24 rfl (lv_at hl 0 rfl) ?_
  refine lv_iconst (v := 0) hx hb dX7_layFold_25 lc_0 ?_
  refine pX7_41 hx hb hC hI q_fl_X7_230 dX7_layFold_26 (fun σ7 H locs e_σ7 hI => ?_)
  have h := zl_e h e_σ7
  refine lv_aload_n hx hb dX7_layFold_29 rfl (lv_at hl 0 rfl) ?_
  refine lv_iconst (v := 0) hx hb dX7_layFold_30 lc_0 ?_
  refine pX7_43 hx hb hC hI q_fl_X7_233 dX7_layFold_31 (fun σ8 H locs e_σ8 hI => ?_)
  have h := zl_e h e_σ8
  refine lv_aload_n hx hb dX7_layFold_34 rfl (lv_at hl 0 rfl) ?_
  refine gX7_1 hx hb hC hI q_fl_X7_121 dX7_layFold_35 ?_
  refine lv_if_le (tgt := 55) hx hb dX7_layFold_38 (by decide) (fun hc => ?_) (fun hc => ?_)
  · have h := zi_t hc h
    obtain ⟨σ13, h14, h⟩ := zb_e h
    refine w_55 300 σ8 σ13 h14 _ _ _ hI (lv_sub hl [0] rfl) (fun H locs ls hI hl => ?_)
    exact hret (Option.some.inj h) hI dX7_layFold_88
  · have h := zi_f hc h
    refine lv_aload_n hx hb dX7_layFold_41 rfl (lv_at hl 0 rfl) ?_
    refine gX7_30 hx hb hC hI q_fl_X7_165 dX7_layFold_42 ?_
    refine lv_if_ne (tgt := 55) hx hb dX7_layFold_45 (by decide) (fun hc => ?_) (fun hc => ?_)
    · have h := zi_f hc h
      obtain ⟨σ15, h16, h⟩ := zb_e h
      refine w_55 300 σ8 σ15 h16 _ _ _ hI (lv_sub hl [0] rfl) (fun H locs ls hI hl => ?_)
      exact hret (Option.some.inj h) hI dX7_layFold_88
    · have h := zi_t hc h
      refine lv_aload_n hx hb dX7_layFold_48 rfl (lv_at hl 0 rfl) ?_
      refine lv_sipush (v := 1000) hx hb dX7_layFold_49 ls_1000 ?_
      obtain ⟨σ18, h17, h⟩ := zb_e h
      refine z_cVv (As := [.int 1000]) (rest := []) hx hb hC (hml.trans hl.1.symm) hI (c_X7_later l G  h17) yyX7_later q_ml_X7_255 (oX7 G) rfl ⟨Nat.le_of_ble_eq_true rfl, Nat.le_of_ble_eq_true rfl⟩ rfl rfl (Nat.le_of_ble_eq_true rfl) ⟨Nat.le_refl _, Nat.le_refl _⟩ dX7_layFold_52 (fun H locs hI => ?_)
      obtain ⟨σ19, h20, h⟩ := zb_e h
      refine w_55 300 σ18 σ19 h20 _ _ _ hI (lv_sub hl [0] rfl) (fun H locs ls hI hl => ?_)
      exact hret (Option.some.inj h) hI dX7_layFold_88
set_option maxRecDepth 100000 in
set_option maxHeartbeats 4000000 in
theorem c_X7_sign (l : Launch) (G : zG)  {σ σ' : SF} {r : Int32} {x1 : Int32} (h : F_X7_sign σ  x1 = some (r, σ')) : zMi l WM G yX7_sign cX7_sign 2 .int 8 [.ref (za G 0), .int x1] σ r σ' := by
  refine zMi_of (by decide) (Nat.le_of_ble_eq_true rfl) (fun p e s m args below meth c ls Q hx hb hr hlk hml hC hI hl hret => ?_)
  have hl : lv_has ls 2 [(0, .ref (za G 0)), (1, .int x1)] := hl
  have hC : zC WM G RX7 args s m := hC
  unfold F_X7_sign at h
  refine lv_aload_n hx hb dX7_sign_0 rfl (lv_at hl 0 rfl) ?_
  refine gX7_1 hx hb hC hI q_fl_X7_121 dX7_sign_1 ?_
  refine lv_if_ne (tgt := 10) hx hb dX7_sign_4 (by decide) (fun hc => ?_) (fun hc => ?_)
  · have h := zi_f hc h
    refine lv_aload_n hx hb dX7_sign_10 rfl (lv_at hl 0 rfl) ?_
    obtain ⟨σ2, h1, h⟩ := zb_e h
    refine z_cVv (As := []) (rest := []) hx hb hC (hml.trans hl.1.symm) hI (c_X7_layFold l G  h1) yyX7_layFold q_ml_X7_277 (oX7 G) rfl ⟨Nat.le_of_ble_eq_true rfl, Nat.le_of_ble_eq_true rfl⟩ rfl rfl (Nat.le_of_ble_eq_true rfl) ⟨Nat.le_refl _, Nat.le_refl _⟩ dX7_sign_11 (fun H locs hI => ?_)
    refine lv_iload_n hx hb dX7_sign_14 rfl (lv_at hl 1 rfl) ?_
    refine lv_iconst (v := 0) hx hb dX7_sign_15 lc_0 ?_
    refine lv_aload_n hx hb dX7_sign_16 rfl (lv_at hl 0 rfl) ?_
    refine gX7_36 hx hb hC hI q_fl_X7_227 dX7_sign_17 ?_
    refine lv_iconst (v := 1) hx hb dX7_sign_20 lc_1 ?_
    refine lv_isub hx hb dX7_sign_21 ?_
    obtain ⟨r4, h3, h⟩ := zb_e h
    refine z_cSi (As := [.int x1, .int 0, .int ((σ2 0 36) - 1)]) (rest := []) hx hb hC (hml.trans hl.1.symm) hI (c_X7_within l G  (σ := σ2) h3) yyX7_within q_ml_X7_89 ⟨Nat.le_of_ble_eq_true rfl, Nat.le_of_ble_eq_true rfl⟩ rfl rfl (Nat.le_of_ble_eq_true rfl) ⟨Nat.le_refl _, Nat.le_refl _⟩ dX7_sign_22 (fun H locs hI => ?_)
    refine lv_if_eq (tgt := 37) hx hb dX7_sign_25 (by decide) (fun hc => ?_) (fun hc => ?_)
    · have h := zi_t hc h
      refine lv_bipush (v := (-101)) hx hb dX7_sign_37 lb_m101 ?_
      exact hret ⟨congrArg Prod.fst (Option.some.inj h), congrArg Prod.snd (Option.some.inj h)⟩ hI rfl dX7_sign_39
    · have h := zi_f hc h
      refine lv_aload_n hx hb dX7_sign_28 rfl (lv_at hl 0 rfl) ?_
      refine gX7_40 hx hb hC hI q_fl_X7_65 dX7_sign_29 ?_
      refine lv_iload_n hx hb dX7_sign_32 rfl (lv_at hl 1 rfl) ?_
      obtain ⟨hg, h⟩ := zg_e h
      refine z_iald hx hb hC hI (vX7_40 G) hg dX7_sign_33 ?_
      refine lv_goto (tgt := 39) hx hb dX7_sign_34 (by decide) ?_
      exact hret ⟨congrArg Prod.fst (Option.some.inj h), congrArg Prod.snd (Option.some.inj h)⟩ hI rfl dX7_sign_39
  · have h := zi_t hc h
    refine lv_bipush (v := (-101)) hx hb dX7_sign_7 lb_m101 ?_
    exact hret ⟨congrArg Prod.fst (Option.some.inj h), congrArg Prod.snd (Option.some.inj h)⟩ hI rfl dX7_sign_9
set_option maxRecDepth 100000 in
set_option maxHeartbeats 4000000 in
theorem c_X7_foldNow (l : Launch) (G : zG)  {σ : SF} {r : Int32} {x1 : Int32} (h : F_X7_foldNow σ  x1 = some r) : zMi l WM G yX7_foldNow cX7_foldNow 2 .int 1 [.ref (za G 0), .int x1] σ r σ := by
  refine zMi_of (by decide) (Nat.le_of_ble_eq_true rfl) (fun p e s m args below meth c ls Q hx hb hr hlk hml hC hI hl hret => ?_)
  have hl : lv_has ls 2 [(0, .ref (za G 0)), (1, .int x1)] := hl
  have hC : zC WM G RX7 args s m := hC
  unfold F_X7_foldNow at h
  refine lv_aload_n hx hb dX7_foldNow_0 rfl (lv_at hl 0 rfl) ?_
  refine gX7_30 hx hb hC hI q_fl_X7_165 dX7_foldNow_1 ?_
  refine lv_if_le (tgt := 11) hx hb dX7_foldNow_4 (by decide) (fun hc => ?_) (fun hc => ?_)
  · have h := zi_t hc h
    refine lv_iload_n hx hb dX7_foldNow_11 rfl (lv_at hl 1 rfl) ?_
    refine lv_if_ne (tgt := 22) hx hb dX7_foldNow_12 (by decide) (fun hc => ?_) (fun hc => ?_)
    · have h := zi_f hc h
      refine lv_iload_n hx hb dX7_foldNow_22 rfl (lv_at hl 1 rfl) ?_
      refine lv_iconst (v := 1) hx hb dX7_foldNow_23 lc_1 ?_
      refine lv_icmp_ne (tgt := 34) hx hb dX7_foldNow_24 (by decide) (fun hc => ?_) (fun hc => ?_)
      · have h := zi_f hc h
        refine lv_iload_n hx hb dX7_foldNow_34 rfl (lv_at hl 1 rfl) ?_
        refine lv_iconst (v := 2) hx hb dX7_foldNow_35 lc_2 ?_
        refine lv_icmp_ne (tgt := 46) hx hb dX7_foldNow_36 (by decide) (fun hc => ?_) (fun hc => ?_)
        · have h := zi_f hc h
          refine lv_aload_n hx hb dX7_foldNow_46 rfl (lv_at hl 0 rfl) ?_
          refine gX7_39 hx hb hC hI q_fl_X7_236 dX7_foldNow_47 ?_
          exact hret ⟨(Option.some.inj h), rfl⟩ hI rfl dX7_foldNow_50
        · have h := zi_t hc h
          refine lv_aload_n hx hb dX7_foldNow_39 rfl (lv_at hl 0 rfl) ?_
          refine gX7_38 hx hb hC hI q_fl_X7_249 dX7_foldNow_40 ?_
          refine lv_goto (tgt := 50) hx hb dX7_foldNow_43 (by decide) ?_
          exact hret ⟨(Option.some.inj h), rfl⟩ hI rfl dX7_foldNow_50
      · have h := zi_t hc h
        refine lv_aload_n hx hb dX7_foldNow_27 rfl (lv_at hl 0 rfl) ?_
        refine gX7_37 hx hb hC hI q_fl_X7_246 dX7_foldNow_28 ?_
        refine lv_goto (tgt := 50) hx hb dX7_foldNow_31 (by decide) ?_
        exact hret ⟨(Option.some.inj h), rfl⟩ hI rfl dX7_foldNow_50
    · have h := zi_t hc h
      refine lv_aload_n hx hb dX7_foldNow_15 rfl (lv_at hl 0 rfl) ?_
      refine gX7_36 hx hb hC hI q_fl_X7_227 dX7_foldNow_16 ?_
      refine lv_goto (tgt := 50) hx hb dX7_foldNow_19 (by decide) ?_
      exact hret ⟨(Option.some.inj h), rfl⟩ hI rfl dX7_foldNow_50
  · have h := zi_f hc h
    refine lv_iconst (v := (-1)) hx hb dX7_foldNow_7 lc_m1 ?_
    refine lv_goto (tgt := 50) hx hb dX7_foldNow_8 (by decide) ?_
    exact hret ⟨(Option.some.inj h), rfl⟩ hI rfl dX7_foldNow_50
set_option maxRecDepth 100000 in
set_option maxHeartbeats 4000000 in
theorem c_X7_fold (l : Launch) (G : zG)  {σ σ' : SF} {r : Int32} {x1 : Int32} (h : F_X7_fold σ  x1 = some (r, σ')) : zMi l WM G yX7_fold cX7_fold 2 .int 8 [.ref (za G 0), .int x1] σ r σ' := by
  refine zMi_of (by decide) (Nat.le_of_ble_eq_true rfl) (fun p e s m args below meth c ls Q hx hb hr hlk hml hC hI hl hret => ?_)
  have hl : lv_has ls 2 [(0, .ref (za G 0)), (1, .int x1)] := hl
  have hC : zC WM G RX7 args s m := hC
  unfold F_X7_fold at h
  refine lv_iload_n hx hb dX7_fold_0 rfl (lv_at hl 1 rfl) ?_
  refine lv_iconst (v := 0) hx hb dX7_fold_1 lc_0 ?_
  refine lv_iconst (v := 3) hx hb dX7_fold_2 lc_3 ?_
  obtain ⟨r2, h1, h⟩ := zb_e h
  refine z_cSi (As := [.int x1, .int 0, .int 3]) (rest := []) hx hb hC (hml.trans hl.1.symm) hI (c_X7_within l G  (σ := σ) h1) yyX7_within q_ml_X7_89 ⟨Nat.le_of_ble_eq_true rfl, Nat.le_of_ble_eq_true rfl⟩ rfl rfl (Nat.le_of_ble_eq_true rfl) ⟨Nat.le_refl _, Nat.le_refl _⟩ dX7_fold_3 (fun H locs hI => ?_)
  refine lv_if_ne (tgt := 12) hx hb dX7_fold_6 (by decide) (fun hc => ?_) (fun hc => ?_)
  · have h := zi_f hc h
    refine lv_aload_n hx hb dX7_fold_12 rfl (lv_at hl 0 rfl) ?_
    refine gX7_1 hx hb hC hI q_fl_X7_121 dX7_fold_13 ?_
    refine lv_if_ne (tgt := 22) hx hb dX7_fold_16 (by decide) (fun hc => ?_) (fun hc => ?_)
    · have h := zi_f hc h
      refine lv_aload_n hx hb dX7_fold_22 rfl (lv_at hl 0 rfl) ?_
      obtain ⟨σ4, h3, h⟩ := zb_e h
      refine z_cVv (As := []) (rest := []) hx hb hC (hml.trans hl.1.symm) hI (c_X7_layFold l G  h3) yyX7_layFold q_ml_X7_277 (oX7 G) rfl ⟨Nat.le_of_ble_eq_true rfl, Nat.le_of_ble_eq_true rfl⟩ rfl rfl (Nat.le_of_ble_eq_true rfl) ⟨Nat.le_refl _, Nat.le_refl _⟩ dX7_fold_23 (fun H locs hI => ?_)
      refine lv_aload_n hx hb dX7_fold_26 rfl (lv_at hl 0 rfl) ?_
      refine lv_iload_n hx hb dX7_fold_27 rfl (lv_at hl 1 rfl) ?_
      obtain ⟨r6, h5, h⟩ := zb_e h
      refine z_cVi (As := [.int x1]) (rest := []) hx hb hC (hml.trans hl.1.symm) hI (c_X7_foldNow l G  h5) yyX7_foldNow q_ml_X7_280 (oX7 G) rfl ⟨Nat.le_of_ble_eq_true rfl, Nat.le_of_ble_eq_true rfl⟩ rfl rfl (Nat.le_of_ble_eq_true rfl) ⟨Nat.le_refl _, Nat.le_refl _⟩ dX7_fold_28 (fun H locs hI => ?_)
      exact hret ⟨congrArg Prod.fst (Option.some.inj h), congrArg Prod.snd (Option.some.inj h)⟩ hI rfl dX7_fold_31
    · have h := zi_t hc h
      refine lv_bipush (v := (-103)) hx hb dX7_fold_19 lb_m103 ?_
      exact hret ⟨congrArg Prod.fst (Option.some.inj h), congrArg Prod.snd (Option.some.inj h)⟩ hI rfl dX7_fold_21
  · have h := zi_t hc h
    refine lv_bipush (v := (-102)) hx hb dX7_fold_9 lb_m102 ?_
    exact hret ⟨congrArg Prod.fst (Option.some.inj h), congrArg Prod.snd (Option.some.inj h)⟩ hI rfl dX7_fold_11
set_option maxRecDepth 100000 in
set_option maxHeartbeats 4000000 in
theorem c_X7_mendSet (l : Launch) (G : zG)  {σ σ' : SF} {r : Int32} (h : F_X7_mendSet σ   = some (r, σ')) : zMi l WM G yX7_mendSet cX7_mendSet 5 .int 7 [.ref (za G 0)] σ r σ' := by
  refine zMi_of (by decide) (Nat.le_of_ble_eq_true rfl) (fun p e s m args below meth c ls Q hx hb hr hlk hml hC hI hl hret => ?_)
  have hl : lv_has ls 5 [(0, .ref (za G 0))] := hl
  have hC : zC WM G RX7 args s m := hC
  have w_8 : ∀ (n : Nat) (σ : SF) (y1 : Int32) (y2 : Int32) (y1o : Int32) (y2o : Int32), L_X7_mendSet_8 σ n y1 y2 = some (y1o, y2o) → ∀ (H : Heap) (locs : List Loc) (ls : Array Slot), zI WM G s σ H locs → lv_has ls 5 [(0, .ref (za G 0)), (1, .int y1), (2, .int y2)] → (∀ (H : Heap) (locs : List Loc) (ls : Array Slot), zI WM G s σ H locs → lv_has ls 5 [(0, .ref (za G 0)), (1, .int y1o), (2, .int y2o)] → W p l e (zR 7) s m args below meth c H locs 0 0 Q (F0 m 42 ls [])) → W p l e (zR 7) s m args below meth c H locs 0 0 Q (F0 m 8 ls []) := by
    intro n
    induction n with
    | zero => intro σ y1 y2 y1o y2o h; cases h
    | succ n ih =>
      intro σ y1 y2 y1o y2o h H locs ls hI hl kE
      unfold L_X7_mendSet_8 at h
      refine lv_iload_n hx hb dX7_mendSet_8 rfl (lv_at hl 2 rfl) ?_
      refine lv_iconst (v := 2) hx hb dX7_mendSet_9 lc_2 ?_
      refine lv_aload_n hx hb dX7_mendSet_10 rfl (lv_at hl 0 rfl) ?_
      refine gX7_1 hx hb hC hI q_fl_X7_121 dX7_mendSet_11 ?_
      refine lv_imul hx hb dX7_mendSet_14 ?_
      refine lv_icmp_ge (tgt := 42) hx hb dX7_mendSet_15 (by decide) (fun hc => ?_) (fun hc => ?_)
      · have h := zi_t hc h
        cases h
        exact kE _ _ _ hI (lv_sub hl [0, 1, 2] rfl)
      · have h := zi_f hc h
        refine lv_iload_n hx hb dX7_mendSet_18 rfl (lv_at hl 1 rfl) ?_
        refine lv_aload_n hx hb dX7_mendSet_19 rfl (lv_at hl 0 rfl) ?_
        refine lv_iload_n hx hb dX7_mendSet_20 rfl (lv_at hl 2 rfl) ?_
        obtain ⟨r4, h3, h⟩ := zb_e h
        refine z_cVi (As := [.int y2]) (rest := [.int y1]) hx hb hC (hml.trans hl.1.symm) hI (c_X7_isLive l G  h3) yyX7_isLive q_ml_X7_174 (oX7 G) rfl ⟨Nat.le_of_ble_eq_true rfl, Nat.le_of_ble_eq_true rfl⟩ rfl rfl (Nat.le_of_ble_eq_true rfl) ⟨Nat.le_refl _, Nat.le_refl _⟩ dX7_mendSet_21 (fun H locs hI => ?_)
        refine lv_if_eq (tgt := 33) hx hb dX7_mendSet_24 (by decide) (fun hc => ?_) (fun hc => ?_)
        · have h := zi_t hc h
          refine lv_iconst (v := 0) hx hb dX7_mendSet_33 lc_0 ?_
          refine lv_ior hx hb dX7_mendSet_34 ?_
          refine lv_topi (fun v5 e_v5 => ?_)
          have h := zl_e h e_v5
          refine lv_istore_n (lv' := [(1, .int v5), (0, .ref (za G 0)), (2, .int y2)]) hx hb dX7_mendSet_35 rfl hl (by decide) rfl (fun ls hl => ?_)
          obtain ⟨v6, e_v6⟩ : ∃ y : Int32, y = y2 + 1 := ⟨_, rfl⟩
          have h := zl_e h e_v6
          refine lv_iinc (v := v6) (lv' := [(2, .int v6), (1, .int v5), (0, .ref (za G 0))]) hx hb dX7_mendSet_36 hl (k := 2) rfl (by rw [lc_1]; exact e_v6.symm) (by decide) rfl (fun ls hl => ?_)
          refine lv_goto (tgt := 8) hx hb dX7_mendSet_39 (by decide) ?_
          exact ih σ v5 v6 y1o y2o h _ _ _ hI (lv_sub hl [2, 1, 0] rfl) kE
        · have h := zi_f hc h
          refine lv_iconst (v := 1) hx hb dX7_mendSet_27 lc_1 ?_
          refine lv_iload_n hx hb dX7_mendSet_28 rfl (lv_at hl 2 rfl) ?_
          refine lv_ishl hx hb dX7_mendSet_29 ?_
          refine lv_goto (tgt := 34) hx hb dX7_mendSet_30 (by decide) ?_
          refine lv_ior hx hb dX7_mendSet_34 ?_
          refine lv_topi (fun v7 e_v7 => ?_)
          have h := zl_e h e_v7
          refine lv_istore_n (lv' := [(1, .int v7), (0, .ref (za G 0)), (2, .int y2)]) hx hb dX7_mendSet_35 rfl hl (by decide) rfl (fun ls hl => ?_)
          obtain ⟨v8, e_v8⟩ : ∃ y : Int32, y = y2 + 1 := ⟨_, rfl⟩
          have h := zl_e h e_v8
          refine lv_iinc (v := v8) (lv' := [(2, .int v8), (1, .int v7), (0, .ref (za G 0))]) hx hb dX7_mendSet_36 hl (k := 2) rfl (by rw [lc_1]; exact e_v8.symm) (by decide) rfl (fun ls hl => ?_)
          refine lv_goto (tgt := 8) hx hb dX7_mendSet_39 (by decide) ?_
          exact ih σ v7 v8 y1o y2o h _ _ _ hI (lv_sub hl [2, 1, 0] rfl) kE
  have w_49 : ∀ (n : Nat) (y1 : Int32) (y2 : Int32) (y3 : Int32) (y4 : Int32) (σ : SF) (y2o : Int32) (y3o : Int32) (y4o : Int32) (σo : SF), L_X7_mendSet_49 y1 n y2 y3 y4 σ = some (y2o, y3o, y4o, σo) → ∀ (H : Heap) (locs : List Loc) (ls : Array Slot), zI WM G s σ H locs → lv_has ls 5 [(0, .ref (za G 0)), (1, .int y1), (2, .int y2), (3, .int y3), (4, .int y4)] → (∀ (H : Heap) (locs : List Loc) (ls : Array Slot), zI WM G s σo H locs → lv_has ls 5 [(0, .ref (za G 0)), (1, .int y1), (2, .int y2o), (3, .int y3o), (4, .int y4o)] → W p l e (zR 7) s m args below meth c H locs 0 0 Q (F0 m 118 ls [])) → W p l e (zR 7) s m args below meth c H locs 0 0 Q (F0 m 49 ls []) := by
    intro n
    induction n with
    | zero => intro y1 y2 y3 y4 σ y2o y3o y4o σo h; cases h
    | succ n ih =>
      intro y1 y2 y3 y4 σ y2o y3o y4o σo h H locs ls hI hl kE
      unfold L_X7_mendSet_49 at h
      refine lv_iload hx hb dX7_mendSet_49 (lv_at hl 4 rfl) ?_
      refine lv_if_lt (tgt := 118) hx hb dX7_mendSet_51 (by decide) (fun hc => ?_) (fun hc => ?_)
      · have h := zi_t hc h
        cases h
        exact kE _ _ _ hI (lv_sub hl [0, 1, 2, 3, 4] rfl)
      · have h := zi_f hc h
        refine lv_iload hx hb dX7_mendSet_54 (lv_at hl 4 rfl) ?_
        obtain ⟨r13, h12, h⟩ := zb_e h
        refine z_cSi (As := [.int y4]) (rest := []) hx hb hC (hml.trans hl.1.symm) hI (c_X7_size l G  (σ := σ) h12) yyX7_size q_ml_X7_156 ⟨Nat.le_of_ble_eq_true rfl, Nat.le_of_ble_eq_true rfl⟩ rfl rfl (Nat.le_of_ble_eq_true rfl) ⟨Nat.le_refl _, Nat.le_refl _⟩ dX7_mendSet_56 (fun H locs hI => ?_)
        refine lv_iload_n hx hb dX7_mendSet_59 rfl (lv_at hl 3 rfl) ?_
        refine lv_icmp_gt (tgt := 98) hx hb dX7_mendSet_60 (by decide) (fun hc => ?_) (fun hc => ?_)
        · have h := zi_t hc h
          refine lv_iload hx hb dX7_mendSet_98 (lv_at hl 4 rfl) ?_
          refine lv_if_ne (tgt := 107) hx hb dX7_mendSet_100 (by decide) (fun hc => ?_) (fun hc => ?_)
          · have h := zi_f hc h
            refine lv_iload hx hb dX7_mendSet_107 (lv_at hl 4 rfl) ?_
            refine lv_iconst (v := 1) hx hb dX7_mendSet_109 lc_1 ?_
            refine lv_isub hx hb dX7_mendSet_110 ?_
            refine lv_iload_n hx hb dX7_mendSet_111 rfl (lv_at hl 1 rfl) ?_
            refine lv_iand hx hb dX7_mendSet_112 ?_
            refine lv_topi (fun v14 e_v14 => ?_)
            have h := zl_e h e_v14
            refine lv_istore (lv' := [(4, .int v14), (0, .ref (za G 0)), (1, .int y1), (2, .int y2), (3, .int y3)]) hx hb dX7_mendSet_113 hl (by decide) rfl (fun ls hl => ?_)
            refine lv_goto (tgt := 49) hx hb dX7_mendSet_115 (by decide) ?_
            exact ih y1 y2 y3 v14 σ y2o y3o y4o σo h _ _ _ hI (lv_sub hl [1, 2, 3, 4, 0] rfl) kE
          · have h := zi_t hc h
            refine lv_iconst (v := (-1)) hx hb dX7_mendSet_103 lc_m1 ?_
            refine lv_goto (tgt := 113) hx hb dX7_mendSet_104 (by decide) ?_
            refine lv_istore (lv' := [(4, .int (-1)), (0, .ref (za G 0)), (1, .int y1), (2, .int y2), (3, .int y3)]) hx hb dX7_mendSet_113 hl (by decide) rfl (fun ls hl => ?_)
            refine lv_goto (tgt := 49) hx hb dX7_mendSet_115 (by decide) ?_
            exact ih y1 y2 y3 (-1) σ y2o y3o y4o σo h _ _ _ hI (lv_sub hl [1, 2, 3, 4, 0] rfl) kE
        · have h := zi_f hc h
          refine lv_iload hx hb dX7_mendSet_63 (lv_at hl 4 rfl) ?_
          obtain ⟨r16, h15, h⟩ := zb_e h
          refine z_cSi (As := [.int y4]) (rest := []) hx hb hC (hml.trans hl.1.symm) hI (c_X7_size l G  (σ := σ) h15) yyX7_size q_ml_X7_156 ⟨Nat.le_of_ble_eq_true rfl, Nat.le_of_ble_eq_true rfl⟩ rfl rfl (Nat.le_of_ble_eq_true rfl) ⟨Nat.le_refl _, Nat.le_refl _⟩ dX7_mendSet_65 (fun H locs hI => ?_)
          refine lv_iconst (v := 4) hx hb dX7_mendSet_68 lc_4 ?_
          refine lv_icmp_ge (tgt := 98) hx hb dX7_mendSet_69 (by decide) (fun hc => ?_) (fun hc => ?_)
          · have h := zi_t hc h
            refine lv_iload hx hb dX7_mendSet_98 (lv_at hl 4 rfl) ?_
            refine lv_if_ne (tgt := 107) hx hb dX7_mendSet_100 (by decide) (fun hc => ?_) (fun hc => ?_)
            · have h := zi_f hc h
              refine lv_iload hx hb dX7_mendSet_107 (lv_at hl 4 rfl) ?_
              refine lv_iconst (v := 1) hx hb dX7_mendSet_109 lc_1 ?_
              refine lv_isub hx hb dX7_mendSet_110 ?_
              refine lv_iload_n hx hb dX7_mendSet_111 rfl (lv_at hl 1 rfl) ?_
              refine lv_iand hx hb dX7_mendSet_112 ?_
              refine lv_topi (fun v17 e_v17 => ?_)
              have h := zl_e h e_v17
              refine lv_istore (lv' := [(4, .int v17), (0, .ref (za G 0)), (1, .int y1), (2, .int y2), (3, .int y3)]) hx hb dX7_mendSet_113 hl (by decide) rfl (fun ls hl => ?_)
              refine lv_goto (tgt := 49) hx hb dX7_mendSet_115 (by decide) ?_
              exact ih y1 y2 y3 v17 σ y2o y3o y4o σo h _ _ _ hI (lv_sub hl [1, 2, 3, 4, 0] rfl) kE
            · have h := zi_t hc h
              refine lv_iconst (v := (-1)) hx hb dX7_mendSet_103 lc_m1 ?_
              refine lv_goto (tgt := 113) hx hb dX7_mendSet_104 (by decide) ?_
              refine lv_istore (lv' := [(4, .int (-1)), (0, .ref (za G 0)), (1, .int y1), (2, .int y2), (3, .int y3)]) hx hb dX7_mendSet_113 hl (by decide) rfl (fun ls hl => ?_)
              refine lv_goto (tgt := 49) hx hb dX7_mendSet_115 (by decide) ?_
              exact ih y1 y2 y3 (-1) σ y2o y3o y4o σo h _ _ _ hI (lv_sub hl [1, 2, 3, 4, 0] rfl) kE
          · have h := zi_f hc h
            refine lv_aload_n hx hb dX7_mendSet_72 rfl (lv_at hl 0 rfl) ?_
            refine lv_iload hx hb dX7_mendSet_73 (lv_at hl 4 rfl) ?_
            refine pX7_19 hx hb hC hI q_fl_X7_136 dX7_mendSet_75 (fun σ18 H locs e_σ18 hI => ?_)
            have h := zl_e h e_σ18
            refine lv_aload_n hx hb dX7_mendSet_78 rfl (lv_at hl 0 rfl) ?_
            obtain ⟨σ20, h19, h⟩ := zb_e h
            refine z_cVv (As := []) (rest := []) hx hb hC (hml.trans hl.1.symm) hI (c_X7_lay l G  h19) yyX7_lay q_ml_X7_195 (oX7 G) rfl ⟨Nat.le_of_ble_eq_true rfl, Nat.le_of_ble_eq_true rfl⟩ rfl rfl (Nat.le_of_ble_eq_true rfl) ⟨Nat.le_refl _, Nat.le_refl _⟩ dX7_mendSet_79 (fun H locs hI => ?_)
            refine lv_aload_n hx hb dX7_mendSet_82 rfl (lv_at hl 0 rfl) ?_
            refine gX7_30 hx hb hC hI q_fl_X7_165 dX7_mendSet_83 ?_
            refine lv_if_ne (tgt := 98) hx hb dX7_mendSet_86 (by decide) (fun hc => ?_) (fun hc => ?_)
            · have h := zi_f hc h
              refine lv_iload hx hb dX7_mendSet_98 (lv_at hl 4 rfl) ?_
              refine lv_if_ne (tgt := 107) hx hb dX7_mendSet_100 (by decide) (fun hc => ?_) (fun hc => ?_)
              · have h := zi_f hc h
                refine lv_iload hx hb dX7_mendSet_107 (lv_at hl 4 rfl) ?_
                refine lv_iconst (v := 1) hx hb dX7_mendSet_109 lc_1 ?_
                refine lv_isub hx hb dX7_mendSet_110 ?_
                refine lv_iload_n hx hb dX7_mendSet_111 rfl (lv_at hl 1 rfl) ?_
                refine lv_iand hx hb dX7_mendSet_112 ?_
                refine lv_topi (fun v21 e_v21 => ?_)
                have h := zl_e h e_v21
                refine lv_istore (lv' := [(4, .int v21), (0, .ref (za G 0)), (1, .int y1), (2, .int y2), (3, .int y3)]) hx hb dX7_mendSet_113 hl (by decide) rfl (fun ls hl => ?_)
                refine lv_goto (tgt := 49) hx hb dX7_mendSet_115 (by decide) ?_
                exact ih y1 y2 y3 v21 σ20 y2o y3o y4o σo h _ _ _ hI (lv_sub hl [1, 2, 3, 4, 0] rfl) kE
              · have h := zi_t hc h
                refine lv_iconst (v := (-1)) hx hb dX7_mendSet_103 lc_m1 ?_
                refine lv_goto (tgt := 113) hx hb dX7_mendSet_104 (by decide) ?_
                refine lv_istore (lv' := [(4, .int (-1)), (0, .ref (za G 0)), (1, .int y1), (2, .int y2), (3, .int y3)]) hx hb dX7_mendSet_113 hl (by decide) rfl (fun ls hl => ?_)
                refine lv_goto (tgt := 49) hx hb dX7_mendSet_115 (by decide) ?_
                exact ih y1 y2 y3 (-1) σ20 y2o y3o y4o σo h _ _ _ hI (lv_sub hl [1, 2, 3, 4, 0] rfl) kE
            · have h := zi_t hc h
              refine lv_iload hx hb dX7_mendSet_89 (lv_at hl 4 rfl) ?_
              refine lv_istore_n (lv' := [(2, .int y4), (0, .ref (za G 0)), (1, .int y1), (3, .int y3), (4, .int y4)]) hx hb dX7_mendSet_91 rfl hl (by decide) rfl (fun ls hl => ?_)
              refine lv_iload hx hb dX7_mendSet_92 (lv_at hl 4 rfl) ?_
              obtain ⟨r23, h22, h⟩ := zb_e h
              refine z_cSi (As := [.int y4]) (rest := []) hx hb hC (hml.trans hl.1.symm) hI (c_X7_size l G  (σ := σ20) h22) yyX7_size q_ml_X7_156 ⟨Nat.le_of_ble_eq_true rfl, Nat.le_of_ble_eq_true rfl⟩ rfl rfl (Nat.le_of_ble_eq_true rfl) ⟨Nat.le_refl _, Nat.le_refl _⟩ dX7_mendSet_94 (fun H locs hI => ?_)
              refine lv_istore_n (lv' := [(3, .int r23), (2, .int y4), (0, .ref (za G 0)), (1, .int y1), (4, .int y4)]) hx hb dX7_mendSet_97 rfl hl (by decide) rfl (fun ls hl => ?_)
              refine lv_iload hx hb dX7_mendSet_98 (lv_at hl 4 rfl) ?_
              refine lv_if_ne (tgt := 107) hx hb dX7_mendSet_100 (by decide) (fun hc => ?_) (fun hc => ?_)
              · have h := zi_f hc h
                refine lv_iload hx hb dX7_mendSet_107 (lv_at hl 4 rfl) ?_
                refine lv_iconst (v := 1) hx hb dX7_mendSet_109 lc_1 ?_
                refine lv_isub hx hb dX7_mendSet_110 ?_
                refine lv_iload_n hx hb dX7_mendSet_111 rfl (lv_at hl 3 rfl) ?_
                refine lv_iand hx hb dX7_mendSet_112 ?_
                refine lv_topi (fun v24 e_v24 => ?_)
                have h := zl_e h e_v24
                refine lv_istore (lv' := [(4, .int v24), (3, .int r23), (2, .int y4), (0, .ref (za G 0)), (1, .int y1)]) hx hb dX7_mendSet_113 hl (by decide) rfl (fun ls hl => ?_)
                refine lv_goto (tgt := 49) hx hb dX7_mendSet_115 (by decide) ?_
                exact ih y1 y4 r23 v24 σ20 y2o y3o y4o σo h _ _ _ hI (lv_sub hl [3, 4, 2, 1, 0] rfl) kE
              · have h := zi_t hc h
                refine lv_iconst (v := (-1)) hx hb dX7_mendSet_103 lc_m1 ?_
                refine lv_goto (tgt := 113) hx hb dX7_mendSet_104 (by decide) ?_
                refine lv_istore (lv' := [(4, .int (-1)), (3, .int r23), (2, .int y4), (0, .ref (za G 0)), (1, .int y1)]) hx hb dX7_mendSet_113 hl (by decide) rfl (fun ls hl => ?_)
                refine lv_goto (tgt := 49) hx hb dX7_mendSet_115 (by decide) ?_
                exact ih y1 y4 r23 (-1) σ20 y2o y3o y4o σo h _ _ _ hI (lv_sub hl [3, 4, 2, 1, 0] rfl) kE
  unfold F_X7_mendSet at h
  refine lv_aload_n hx hb dX7_mendSet_0 rfl (lv_at hl 0 rfl) ?_
  obtain ⟨σ2, h1, h⟩ := zb_e h
  refine z_cVv (As := []) (rest := []) hx hb hC (hml.trans hl.1.symm) hI (c_X7_layNow l G  h1) yyX7_layNow q_ml_X7_210 (oX7 G) rfl ⟨Nat.le_of_ble_eq_true rfl, Nat.le_of_ble_eq_true rfl⟩ rfl rfl (Nat.le_of_ble_eq_true rfl) ⟨Nat.le_refl _, Nat.le_refl _⟩ dX7_mendSet_1 (fun H locs hI => ?_)
  refine lv_iconst (v := 0) hx hb dX7_mendSet_4 lc_0 ?_
  refine lv_istore_n (lv' := [(1, .int 0), (0, .ref (za G 0))]) hx hb dX7_mendSet_5 rfl hl (by decide) rfl (fun ls hl => ?_)
  refine lv_iconst (v := 0) hx hb dX7_mendSet_6 lc_0 ?_
  refine lv_istore_n (lv' := [(2, .int 0), (1, .int 0), (0, .ref (za G 0))]) hx hb dX7_mendSet_7 rfl hl (by decide) rfl (fun ls hl => ?_)
  obtain ⟨v9, v10, h11, h⟩ := zb2_e h
  refine w_8 100 σ2 0 0 v9 v10 h11 _ _ _ hI (lv_sub hl [2, 1, 0] rfl) (fun H locs ls hI hl => ?_)
  refine lv_iconst (v := (-1)) hx hb dX7_mendSet_42 lc_m1 ?_
  refine lv_istore_n (lv' := [(2, .int (-1)), (0, .ref (za G 0)), (1, .int v9)]) hx hb dX7_mendSet_43 rfl hl (by decide) rfl (fun ls hl => ?_)
  refine lv_iconst (v := 4) hx hb dX7_mendSet_44 lc_4 ?_
  refine lv_istore_n (lv' := [(3, .int 4), (2, .int (-1)), (0, .ref (za G 0)), (1, .int v9)]) hx hb dX7_mendSet_45 rfl hl (by decide) rfl (fun ls hl => ?_)
  refine lv_iload_n hx hb dX7_mendSet_46 rfl (lv_at hl 3 rfl) ?_
  refine lv_istore (lv' := [(4, .int v9), (3, .int 4), (2, .int (-1)), (0, .ref (za G 0)), (1, .int v9)]) hx hb dX7_mendSet_47 hl (by decide) rfl (fun ls hl => ?_)
  obtain ⟨v25, v26, v27, σ28, h29, h⟩ := zb4_e h
  refine w_49 70000 v9 (-1) 4 v9 σ2 v25 v26 v27 σ28 h29 _ _ _ hI (lv_sub hl [3, 4, 2, 1, 0] rfl) (fun H locs ls hI hl => ?_)
  refine lv_iload_n hx hb dX7_mendSet_118 rfl (lv_at hl 2 rfl) ?_
  exact hret ⟨congrArg Prod.fst (Option.some.inj h), congrArg Prod.snd (Option.some.inj h)⟩ hI rfl dX7_mendSet_119
set_option maxRecDepth 100000 in
set_option maxHeartbeats 4000000 in
theorem c_X7_mendNow (l : Launch) (G : zG)  {σ σ' : SF} {r : Int32} {x1 : Int32} (h : F_X7_mendNow σ  x1 = some (r, σ')) : zMi l WM G yX7_mendNow cX7_mendNow 3 .int 8 [.ref (za G 0), .int x1] σ r σ' := by
  refine zMi_of (by decide) (Nat.le_of_ble_eq_true rfl) (fun p e s m args below meth c ls Q hx hb hr hlk hml hC hI hl hret => ?_)
  have hl : lv_has ls 3 [(0, .ref (za G 0)), (1, .int x1)] := hl
  have hC : zC WM G RX7 args s m := hC
  unfold F_X7_mendNow at h
  refine lv_aload_n hx hb dX7_mendNow_0 rfl (lv_at hl 0 rfl) ?_
  refine lv_dup hx hb dX7_mendNow_1 rfl ?_
  refine gX7_6 hx hb hC hI q_fl_X7_283 dX7_mendNow_2 ?_
  refine lv_iconst (v := 1) hx hb dX7_mendNow_5 lc_1 ?_
  refine lv_iadd hx hb dX7_mendNow_6 ?_
  refine pX7_6 hx hb hC hI q_fl_X7_283 dX7_mendNow_7 (fun σ1 H locs e_σ1 hI => ?_)
  have h := zl_e h e_σ1
  refine lv_aload_n hx hb dX7_mendNow_10 rfl (lv_at hl 0 rfl) ?_
  obtain ⟨r4, σ3, h2, h⟩ := zb2_e h
  refine z_cVi (As := []) (rest := []) hx hb hC (hml.trans hl.1.symm) hI (c_X7_mendSet l G  h2) yyX7_mendSet q_ml_X7_286 (oX7 G) rfl ⟨Nat.le_of_ble_eq_true rfl, Nat.le_of_ble_eq_true rfl⟩ rfl rfl (Nat.le_of_ble_eq_true rfl) ⟨Nat.le_refl _, Nat.le_refl _⟩ dX7_mendNow_11 (fun H locs hI => ?_)
  refine lv_istore_n (lv' := [(2, .int r4), (0, .ref (za G 0)), (1, .int x1)]) hx hb dX7_mendNow_14 rfl hl (by decide) rfl (fun ls hl => ?_)
  refine lv_iload_n hx hb dX7_mendNow_15 rfl (lv_at hl 0 rfl) ?_
  refine lv_iconst (v := (-1)) hx hb dX7_mendNow_16 lc_m1 ?_
  refine lv_icmp_ne (tgt := 24) hx hb dX7_mendNow_17 (by decide) (fun hc => ?_) (fun hc => ?_)
  · have h := zi_f hc h
    refine lv_iload_n hx hb dX7_mendNow_24 rfl (lv_at hl 2 rfl) ?_
    refine lv_if_ne (tgt := 35) hx hb dX7_mendNow_25 (by decide) (fun hc => ?_) (fun hc => ?_)
    · have h := zi_f hc h
      refine lv_iload_n hx hb dX7_mendNow_35 rfl (lv_at hl 0 rfl) ?_
      exact hret ⟨congrArg Prod.fst (Option.some.inj h), congrArg Prod.snd (Option.some.inj h)⟩ hI rfl dX7_mendNow_36
    · have h := zi_t hc h
      refine lv_iload_n hx hb dX7_mendNow_28 rfl (lv_at hl 0 rfl) ?_
      obtain ⟨r6, h5, h⟩ := zb_e h
      refine z_cSi (As := [.int r4]) (rest := []) hx hb hC (hml.trans hl.1.symm) hI (c_X7_size l G  (σ := σ3) h5) yyX7_size q_ml_X7_156 ⟨Nat.le_of_ble_eq_true rfl, Nat.le_of_ble_eq_true rfl⟩ rfl rfl (Nat.le_of_ble_eq_true rfl) ⟨Nat.le_refl _, Nat.le_refl _⟩ dX7_mendNow_29 (fun H locs hI => ?_)
      refine lv_goto (tgt := 36) hx hb dX7_mendNow_32 (by decide) ?_
      exact hret ⟨congrArg Prod.fst (Option.some.inj h), congrArg Prod.snd (Option.some.inj h)⟩ hI rfl dX7_mendNow_36
  · have h := zi_t hc h
    refine lv_iconst (v := (-1)) hx hb dX7_mendNow_20 lc_m1 ?_
    refine lv_goto (tgt := 36) hx hb dX7_mendNow_21 (by decide) ?_
    exact hret ⟨congrArg Prod.fst (Option.some.inj h), congrArg Prod.snd (Option.some.inj h)⟩ hI rfl dX7_mendNow_36
set_option maxRecDepth 100000 in
set_option maxHeartbeats 4000000 in
theorem c_X7_mend (l : Launch) (G : zG)  {σ σ' : SF} {r : Int32} {x1 : Int32} (h : F_X7_mend σ  x1 = some (r, σ')) : zMi l WM G yX7_mend cX7_mend 2 .int 9 [.ref (za G 0), .int x1] σ r σ' := by
  refine zMi_of (by decide) (Nat.le_of_ble_eq_true rfl) (fun p e s m args below meth c ls Q hx hb hr hlk hml hC hI hl hret => ?_)
  have hl : lv_has ls 2 [(0, .ref (za G 0)), (1, .int x1)] := hl
  have hC : zC WM G RX7 args s m := hC
  unfold F_X7_mend at h
  refine lv_iload_n hx hb dX7_mend_0 rfl (lv_at hl 1 rfl) ?_
  refine lv_iconst (v := 0) hx hb dX7_mend_1 lc_0 ?_
  refine lv_iconst (v := 1) hx hb dX7_mend_2 lc_1 ?_
  obtain ⟨r2, h1, h⟩ := zb_e h
  refine z_cSi (As := [.int x1, .int 0, .int 1]) (rest := []) hx hb hC (hml.trans hl.1.symm) hI (c_X7_within l G  (σ := σ) h1) yyX7_within q_ml_X7_89 ⟨Nat.le_of_ble_eq_true rfl, Nat.le_of_ble_eq_true rfl⟩ rfl rfl (Nat.le_of_ble_eq_true rfl) ⟨Nat.le_refl _, Nat.le_refl _⟩ dX7_mend_3 (fun H locs hI => ?_)
  refine lv_if_ne (tgt := 12) hx hb dX7_mend_6 (by decide) (fun hc => ?_) (fun hc => ?_)
  · have h := zi_f hc h
    refine lv_aload_n hx hb dX7_mend_12 rfl (lv_at hl 0 rfl) ?_
    refine gX7_1 hx hb hC hI q_fl_X7_121 dX7_mend_13 ?_
    refine lv_if_eq (tgt := 27) hx hb dX7_mend_16 (by decide) (fun hc => ?_) (fun hc => ?_)
    · have h := zi_t hc h
      refine lv_bipush (v := (-103)) hx hb dX7_mend_27 lb_m103 ?_
      refine lv_goto (tgt := 37) hx hb dX7_mend_29 (by decide) ?_
      exact hret ⟨congrArg Prod.fst (Option.some.inj h), congrArg Prod.snd (Option.some.inj h)⟩ hI rfl dX7_mend_37
    · have h := zi_f hc h
      refine lv_aload_n hx hb dX7_mend_19 rfl (lv_at hl 0 rfl) ?_
      refine gX7_6 hx hb hC hI q_fl_X7_283 dX7_mend_20 ?_
      refine lv_iconst (v := 5) hx hb dX7_mend_23 lc_5 ?_
      refine lv_icmp_ne (tgt := 32) hx hb dX7_mend_24 (by decide) (fun hc => ?_) (fun hc => ?_)
      · have h := zi_f hc h
        refine lv_aload_n hx hb dX7_mend_32 rfl (lv_at hl 0 rfl) ?_
        refine lv_iload_n hx hb dX7_mend_33 rfl (lv_at hl 1 rfl) ?_
        obtain ⟨r5, σ4, h3, h⟩ := zb2_e h
        refine z_cVi (As := [.int x1]) (rest := []) hx hb hC (hml.trans hl.1.symm) hI (c_X7_mendNow l G  h3) yyX7_mendNow q_ml_X7_289 (oX7 G) rfl ⟨Nat.le_of_ble_eq_true rfl, Nat.le_of_ble_eq_true rfl⟩ rfl rfl (Nat.le_of_ble_eq_true rfl) ⟨Nat.le_refl _, Nat.le_refl _⟩ dX7_mend_34 (fun H locs hI => ?_)
        exact hret ⟨congrArg Prod.fst (Option.some.inj h), congrArg Prod.snd (Option.some.inj h)⟩ hI rfl dX7_mend_37
      · have h := zi_t hc h
        refine lv_bipush (v := (-103)) hx hb dX7_mend_27 lb_m103 ?_
        refine lv_goto (tgt := 37) hx hb dX7_mend_29 (by decide) ?_
        exact hret ⟨congrArg Prod.fst (Option.some.inj h), congrArg Prod.snd (Option.some.inj h)⟩ hI rfl dX7_mend_37
  · have h := zi_t hc h
    refine lv_bipush (v := (-102)) hx hb dX7_mend_9 lb_m102 ?_
    exact hret ⟨congrArg Prod.fst (Option.some.inj h), congrArg Prod.snd (Option.some.inj h)⟩ hI rfl dX7_mend_11
set_option maxRecDepth 100000 in
set_option maxHeartbeats 4000000 in
theorem c_X7_see (l : Launch) (G : zG)  {σ σ' : SF} {r : Int32} {x1 : Int32} {x2 : Int32} {x3 : Int32} (h : F_X7_see σ  x1 x2 x3 = some (r, σ')) : zMi l WM G yX7_see cX7_see 4 .int 3 [.ref (za G 0), .int x1, .int x2, .int x3] σ r σ' := by
  refine zMi_of (by decide) (Nat.le_of_ble_eq_true rfl) (fun p e s m args below meth c ls Q hx hb hr hlk hml hC hI hl hret => ?_)
  have hl : lv_has ls 4 [(0, .ref (za G 0)), (1, .int x1), (2, .int x2), (3, .int x3)] := hl
  have hC : zC WM G RX7 args s m := hC
  unfold F_X7_see at h
  refine lv_aload_n hx hb dX7_see_0 rfl (lv_at hl 0 rfl) ?_
  refine lv_iload_n hx hb dX7_see_1 rfl (lv_at hl 1 rfl) ?_
  obtain ⟨r2, h1, h⟩ := zb_e h
  refine z_cVi (As := [.int x1]) (rest := []) hx hb hC (hml.trans hl.1.symm) hI (c_X7_isNode l G  h1) yyX7_isNode q_ml_X7_207 (oX7 G) rfl ⟨Nat.le_of_ble_eq_true rfl, Nat.le_of_ble_eq_true rfl⟩ rfl rfl (Nat.le_of_ble_eq_true rfl) ⟨Nat.le_refl _, Nat.le_refl _⟩ dX7_see_2 (fun H locs hI => ?_)
  refine lv_if_ne (tgt := 11) hx hb dX7_see_5 (by decide) (fun hc => ?_) (fun hc => ?_)
  · have h := zi_f hc h
    refine lv_iload_n hx hb dX7_see_11 rfl (lv_at hl 2 rfl) ?_
    refine lv_iconst (v := 1) hx hb dX7_see_12 lc_1 ?_
    refine lv_iconst (v := 3) hx hb dX7_see_13 lc_3 ?_
    obtain ⟨r4, h3, h⟩ := zb_e h
    refine z_cSi (As := [.int x2, .int 1, .int 3]) (rest := []) hx hb hC (hml.trans hl.1.symm) hI (c_X7_within l G  (σ := σ) h3) yyX7_within q_ml_X7_89 ⟨Nat.le_of_ble_eq_true rfl, Nat.le_of_ble_eq_true rfl⟩ rfl rfl (Nat.le_of_ble_eq_true rfl) ⟨Nat.le_refl _, Nat.le_refl _⟩ dX7_see_14 (fun H locs hI => ?_)
    refine lv_if_eq (tgt := 29) hx hb dX7_see_17 (by decide) (fun hc => ?_) (fun hc => ?_)
    · have h := zi_t hc h
      refine lv_bipush (v := (-102)) hx hb dX7_see_29 lb_m102 ?_
      exact hret ⟨congrArg Prod.fst (Option.some.inj h), congrArg Prod.snd (Option.some.inj h)⟩ hI rfl dX7_see_31
    · have h := zi_f hc h
      refine lv_iload_n hx hb dX7_see_20 rfl (lv_at hl 3 rfl) ?_
      refine lv_iconst (v := 0) hx hb dX7_see_21 lc_0 ?_
      refine lv_iconst (v := 2) hx hb dX7_see_22 lc_2 ?_
      obtain ⟨r6, h5, h⟩ := zb_e h
      refine z_cSi (As := [.int x3, .int 0, .int 2]) (rest := []) hx hb hC (hml.trans hl.1.symm) hI (c_X7_within l G  (σ := σ) h5) yyX7_within q_ml_X7_89 ⟨Nat.le_of_ble_eq_true rfl, Nat.le_of_ble_eq_true rfl⟩ rfl rfl (Nat.le_of_ble_eq_true rfl) ⟨Nat.le_refl _, Nat.le_refl _⟩ dX7_see_23 (fun H locs hI => ?_)
      refine lv_if_ne (tgt := 32) hx hb dX7_see_26 (by decide) (fun hc => ?_) (fun hc => ?_)
      · have h := zi_f hc h
        refine lv_aload_n hx hb dX7_see_32 rfl (lv_at hl 0 rfl) ?_
        refine gX7_7 hx hb hC hI q_fl_X7_130 dX7_see_33 ?_
        refine lv_bipush (v := 6) hx hb dX7_see_36 lb_6 ?_
        refine lv_icmp_ne (tgt := 44) hx hb dX7_see_38 (by decide) (fun hc => ?_) (fun hc => ?_)
        · have h := zi_f hc h
          refine lv_aload_n hx hb dX7_see_44 rfl (lv_at hl 0 rfl) ?_
          refine gX7_8 hx hb hC hI q_fl_X7_19 dX7_see_45 ?_
          refine lv_aload_n hx hb dX7_see_48 rfl (lv_at hl 0 rfl) ?_
          refine gX7_7 hx hb hC hI q_fl_X7_130 dX7_see_49 ?_
          refine lv_iload_n hx hb dX7_see_52 rfl (lv_at hl 1 rfl) ?_
          obtain ⟨hg, h⟩ := zg_e h
          refine z_iast hx hb hC hI (vX7_8 G) hg dX7_see_53 (fun σ7 H locs e_σ7 hI => ?_)
          have h := zl_e h e_σ7
          refine lv_aload_n hx hb dX7_see_54 rfl (lv_at hl 0 rfl) ?_
          refine gX7_9 hx hb hC hI q_fl_X7_22 dX7_see_55 ?_
          refine lv_aload_n hx hb dX7_see_58 rfl (lv_at hl 0 rfl) ?_
          refine gX7_7 hx hb hC hI q_fl_X7_130 dX7_see_59 ?_
          refine lv_iload_n hx hb dX7_see_62 rfl (lv_at hl 2 rfl) ?_
          obtain ⟨hg, h⟩ := zg_e h
          refine z_iast hx hb hC hI (vX7_9 G) hg dX7_see_63 (fun σ8 H locs e_σ8 hI => ?_)
          have h := zl_e h e_σ8
          refine lv_aload_n hx hb dX7_see_64 rfl (lv_at hl 0 rfl) ?_
          refine gX7_10 hx hb hC hI q_fl_X7_25 dX7_see_65 ?_
          refine lv_aload_n hx hb dX7_see_68 rfl (lv_at hl 0 rfl) ?_
          refine gX7_7 hx hb hC hI q_fl_X7_130 dX7_see_69 ?_
          refine lv_iload_n hx hb dX7_see_72 rfl (lv_at hl 3 rfl) ?_
          obtain ⟨hg, h⟩ := zg_e h
          refine z_iast hx hb hC hI (vX7_10 G) hg dX7_see_73 (fun σ9 H locs e_σ9 hI => ?_)
          have h := zl_e h e_σ9
          refine lv_aload_n hx hb dX7_see_74 rfl (lv_at hl 0 rfl) ?_
          refine lv_dup hx hb dX7_see_75 rfl ?_
          refine gX7_7 hx hb hC hI q_fl_X7_130 dX7_see_76 ?_
          refine lv_iconst (v := 1) hx hb dX7_see_79 lc_1 ?_
          refine lv_iadd hx hb dX7_see_80 ?_
          refine pX7_7 hx hb hC hI q_fl_X7_130 dX7_see_81 (fun σ10 H locs e_σ10 hI => ?_)
          have h := zl_e h e_σ10
          refine lv_aload_n hx hb dX7_see_84 rfl (lv_at hl 0 rfl) ?_
          refine gX7_7 hx hb hC hI q_fl_X7_130 dX7_see_85 ?_
          exact hret ⟨congrArg Prod.fst (Option.some.inj h), congrArg Prod.snd (Option.some.inj h)⟩ hI rfl dX7_see_88
        · have h := zi_t hc h
          refine lv_bipush (v := (-104)) hx hb dX7_see_41 lb_m104 ?_
          exact hret ⟨congrArg Prod.fst (Option.some.inj h), congrArg Prod.snd (Option.some.inj h)⟩ hI rfl dX7_see_43
      · have h := zi_t hc h
        refine lv_bipush (v := (-102)) hx hb dX7_see_29 lb_m102 ?_
        exact hret ⟨congrArg Prod.fst (Option.some.inj h), congrArg Prod.snd (Option.some.inj h)⟩ hI rfl dX7_see_31
  · have h := zi_t hc h
    refine lv_bipush (v := (-101)) hx hb dX7_see_8 lb_m101 ?_
    exact hret ⟨congrArg Prod.fst (Option.some.inj h), congrArg Prod.snd (Option.some.inj h)⟩ hI rfl dX7_see_10
set_option maxRecDepth 100000 in
set_option maxHeartbeats 4000000 in
theorem c_X7_forget (l : Launch) (G : zG)  {σ σ' : SF} {r : Int32} (h : F_X7_forget σ   = some (r, σ')) : zMi l WM G yX7_forget cX7_forget 2 .int 1 [.ref (za G 0)] σ r σ' := by
  refine zMi_of (by decide) (Nat.le_of_ble_eq_true rfl) (fun p e s m args below meth c ls Q hx hb hr hlk hml hC hI hl hret => ?_)
  have hl : lv_has ls 2 [(0, .ref (za G 0))] := hl
  have hC : zC WM G RX7 args s m := hC
  unfold F_X7_forget at h
  refine lv_aload_n hx hb dX7_forget_0 rfl (lv_at hl 0 rfl) ?_
  refine gX7_7 hx hb hC hI q_fl_X7_130 dX7_forget_1 ?_
  refine lv_topi (fun v1 e_v1 => ?_)
  have h := zl_e h e_v1
  refine lv_istore_n (lv' := [(1, .int v1), (0, .ref (za G 0))]) hx hb dX7_forget_4 rfl hl (by decide) rfl (fun ls hl => ?_)
  refine lv_aload_n hx hb dX7_forget_5 rfl (lv_at hl 1 rfl) ?_
  refine lv_iconst (v := 0) hx hb dX7_forget_6 lc_0 ?_
  refine pX7_7 hx hb hC hI q_fl_X7_130 dX7_forget_7 (fun σ2 H locs e_σ2 hI => ?_)
  have h := zl_e h e_σ2
  refine lv_iload_n hx hb dX7_forget_10 rfl (lv_at hl 0 rfl) ?_
  exact hret ⟨congrArg Prod.fst (Option.some.inj h), congrArg Prod.snd (Option.some.inj h)⟩ hI rfl dX7_forget_11
set_option maxRecDepth 100000 in
set_option maxHeartbeats 4000000 in
theorem c_X7_draw (l : Launch) (G : zG)  {σ σ' : SF} {r : Int32} {x1 : Int32} (h : F_X7_draw σ  x1 = some (r, σ')) : zMi l WM G yX7_draw cX7_draw 2 .int 1 [.ref (za G 0), .int x1] σ r σ' := by
  refine zMi_of (by decide) (Nat.le_of_ble_eq_true rfl) (fun p e s m args below meth c ls Q hx hb hr hlk hml hC hI hl hret => ?_)
  have hl : lv_has ls 2 [(0, .ref (za G 0)), (1, .int x1)] := hl
  have hC : zC WM G RX7 args s m := hC
  unfold F_X7_draw at h
  refine lv_aload_n hx hb dX7_draw_0 rfl (lv_at hl 0 rfl) ?_
  refine lv_ldc2 hx hb hC.1 (hC.ts q_ct_X7_296) dX7_draw_1 ?_
  refine lv_aload_n hx hb dX7_draw_4 rfl (lv_at hl 0 rfl) ?_
  refine gX7_45 hx hb hC hI q_fl_X7_298 dX7_draw_5 ?_
  refine lv_lmul hx hb dX7_draw_8 ?_
  refine lv_ldc2 hx hb hC.1 (hC.ts q_ct_X7_302) dX7_draw_9 ?_
  refine lv_ladd hx hb dX7_draw_12 ?_
  refine lv_ldc2 hx hb hC.1 (hC.ts q_ct_X7_304) dX7_draw_13 ?_
  refine lv_land hx hb dX7_draw_16 ?_
  refine pX7_45 hx hb hC hI q_fl_X7_298 dX7_draw_17 (fun σ1 H locs e_σ1 hI => ?_)
  have h := zl_e h e_σ1
  refine lv_aload_n hx hb dX7_draw_20 rfl (lv_at hl 0 rfl) ?_
  refine gX7_45 hx hb hC hI q_fl_X7_298 dX7_draw_21 ?_
  refine lv_ldc2 hx hb hC.1 (hC.ts q_ct_X7_306) dX7_draw_24 ?_
  refine lv_ldiv hx hb dX7_draw_27 (by decide) ?_
  refine lv_iload_n hx hb dX7_draw_28 rfl (lv_at hl 1 rfl) ?_
  refine lv_i2l hx hb dX7_draw_29 rfl ?_
  obtain ⟨hg, h⟩ := zg_e h
  refine lv_lrem hx hb dX7_draw_30 (znzL_p hg) ?_
  refine lv_l2i hx hb dX7_draw_31 rfl ?_
  exact hret ⟨congrArg Prod.fst (Option.some.inj h), congrArg Prod.snd (Option.some.inj h)⟩ hI rfl dX7_draw_32
set_option maxRecDepth 100000 in
set_option maxHeartbeats 4000000 in
theorem c_X7_drawnNow (l : Launch) (G : zG)  {σ σ' : SF} {r : Int32} {x1 : Int32} {x2 : Int32} {x3 : Int32} (h : F_X7_drawnNow σ  x1 x2 x3 = some (r, σ')) : zMi l WM G yX7_drawnNow cX7_drawnNow 8 .int 6 [.ref (za G 0), .int x1, .int x2, .int x3] σ r σ' := by
  refine zMi_of (by decide) (Nat.le_of_ble_eq_true rfl) (fun p e s m args below meth c ls Q hx hb hr hlk hml hC hI hl hret => ?_)
  have hl : lv_has ls 8 [(0, .ref (za G 0)), (1, .int x1), (2, .int x2), (3, .int x3)] := hl
  have hC : zC WM G RX7 args s m := hC
  have w_34 : ∀ (n : Nat) (y1 : Int32) (y3 : Int32) (y4 : Int32) (y5 : Int32) (y6 : Int32) (y7 : Int32) (σ : SF) (y7o : Int32) (σo : SF), L_X7_drawnNow_34 y1 y3 y4 y5 y6 n y7 σ = some (y7o, σo) → ∀ (H : Heap) (locs : List Loc) (ls : Array Slot), zI WM G s σ H locs → lv_has ls 8 [(0, .ref (za G 0)), (1, .int y1), (3, .int y3), (4, .int y4), (5, .int y5), (6, .int y6), (7, .int y7)] → (∀ (H : Heap) (locs : List Loc) (ls : Array Slot), zI WM G s σo H locs → lv_has ls 8 [(0, .ref (za G 0)), (1, .int y1), (3, .int y3), (4, .int y4), (5, .int y5), (6, .int y6), (7, .int y7o)] → W p l e (zR 6) s m args below meth c H locs 0 0 Q (F0 m 88 ls [])) → W p l e (zR 6) s m args below meth c H locs 0 0 Q (F0 m 34 ls []) := by
    intro n
    induction n with
    | zero => intro y1 y3 y4 y5 y6 y7 σ y7o σo h; cases h
    | succ n ih =>
      intro y1 y3 y4 y5 y6 y7 σ y7o σo h H locs ls hI hl kE
      unfold L_X7_drawnNow_34 at h
      refine lv_iload hx hb dX7_drawnNow_34 (lv_at hl 6 rfl) ?_
      refine lv_iconst (v := 5) hx hb dX7_drawnNow_36 lc_5 ?_
      refine lv_icmp_ge (tgt := 88) hx hb dX7_drawnNow_37 (by decide) (fun hc => ?_) (fun hc => ?_)
      · have h := zi_t hc h
        cases h
        exact kE _ _ _ hI (lv_sub hl [0, 1, 2, 3, 4, 5, 6] rfl)
      · have h := zi_f hc h
        refine lv_aload_n hx hb dX7_drawnNow_40 rfl (lv_at hl 0 rfl) ?_
        refine gX7_20 hx hb hC hI q_fl_X7_38 dX7_drawnNow_41 ?_
        refine lv_iload hx hb dX7_drawnNow_44 (lv_at hl 6 rfl) ?_
        refine lv_aload_n hx hb dX7_drawnNow_46 rfl (lv_at hl 0 rfl) ?_
        refine lv_iconst (v := 5) hx hb dX7_drawnNow_47 lc_5 ?_
        obtain ⟨r6, σ5, h4, h⟩ := zb2_e h
        refine z_cVi (As := [.int 5]) (rest := [.int y7, .ref (za G 10)]) hx hb hC (hml.trans hl.1.symm) hI (c_X7_draw l G  h4) yyX7_draw q_ml_X7_308 (oX7 G) rfl ⟨Nat.le_of_ble_eq_true rfl, Nat.le_of_ble_eq_true rfl⟩ rfl rfl (Nat.le_of_ble_eq_true rfl) ⟨Nat.le_refl _, Nat.le_refl _⟩ dX7_drawnNow_48 (fun H locs hI => ?_)
        obtain ⟨hg, h⟩ := zg_e h
        refine z_iast hx hb hC hI (vX7_20 G) hg dX7_drawnNow_51 (fun σ7 H locs e_σ7 hI => ?_)
        have h := zl_e h e_σ7
        refine lv_aload_n hx hb dX7_drawnNow_52 rfl (lv_at hl 0 rfl) ?_
        refine gX7_21 hx hb hC hI q_fl_X7_41 dX7_drawnNow_53 ?_
        refine lv_iconst (v := 2) hx hb dX7_drawnNow_56 lc_2 ?_
        refine lv_iload hx hb dX7_drawnNow_57 (lv_at hl 6 rfl) ?_
        refine lv_imul hx hb dX7_drawnNow_59 ?_
        refine lv_aload_n hx hb dX7_drawnNow_60 rfl (lv_at hl 0 rfl) ?_
        refine lv_iconst (v := 5) hx hb dX7_drawnNow_61 lc_5 ?_
        obtain ⟨r10, σ9, h8, h⟩ := zb2_e h
        refine z_cVi (As := [.int 5]) (rest := [.int ((2 : Int32) * y7), .ref (za G 11)]) hx hb hC (hml.trans hl.1.symm) hI (c_X7_draw l G  h8) yyX7_draw q_ml_X7_308 (oX7 G) rfl ⟨Nat.le_of_ble_eq_true rfl, Nat.le_of_ble_eq_true rfl⟩ rfl rfl (Nat.le_of_ble_eq_true rfl) ⟨Nat.le_refl _, Nat.le_refl _⟩ dX7_drawnNow_62 (fun H locs hI => ?_)
        obtain ⟨hg, h⟩ := zg_e h
        refine z_iast hx hb hC hI (vX7_21 G) hg dX7_drawnNow_65 (fun σ11 H locs e_σ11 hI => ?_)
        have h := zl_e h e_σ11
        refine lv_aload_n hx hb dX7_drawnNow_66 rfl (lv_at hl 0 rfl) ?_
        refine gX7_21 hx hb hC hI q_fl_X7_41 dX7_drawnNow_67 ?_
        refine lv_iconst (v := 2) hx hb dX7_drawnNow_70 lc_2 ?_
        refine lv_iload hx hb dX7_drawnNow_71 (lv_at hl 6 rfl) ?_
        refine lv_imul hx hb dX7_drawnNow_73 ?_
        refine lv_iconst (v := 1) hx hb dX7_drawnNow_74 lc_1 ?_
        refine lv_iadd hx hb dX7_drawnNow_75 ?_
        refine lv_aload_n hx hb dX7_drawnNow_76 rfl (lv_at hl 0 rfl) ?_
        refine lv_iconst (v := 5) hx hb dX7_drawnNow_77 lc_5 ?_
        obtain ⟨r14, σ13, h12, h⟩ := zb2_e h
        refine z_cVi (As := [.int 5]) (rest := [.int (((2 : Int32) * y7) + 1), .ref (za G 11)]) hx hb hC (hml.trans hl.1.symm) hI (c_X7_draw l G  h12) yyX7_draw q_ml_X7_308 (oX7 G) rfl ⟨Nat.le_of_ble_eq_true rfl, Nat.le_of_ble_eq_true rfl⟩ rfl rfl (Nat.le_of_ble_eq_true rfl) ⟨Nat.le_refl _, Nat.le_refl _⟩ dX7_drawnNow_78 (fun H locs hI => ?_)
        obtain ⟨hg, h⟩ := zg_e h
        refine z_iast hx hb hC hI (vX7_21 G) hg dX7_drawnNow_81 (fun σ15 H locs e_σ15 hI => ?_)
        have h := zl_e h e_σ15
        obtain ⟨v16, e_v16⟩ : ∃ y : Int32, y = y7 + 1 := ⟨_, rfl⟩
        have h := zl_e h e_v16
        refine lv_iinc (v := v16) (lv' := [(7, .int v16), (0, .ref (za G 0)), (1, .int y1), (3, .int y3), (4, .int y4), (5, .int y5), (6, .int y6)]) hx hb dX7_drawnNow_82 hl (k := 6) rfl (by rw [lc_1]; exact e_v16.symm) (by decide) rfl (fun ls hl => ?_)
        refine lv_goto (tgt := 34) hx hb dX7_drawnNow_85 (by decide) ?_
        exact ih y1 y3 y4 y5 y6 v16 σ15 y7o σo h _ _ _ hI (lv_sub hl [1, 2, 3, 4, 5, 6, 0] rfl) kE
  have w_15 : ∀ (n : Nat) (y1 : Int32) (y3 : Int32) (y4 : Int32) (y5 : Int32) (y6 : Int32) (σ : SF) (y4o : Int32) (y5o : Int32) (y6o : Int32) (σo : SF), L_X7_drawnNow_15 y1 y3 n y4 y5 y6 σ = some (y4o, y5o, y6o, σo) → ∀ (H : Heap) (locs : List Loc) (ls : Array Slot), zI WM G s σ H locs → lv_has ls 8 [(0, .ref (za G 0)), (1, .int y1), (3, .int y3), (4, .int y4), (5, .int y5), (6, .int y6)] → (∀ (H : Heap) (locs : List Loc) (ls : Array Slot), zI WM G s σo H locs → lv_has ls 8 [(0, .ref (za G 0)), (1, .int y1), (3, .int y3), (4, .int y4o), (5, .int y5o), (6, .int y6o)] → W p l e (zR 6) s m args below meth c H locs 0 0 Q (F0 m 127 ls [])) → W p l e (zR 6) s m args below meth c H locs 0 0 Q (F0 m 15 ls []) := by
    intro n
    induction n with
    | zero => intro y1 y3 y4 y5 y6 σ y4o y5o y6o σo h; cases h
    | succ n ih =>
      intro y1 y3 y4 y5 y6 σ y4o y5o y6o σo h H locs ls hI hl kE
      unfold L_X7_drawnNow_15 at h
      refine lv_iload hx hb dX7_drawnNow_15 (lv_at hl 5 rfl) ?_
      refine lv_iload_n hx hb dX7_drawnNow_17 rfl (lv_at hl 1 rfl) ?_
      refine lv_icmp_ge (tgt := 127) hx hb dX7_drawnNow_18 (by decide) (fun hc => ?_) (fun hc => ?_)
      · have h := zi_t hc h
        cases h
        exact kE _ _ _ hI (lv_sub hl [0, 1, 2, 3, 4, 5] rfl)
      · have h := zi_f hc h
        refine lv_aload_n hx hb dX7_drawnNow_21 rfl (lv_at hl 0 rfl) ?_
        refine lv_iconst (v := 5) hx hb dX7_drawnNow_22 lc_5 ?_
        refine pX7_18 hx hb hC hI q_fl_X7_133 dX7_drawnNow_23 (fun σ2 H locs e_σ2 hI => ?_)
        have h := zl_e h e_σ2
        refine lv_aload_n hx hb dX7_drawnNow_26 rfl (lv_at hl 0 rfl) ?_
        refine lv_iconst (v := 0) hx hb dX7_drawnNow_27 lc_0 ?_
        refine pX7_19 hx hb hC hI q_fl_X7_136 dX7_drawnNow_28 (fun σ3 H locs e_σ3 hI => ?_)
        have h := zl_e h e_σ3
        refine lv_iconst (v := 0) hx hb dX7_drawnNow_31 lc_0 ?_
        refine lv_istore (lv' := [(7, .int 0), (0, .ref (za G 0)), (1, .int y1), (3, .int y3), (4, .int y4), (5, .int y5), (6, .int y6)]) hx hb dX7_drawnNow_32 hl (by decide) rfl (fun ls hl => ?_)
        obtain ⟨v17, σ18, h19, h⟩ := zb2_e h
        refine w_34 100 y1 y3 y4 y5 y6 0 σ3 v17 σ18 h19 _ _ _ hI (lv_sub hl [1, 2, 3, 4, 5, 6, 0] rfl) (fun H locs ls hI hl => ?_)
        refine lv_aload_n hx hb dX7_drawnNow_88 rfl (lv_at hl 0 rfl) ?_
        obtain ⟨σ21, h20, h⟩ := zb_e h
        refine z_cVv (As := []) (rest := []) hx hb hC (hml.trans hl.1.symm) hI (c_X7_lay l G  h20) yyX7_lay q_ml_X7_195 (oX7 G) rfl ⟨Nat.le_of_ble_eq_true rfl, Nat.le_of_ble_eq_true rfl⟩ rfl rfl (Nat.le_of_ble_eq_true rfl) ⟨Nat.le_refl _, Nat.le_refl _⟩ dX7_drawnNow_89 (fun H locs hI => ?_)
        refine lv_iload hx hb dX7_drawnNow_92 (lv_at hl 3 rfl) ?_
        refine lv_aload_n hx hb dX7_drawnNow_94 rfl (lv_at hl 0 rfl) ?_
        refine gX7_30 hx hb hC hI q_fl_X7_165 dX7_drawnNow_95 ?_
        refine lv_if_ne (tgt := 105) hx hb dX7_drawnNow_98 (by decide) (fun hc => ?_) (fun hc => ?_)
        · have h := zi_f hc h
          refine lv_iconst (v := 0) hx hb dX7_drawnNow_105 lc_0 ?_
          refine lv_iadd hx hb dX7_drawnNow_106 ?_
          refine lv_topi (fun v22 e_v22 => ?_)
          have h := zl_e h e_v22
          refine lv_istore (lv' := [(4, .int v22), (0, .ref (za G 0)), (1, .int y1), (3, .int y3), (5, .int y5), (6, .int y6), (7, .int v17)]) hx hb dX7_drawnNow_107 hl (by decide) rfl (fun ls hl => ?_)
          refine lv_iload hx hb dX7_drawnNow_109 (lv_at hl 4 rfl) ?_
          refine lv_aload_n hx hb dX7_drawnNow_111 rfl (lv_at hl 1 rfl) ?_
          refine gX7_31 hx hb hC hI q_fl_X7_168 dX7_drawnNow_112 ?_
          obtain ⟨r24, h23, h⟩ := zb_e h
          refine z_cSi (As := [.int (σ21 0 31)]) (rest := [.int y5]) hx hb hC (hml.trans hl.1.symm) hI (c_X7_size l G  (σ := σ21) h23) yyX7_size q_ml_X7_156 ⟨Nat.le_of_ble_eq_true rfl, Nat.le_of_ble_eq_true rfl⟩ rfl rfl (Nat.le_of_ble_eq_true rfl) ⟨Nat.le_refl _, Nat.le_refl _⟩ dX7_drawnNow_115 (fun H locs hI => ?_)
          refine lv_iadd hx hb dX7_drawnNow_118 ?_
          refine lv_topi (fun v25 e_v25 => ?_)
          have h := zl_e h e_v25
          refine lv_istore (lv' := [(5, .int v25), (4, .int v22), (0, .ref (za G 0)), (1, .int y1), (3, .int y3), (6, .int y6), (7, .int v17)]) hx hb dX7_drawnNow_119 hl (by decide) rfl (fun ls hl => ?_)
          obtain ⟨v26, e_v26⟩ : ∃ y : Int32, y = y6 + 1 := ⟨_, rfl⟩
          have h := zl_e h e_v26
          refine lv_iinc (v := v26) (lv' := [(6, .int v26), (5, .int v25), (4, .int v22), (0, .ref (za G 0)), (1, .int y1), (3, .int y3), (7, .int v17)]) hx hb dX7_drawnNow_121 hl (k := 5) rfl (by rw [lc_1]; exact e_v26.symm) (by decide) rfl (fun ls hl => ?_)
          refine lv_goto (tgt := 15) hx hb dX7_drawnNow_124 (by decide) ?_
          exact ih y1 y3 v22 v25 v26 σ21 y4o y5o y6o σo h _ _ _ hI (lv_sub hl [3, 4, 5, 2, 1, 0] rfl) kE
        · have h := zi_t hc h
          refine lv_iconst (v := 1) hx hb dX7_drawnNow_101 lc_1 ?_
          refine lv_goto (tgt := 106) hx hb dX7_drawnNow_102 (by decide) ?_
          refine lv_iadd hx hb dX7_drawnNow_106 ?_
          refine lv_topi (fun v27 e_v27 => ?_)
          have h := zl_e h e_v27
          refine lv_istore (lv' := [(4, .int v27), (0, .ref (za G 0)), (1, .int y1), (3, .int y3), (5, .int y5), (6, .int y6), (7, .int v17)]) hx hb dX7_drawnNow_107 hl (by decide) rfl (fun ls hl => ?_)
          refine lv_iload hx hb dX7_drawnNow_109 (lv_at hl 4 rfl) ?_
          refine lv_aload_n hx hb dX7_drawnNow_111 rfl (lv_at hl 1 rfl) ?_
          refine gX7_31 hx hb hC hI q_fl_X7_168 dX7_drawnNow_112 ?_
          obtain ⟨r29, h28, h⟩ := zb_e h
          refine z_cSi (As := [.int (σ21 0 31)]) (rest := [.int y5]) hx hb hC (hml.trans hl.1.symm) hI (c_X7_size l G  (σ := σ21) h28) yyX7_size q_ml_X7_156 ⟨Nat.le_of_ble_eq_true rfl, Nat.le_of_ble_eq_true rfl⟩ rfl rfl (Nat.le_of_ble_eq_true rfl) ⟨Nat.le_refl _, Nat.le_refl _⟩ dX7_drawnNow_115 (fun H locs hI => ?_)
          refine lv_iadd hx hb dX7_drawnNow_118 ?_
          refine lv_topi (fun v30 e_v30 => ?_)
          have h := zl_e h e_v30
          refine lv_istore (lv' := [(5, .int v30), (4, .int v27), (0, .ref (za G 0)), (1, .int y1), (3, .int y3), (6, .int y6), (7, .int v17)]) hx hb dX7_drawnNow_119 hl (by decide) rfl (fun ls hl => ?_)
          obtain ⟨v31, e_v31⟩ : ∃ y : Int32, y = y6 + 1 := ⟨_, rfl⟩
          have h := zl_e h e_v31
          refine lv_iinc (v := v31) (lv' := [(6, .int v31), (5, .int v30), (4, .int v27), (0, .ref (za G 0)), (1, .int y1), (3, .int y3), (7, .int v17)]) hx hb dX7_drawnNow_121 hl (k := 5) rfl (by rw [lc_1]; exact e_v31.symm) (by decide) rfl (fun ls hl => ?_)
          refine lv_goto (tgt := 15) hx hb dX7_drawnNow_124 (by decide) ?_
          exact ih y1 y3 v27 v30 v31 σ21 y4o y5o y6o σo h _ _ _ hI (lv_sub hl [3, 4, 5, 2, 1, 0] rfl) kE
  unfold F_X7_drawnNow at h
  refine lv_aload_n hx hb dX7_drawnNow_0 rfl (lv_at hl 0 rfl) ?_
  refine lv_iload_n hx hb dX7_drawnNow_1 rfl (lv_at hl 2 rfl) ?_
  refine lv_i2l hx hb dX7_drawnNow_2 rfl ?_
  refine pX7_45 hx hb hC hI q_fl_X7_298 dX7_drawnNow_3 (fun σ1 H locs e_σ1 hI => ?_)
  have h := zl_e h e_σ1
  refine lv_iconst (v := 0) hx hb dX7_drawnNow_6 lc_0 ?_
  refine lv_istore (lv' := [(4, .int 0), (0, .ref (za G 0)), (1, .int x1), (2, .int x2), (3, .int x3)]) hx hb dX7_drawnNow_7 hl (by decide) rfl (fun ls hl => ?_)
  refine lv_iconst (v := 0) hx hb dX7_drawnNow_9 lc_0 ?_
  refine lv_istore (lv' := [(5, .int 0), (4, .int 0), (0, .ref (za G 0)), (1, .int x1), (2, .int x2), (3, .int x3)]) hx hb dX7_drawnNow_10 hl (by decide) rfl (fun ls hl => ?_)
  refine lv_iconst (v := 0) hx hb dX7_drawnNow_12 lc_0 ?_
  refine lv_istore (lv' := [(6, .int 0), (5, .int 0), (4, .int 0), (0, .ref (za G 0)), (1, .int x1), (2, .int x2), (3, .int x3)]) hx hb dX7_drawnNow_13 hl (by decide) rfl (fun ls hl => ?_)
  obtain ⟨v32, v33, v34, σ35, h36, h⟩ := zb4_e h
  refine w_15 100 x1 x3 0 0 0 σ1 v32 v33 v34 σ35 h36 _ _ _ hI (lv_sub hl [3, 4, 6, 2, 1, 0] rfl) (fun H locs ls hI hl => ?_)
  refine lv_iload_n hx hb dX7_drawnNow_127 rfl (lv_at hl 2 rfl) ?_
  refine lv_if_ne (tgt := 136) hx hb dX7_drawnNow_128 (by decide) (fun hc => ?_) (fun hc => ?_)
  · have h := zi_f hc h
    refine lv_iload_n hx hb dX7_drawnNow_136 rfl (lv_at hl 2 rfl) ?_
    refine lv_iconst (v := 1) hx hb dX7_drawnNow_137 lc_1 ?_
    refine lv_icmp_ne (tgt := 146) hx hb dX7_drawnNow_138 (by decide) (fun hc => ?_) (fun hc => ?_)
    · have h := zi_f hc h
      refine lv_aload_n hx hb dX7_drawnNow_146 rfl (lv_at hl 0 rfl) ?_
      refine gX7_45 hx hb hC hI q_fl_X7_298 dX7_drawnNow_147 ?_
      refine lv_l2i hx hb dX7_drawnNow_150 rfl ?_
      exact hret ⟨congrArg Prod.fst (Option.some.inj h), congrArg Prod.snd (Option.some.inj h)⟩ hI rfl dX7_drawnNow_151
    · have h := zi_t hc h
      refine lv_iload hx hb dX7_drawnNow_141 (lv_at hl 4 rfl) ?_
      refine lv_goto (tgt := 151) hx hb dX7_drawnNow_143 (by decide) ?_
      exact hret ⟨congrArg Prod.fst (Option.some.inj h), congrArg Prod.snd (Option.some.inj h)⟩ hI rfl dX7_drawnNow_151
  · have h := zi_t hc h
    refine lv_iload hx hb dX7_drawnNow_131 (lv_at hl 3 rfl) ?_
    refine lv_goto (tgt := 151) hx hb dX7_drawnNow_133 (by decide) ?_
    exact hret ⟨congrArg Prod.fst (Option.some.inj h), congrArg Prod.snd (Option.some.inj h)⟩ hI rfl dX7_drawnNow_151
set_option maxRecDepth 100000 in
set_option maxHeartbeats 4000000 in
theorem c_X7_drawn (l : Launch) (G : zG)  {σ σ' : SF} {r : Int32} {x1 : Int32} {x2 : Int32} {x3 : Int32} (h : F_X7_drawn σ  x1 x2 x3 = some (r, σ')) : zMi l WM G yX7_drawn cX7_drawn 4 .int 7 [.ref (za G 0), .int x1, .int x2, .int x3] σ r σ' := by
  refine zMi_of (by decide) (Nat.le_of_ble_eq_true rfl) (fun p e s m args below meth c ls Q hx hb hr hlk hml hC hI hl hret => ?_)
  have hl : lv_has ls 4 [(0, .ref (za G 0)), (1, .int x1), (2, .int x2), (3, .int x3)] := hl
  have hC : zC WM G RX7 args s m := hC
  unfold F_X7_drawn at h
  refine lv_iload_n hx hb dX7_drawn_0 rfl (lv_at hl 1 rfl) ?_
  refine lv_iconst (v := 1) hx hb dX7_drawn_1 lc_1 ?_
  refine lv_bipush (v := 8) hx hb dX7_drawn_2 lb_8 ?_
  obtain ⟨r2, h1, h⟩ := zb_e h
  refine z_cSi (As := [.int x1, .int 1, .int 8]) (rest := []) hx hb hC (hml.trans hl.1.symm) hI (c_X7_within l G  (σ := σ) h1) yyX7_within q_ml_X7_89 ⟨Nat.le_of_ble_eq_true rfl, Nat.le_of_ble_eq_true rfl⟩ rfl rfl (Nat.le_of_ble_eq_true rfl) ⟨Nat.le_refl _, Nat.le_refl _⟩ dX7_drawn_4 (fun H locs hI => ?_)
  refine lv_if_eq (tgt := 23) hx hb dX7_drawn_7 (by decide) (fun hc => ?_) (fun hc => ?_)
  · have h := zi_t hc h
    refine lv_bipush (v := (-102)) hx hb dX7_drawn_23 lb_m102 ?_
    refine lv_goto (tgt := 35) hx hb dX7_drawn_25 (by decide) ?_
    exact hret ⟨congrArg Prod.fst (Option.some.inj h), congrArg Prod.snd (Option.some.inj h)⟩ hI rfl dX7_drawn_35
  · have h := zi_f hc h
    refine lv_iload_n hx hb dX7_drawn_10 rfl (lv_at hl 2 rfl) ?_
    refine lv_if_lt (tgt := 23) hx hb dX7_drawn_11 (by decide) (fun hc => ?_) (fun hc => ?_)
    · have h := zi_t hc h
      refine lv_bipush (v := (-102)) hx hb dX7_drawn_23 lb_m102 ?_
      refine lv_goto (tgt := 35) hx hb dX7_drawn_25 (by decide) ?_
      exact hret ⟨congrArg Prod.fst (Option.some.inj h), congrArg Prod.snd (Option.some.inj h)⟩ hI rfl dX7_drawn_35
    · have h := zi_f hc h
      refine lv_iload_n hx hb dX7_drawn_14 rfl (lv_at hl 3 rfl) ?_
      refine lv_iconst (v := 0) hx hb dX7_drawn_15 lc_0 ?_
      refine lv_iconst (v := 2) hx hb dX7_drawn_16 lc_2 ?_
      obtain ⟨r4, h3, h⟩ := zb_e h
      refine z_cSi (As := [.int x3, .int 0, .int 2]) (rest := []) hx hb hC (hml.trans hl.1.symm) hI (c_X7_within l G  (σ := σ) h3) yyX7_within q_ml_X7_89 ⟨Nat.le_of_ble_eq_true rfl, Nat.le_of_ble_eq_true rfl⟩ rfl rfl (Nat.le_of_ble_eq_true rfl) ⟨Nat.le_refl _, Nat.le_refl _⟩ dX7_drawn_17 (fun H locs hI => ?_)
      refine lv_if_ne (tgt := 28) hx hb dX7_drawn_20 (by decide) (fun hc => ?_) (fun hc => ?_)
      · have h := zi_f hc h
        refine lv_aload_n hx hb dX7_drawn_28 rfl (lv_at hl 0 rfl) ?_
        refine lv_iload_n hx hb dX7_drawn_29 rfl (lv_at hl 1 rfl) ?_
        refine lv_iload_n hx hb dX7_drawn_30 rfl (lv_at hl 2 rfl) ?_
        refine lv_iload_n hx hb dX7_drawn_31 rfl (lv_at hl 3 rfl) ?_
        obtain ⟨r7, σ6, h5, h⟩ := zb2_e h
        refine z_cVi (As := [.int x1, .int x2, .int x3]) (rest := []) hx hb hC (hml.trans hl.1.symm) hI (c_X7_drawnNow l G  h5) yyX7_drawnNow q_ml_X7_311 (oX7 G) rfl ⟨Nat.le_of_ble_eq_true rfl, Nat.le_of_ble_eq_true rfl⟩ rfl rfl (Nat.le_of_ble_eq_true rfl) ⟨Nat.le_refl _, Nat.le_refl _⟩ dX7_drawn_32 (fun H locs hI => ?_)
        exact hret ⟨congrArg Prod.fst (Option.some.inj h), congrArg Prod.snd (Option.some.inj h)⟩ hI rfl dX7_drawn_35
      · have h := zi_t hc h
        refine lv_bipush (v := (-102)) hx hb dX7_drawn_23 lb_m102 ?_
        refine lv_goto (tgt := 35) hx hb dX7_drawn_25 (by decide) ?_
        exact hret ⟨congrArg Prod.fst (Option.some.inj h), congrArg Prod.snd (Option.some.inj h)⟩ hI rfl dX7_drawn_35
set_option maxRecDepth 100000 in
set_option maxHeartbeats 4000000 in
theorem c_X7_image (l : Launch) (G : zG)  {σ σ' : SF} {r : Int32} (h : F_X7_image σ   = some (r, σ')) : zMi l WM G yX7_image cX7_image 2 .int 1 [.ref (za G 0)] σ r σ' := by
  refine zMi_of (by decide) (Nat.le_of_ble_eq_true rfl) (fun p e s m args below meth c ls Q hx hb hr hlk hml hC hI hl hret => ?_)
  have hl : lv_has ls 2 [(0, .ref (za G 0))] := hl
  have hC : zC WM G RX7 args s m := hC
  have w_33 : ∀ (n : Nat) (y1 : Int32) (σ : SF) (y1o : Int32) (σo : SF), L_X7_image_33 n y1 σ = some (y1o, σo) → ∀ (H : Heap) (locs : List Loc) (ls : Array Slot), zI WM G s σ H locs → lv_has ls 2 [(0, .ref (za G 0)), (1, .int y1)] → (∀ (H : Heap) (locs : List Loc) (ls : Array Slot), zI WM G s σo H locs → lv_has ls 2 [(0, .ref (za G 0)), (1, .int y1o)] → W p l e (zR 1) s m args below meth c H locs 0 0 Q (F0 m 93 ls [])) → W p l e (zR 1) s m args below meth c H locs 0 0 Q (F0 m 33 ls []) := by
    intro n
    induction n with
    | zero => intro y1 σ y1o σo h; cases h
    | succ n ih =>
      intro y1 σ y1o σo h H locs ls hI hl kE
      unfold L_X7_image_33 at h
      refine lv_iload_n hx hb dX7_image_33 rfl (lv_at hl 1 rfl) ?_
      refine lv_bipush (v := 8) hx hb dX7_image_34 lb_8 ?_
      refine lv_icmp_ge (tgt := 93) hx hb dX7_image_36 (by decide) (fun hc => ?_) (fun hc => ?_)
      · have h := zi_t hc h
        cases h
        exact kE _ _ _ hI (lv_sub hl [0, 1] rfl)
      · have h := zi_f hc h
        refine lv_aload_n hx hb dX7_image_39 rfl (lv_at hl 0 rfl) ?_
        refine gX7_49 hx hb hC hI q_fl_X7_74 dX7_image_40 ?_
        refine lv_iload_n hx hb dX7_image_43 rfl (lv_at hl 1 rfl) ?_
        refine lv_aload_n hx hb dX7_image_44 rfl (lv_at hl 0 rfl) ?_
        refine gX7_2 hx hb hC hI q_fl_X7_7 dX7_image_45 ?_
        refine lv_iload_n hx hb dX7_image_48 rfl (lv_at hl 1 rfl) ?_
        obtain ⟨hg, h⟩ := zg_e h
        refine z_iald hx hb hC hI (vX7_2 G) hg dX7_image_49 ?_
        obtain ⟨hg, h⟩ := zg_e h
        refine z_iast hx hb hC hI (vX7_49 G) hg dX7_image_50 (fun σ4 H locs e_σ4 hI => ?_)
        have h := zl_e h e_σ4
        refine lv_aload_n hx hb dX7_image_51 rfl (lv_at hl 0 rfl) ?_
        refine gX7_50 hx hb hC hI q_fl_X7_77 dX7_image_52 ?_
        refine lv_iconst (v := 2) hx hb dX7_image_55 lc_2 ?_
        refine lv_iload_n hx hb dX7_image_56 rfl (lv_at hl 1 rfl) ?_
        refine lv_imul hx hb dX7_image_57 ?_
        refine lv_aload_n hx hb dX7_image_58 rfl (lv_at hl 0 rfl) ?_
        refine gX7_3 hx hb hC hI q_fl_X7_13 dX7_image_59 ?_
        refine lv_iconst (v := 2) hx hb dX7_image_62 lc_2 ?_
        refine lv_iload_n hx hb dX7_image_63 rfl (lv_at hl 1 rfl) ?_
        refine lv_imul hx hb dX7_image_64 ?_
        refine lv_topi (fun v5 e_v5 => ?_)
        have h := zl_e h e_v5
        obtain ⟨hg, h⟩ := zg_e h
        refine z_iald hx hb hC hI (vX7_3 G) hg dX7_image_65 ?_
        obtain ⟨hg, h⟩ := zg_e h
        refine z_iast hx hb hC hI (vX7_50 G) hg dX7_image_66 (fun σ6 H locs e_σ6 hI => ?_)
        have h := zl_e h e_σ6
        refine lv_aload_n hx hb dX7_image_67 rfl (lv_at hl 0 rfl) ?_
        refine gX7_50 hx hb hC hI q_fl_X7_77 dX7_image_68 ?_
        refine lv_iconst (v := 2) hx hb dX7_image_71 lc_2 ?_
        refine lv_iload_n hx hb dX7_image_72 rfl (lv_at hl 1 rfl) ?_
        refine lv_imul hx hb dX7_image_73 ?_
        refine lv_iconst (v := 1) hx hb dX7_image_74 lc_1 ?_
        refine lv_iadd hx hb dX7_image_75 ?_
        refine lv_aload_n hx hb dX7_image_76 rfl (lv_at hl 0 rfl) ?_
        refine gX7_3 hx hb hC hI q_fl_X7_13 dX7_image_77 ?_
        refine lv_iconst (v := 2) hx hb dX7_image_80 lc_2 ?_
        refine lv_iload_n hx hb dX7_image_81 rfl (lv_at hl 1 rfl) ?_
        refine lv_imul hx hb dX7_image_82 ?_
        refine lv_iconst (v := 1) hx hb dX7_image_83 lc_1 ?_
        refine lv_iadd hx hb dX7_image_84 ?_
        refine lv_topi (fun v7 e_v7 => ?_)
        have h := zl_e h e_v7
        obtain ⟨hg, h⟩ := zg_e h
        refine z_iald hx hb hC hI (vX7_3 G) hg dX7_image_85 ?_
        obtain ⟨hg, h⟩ := zg_e h
        refine z_iast hx hb hC hI (vX7_50 G) hg dX7_image_86 (fun σ8 H locs e_σ8 hI => ?_)
        have h := zl_e h e_σ8
        obtain ⟨v9, e_v9⟩ : ∃ y : Int32, y = y1 + 1 := ⟨_, rfl⟩
        have h := zl_e h e_v9
        refine lv_iinc (v := v9) (lv' := [(1, .int v9), (0, .ref (za G 0))]) hx hb dX7_image_87 hl (k := 1) rfl (by rw [lc_1]; exact e_v9.symm) (by decide) rfl (fun ls hl => ?_)
        refine lv_goto (tgt := 33) hx hb dX7_image_90 (by decide) ?_
        exact ih v9 σ8 y1o σo h _ _ _ hI (lv_sub hl [1, 0] rfl) kE
  have w_95 : ∀ (n : Nat) (y1 : Int32) (σ : SF) (y1o : Int32) (σo : SF), L_X7_image_95 n y1 σ = some (y1o, σo) → ∀ (H : Heap) (locs : List Loc) (ls : Array Slot), zI WM G s σ H locs → lv_has ls 2 [(0, .ref (za G 0)), (1, .int y1)] → (∀ (H : Heap) (locs : List Loc) (ls : Array Slot), zI WM G s σo H locs → lv_has ls 2 [(0, .ref (za G 0)), (1, .int y1o)] → W p l e (zR 1) s m args below meth c H locs 0 0 Q (F0 m 143 ls [])) → W p l e (zR 1) s m args below meth c H locs 0 0 Q (F0 m 95 ls []) := by
    intro n
    induction n with
    | zero => intro y1 σ y1o σo h; cases h
    | succ n ih =>
      intro y1 σ y1o σo h H locs ls hI hl kE
      unfold L_X7_image_95 at h
      refine lv_iload_n hx hb dX7_image_95 rfl (lv_at hl 1 rfl) ?_
      refine lv_bipush (v := 6) hx hb dX7_image_96 lb_6 ?_
      refine lv_icmp_ge (tgt := 143) hx hb dX7_image_98 (by decide) (fun hc => ?_) (fun hc => ?_)
      · have h := zi_t hc h
        cases h
        exact kE _ _ _ hI (lv_sub hl [0, 1] rfl)
      · have h := zi_f hc h
        refine lv_aload_n hx hb dX7_image_101 rfl (lv_at hl 0 rfl) ?_
        refine gX7_51 hx hb hC hI q_fl_X7_80 dX7_image_102 ?_
        refine lv_iload_n hx hb dX7_image_105 rfl (lv_at hl 1 rfl) ?_
        refine lv_aload_n hx hb dX7_image_106 rfl (lv_at hl 0 rfl) ?_
        refine gX7_8 hx hb hC hI q_fl_X7_19 dX7_image_107 ?_
        refine lv_iload_n hx hb dX7_image_110 rfl (lv_at hl 1 rfl) ?_
        obtain ⟨hg, h⟩ := zg_e h
        refine z_iald hx hb hC hI (vX7_8 G) hg dX7_image_111 ?_
        obtain ⟨hg, h⟩ := zg_e h
        refine z_iast hx hb hC hI (vX7_51 G) hg dX7_image_112 (fun σ13 H locs e_σ13 hI => ?_)
        have h := zl_e h e_σ13
        refine lv_aload_n hx hb dX7_image_113 rfl (lv_at hl 0 rfl) ?_
        refine gX7_52 hx hb hC hI q_fl_X7_83 dX7_image_114 ?_
        refine lv_iload_n hx hb dX7_image_117 rfl (lv_at hl 1 rfl) ?_
        refine lv_aload_n hx hb dX7_image_118 rfl (lv_at hl 0 rfl) ?_
        refine gX7_9 hx hb hC hI q_fl_X7_22 dX7_image_119 ?_
        refine lv_iload_n hx hb dX7_image_122 rfl (lv_at hl 1 rfl) ?_
        obtain ⟨hg, h⟩ := zg_e h
        refine z_iald hx hb hC hI (vX7_9 G) hg dX7_image_123 ?_
        obtain ⟨hg, h⟩ := zg_e h
        refine z_iast hx hb hC hI (vX7_52 G) hg dX7_image_124 (fun σ14 H locs e_σ14 hI => ?_)
        have h := zl_e h e_σ14
        refine lv_aload_n hx hb dX7_image_125 rfl (lv_at hl 0 rfl) ?_
        refine gX7_53 hx hb hC hI q_fl_X7_86 dX7_image_126 ?_
        refine lv_iload_n hx hb dX7_image_129 rfl (lv_at hl 1 rfl) ?_
        refine lv_aload_n hx hb dX7_image_130 rfl (lv_at hl 0 rfl) ?_
        refine gX7_10 hx hb hC hI q_fl_X7_25 dX7_image_131 ?_
        refine lv_iload_n hx hb dX7_image_134 rfl (lv_at hl 1 rfl) ?_
        obtain ⟨hg, h⟩ := zg_e h
        refine z_iald hx hb hC hI (vX7_10 G) hg dX7_image_135 ?_
        obtain ⟨hg, h⟩ := zg_e h
        refine z_iast hx hb hC hI (vX7_53 G) hg dX7_image_136 (fun σ15 H locs e_σ15 hI => ?_)
        have h := zl_e h e_σ15
        obtain ⟨v16, e_v16⟩ : ∃ y : Int32, y = y1 + 1 := ⟨_, rfl⟩
        have h := zl_e h e_v16
        refine lv_iinc (v := v16) (lv' := [(1, .int v16), (0, .ref (za G 0))]) hx hb dX7_image_137 hl (k := 1) rfl (by rw [lc_1]; exact e_v16.symm) (by decide) rfl (fun ls hl => ?_)
        refine lv_goto (tgt := 95) hx hb dX7_image_140 (by decide) ?_
        exact ih v16 σ15 y1o σo h _ _ _ hI (lv_sub hl [1, 0] rfl) kE
  unfold F_X7_image at h
  refine lv_aload_n hx hb dX7_image_0 rfl (lv_at hl 0 rfl) ?_
  refine gX7_1 hx hb hC hI q_fl_X7_121 dX7_image_1 ?_
  refine lv_if_ne (tgt := 10) hx hb dX7_image_4 (by decide) (fun hc => ?_) (fun hc => ?_)
  · have h := zi_f hc h
    refine lv_aload_n hx hb dX7_image_10 rfl (lv_at hl 0 rfl) ?_
    refine lv_iconst (v := 1) hx hb dX7_image_11 lc_1 ?_
    refine pX7_46 hx hb hC hI rfl rfl q_fl_X7_314 dX7_image_12 (fun σ1 H locs e_σ1 hI => ?_)
    have h := zl_e h e_σ1
    refine lv_aload_n hx hb dX7_image_15 rfl (lv_at hl 0 rfl) ?_
    refine lv_aload_n hx hb dX7_image_16 rfl (lv_at hl 0 rfl) ?_
    refine gX7_0 hx hb hC hI q_fl_X7_127 dX7_image_17 ?_
    refine pX7_47 hx hb hC hI q_fl_X7_317 dX7_image_20 (fun σ2 H locs e_σ2 hI => ?_)
    have h := zl_e h e_σ2
    refine lv_aload_n hx hb dX7_image_23 rfl (lv_at hl 0 rfl) ?_
    refine lv_aload_n hx hb dX7_image_24 rfl (lv_at hl 0 rfl) ?_
    refine gX7_7 hx hb hC hI q_fl_X7_130 dX7_image_25 ?_
    refine pX7_48 hx hb hC hI q_fl_X7_320 dX7_image_28 (fun σ3 H locs e_σ3 hI => ?_)
    have h := zl_e h e_σ3
    refine lv_iconst (v := 0) hx hb dX7_image_31 lc_0 ?_
    refine lv_istore_n (lv' := [(1, .int 0), (0, .ref (za G 0))]) hx hb dX7_image_32 rfl hl (by decide) rfl (fun ls hl => ?_)
    obtain ⟨v10, σ11, h12, h⟩ := zb2_e h
    refine w_33 100 0 σ3 v10 σ11 h12 _ _ _ hI (lv_sub hl [1, 0] rfl) (fun H locs ls hI hl => ?_)
    refine lv_iconst (v := 0) hx hb dX7_image_93 lc_0 ?_
    refine lv_istore_n (lv' := [(1, .int 0), (0, .ref (za G 0))]) hx hb dX7_image_94 rfl hl (by decide) rfl (fun ls hl => ?_)
    obtain ⟨v17, σ18, h19, h⟩ := zb2_e h
    refine w_95 100 0 σ11 v17 σ18 h19 _ _ _ hI (lv_sub hl [1, 0] rfl) (fun H locs ls hI hl => ?_)
    refine lv_aload_n hx hb dX7_image_143 rfl (lv_at hl 0 rfl) ?_
    refine gX7_1 hx hb hC hI q_fl_X7_121 dX7_image_144 ?_
    exact hret ⟨congrArg Prod.fst (Option.some.inj h), congrArg Prod.snd (Option.some.inj h)⟩ hI rfl dX7_image_147
  · have h := zi_t hc h
    refine lv_bipush (v := (-103)) hx hb dX7_image_7 lb_m103 ?_
    exact hret ⟨congrArg Prod.fst (Option.some.inj h), congrArg Prod.snd (Option.some.inj h)⟩ hI rfl dX7_image_9
set_option maxRecDepth 100000 in
set_option maxHeartbeats 4000000 in
theorem c_X7_restore (l : Launch) (G : zG)  {σ σ' : SF} {r : Int32} (h : F_X7_restore σ   = some (r, σ')) : zMi l WM G yX7_restore cX7_restore 2 .int 1 [.ref (za G 0)] σ r σ' := by
  refine zMi_of (by decide) (Nat.le_of_ble_eq_true rfl) (fun p e s m args below meth c ls Q hx hb hr hlk hml hC hI hl hret => ?_)
  have hl : lv_has ls 2 [(0, .ref (za G 0))] := hl
  have hC : zC WM G RX7 args s m := hC
  have w_31 : ∀ (n : Nat) (y1 : Int32) (σ : SF) (y1o : Int32) (σo : SF), L_X7_restore_31 n y1 σ = some (y1o, σo) → ∀ (H : Heap) (locs : List Loc) (ls : Array Slot), zI WM G s σ H locs → lv_has ls 2 [(0, .ref (za G 0)), (1, .int y1)] → (∀ (H : Heap) (locs : List Loc) (ls : Array Slot), zI WM G s σo H locs → lv_has ls 2 [(0, .ref (za G 0)), (1, .int y1o)] → W p l e (zR 1) s m args below meth c H locs 0 0 Q (F0 m 91 ls [])) → W p l e (zR 1) s m args below meth c H locs 0 0 Q (F0 m 31 ls []) := by
    intro n
    induction n with
    | zero => intro y1 σ y1o σo h; cases h
    | succ n ih =>
      intro y1 σ y1o σo h H locs ls hI hl kE
      unfold L_X7_restore_31 at h
      refine lv_iload_n hx hb dX7_restore_31 rfl (lv_at hl 1 rfl) ?_
      refine lv_bipush (v := 8) hx hb dX7_restore_32 lb_8 ?_
      refine lv_icmp_ge (tgt := 91) hx hb dX7_restore_34 (by decide) (fun hc => ?_) (fun hc => ?_)
      · have h := zi_t hc h
        cases h
        exact kE _ _ _ hI (lv_sub hl [0, 1] rfl)
      · have h := zi_f hc h
        refine lv_aload_n hx hb dX7_restore_37 rfl (lv_at hl 0 rfl) ?_
        refine gX7_2 hx hb hC hI q_fl_X7_7 dX7_restore_38 ?_
        refine lv_iload_n hx hb dX7_restore_41 rfl (lv_at hl 1 rfl) ?_
        refine lv_aload_n hx hb dX7_restore_42 rfl (lv_at hl 0 rfl) ?_
        refine gX7_49 hx hb hC hI q_fl_X7_74 dX7_restore_43 ?_
        refine lv_iload_n hx hb dX7_restore_46 rfl (lv_at hl 1 rfl) ?_
        obtain ⟨hg, h⟩ := zg_e h
        refine z_iald hx hb hC hI (vX7_49 G) hg dX7_restore_47 ?_
        obtain ⟨hg, h⟩ := zg_e h
        refine z_iast hx hb hC hI (vX7_2 G) hg dX7_restore_48 (fun σ2 H locs e_σ2 hI => ?_)
        have h := zl_e h e_σ2
        refine lv_aload_n hx hb dX7_restore_49 rfl (lv_at hl 0 rfl) ?_
        refine gX7_3 hx hb hC hI q_fl_X7_13 dX7_restore_50 ?_
        refine lv_iconst (v := 2) hx hb dX7_restore_53 lc_2 ?_
        refine lv_iload_n hx hb dX7_restore_54 rfl (lv_at hl 1 rfl) ?_
        refine lv_imul hx hb dX7_restore_55 ?_
        refine lv_aload_n hx hb dX7_restore_56 rfl (lv_at hl 0 rfl) ?_
        refine gX7_50 hx hb hC hI q_fl_X7_77 dX7_restore_57 ?_
        refine lv_iconst (v := 2) hx hb dX7_restore_60 lc_2 ?_
        refine lv_iload_n hx hb dX7_restore_61 rfl (lv_at hl 1 rfl) ?_
        refine lv_imul hx hb dX7_restore_62 ?_
        refine lv_topi (fun v3 e_v3 => ?_)
        have h := zl_e h e_v3
        obtain ⟨hg, h⟩ := zg_e h
        refine z_iald hx hb hC hI (vX7_50 G) hg dX7_restore_63 ?_
        obtain ⟨hg, h⟩ := zg_e h
        refine z_iast hx hb hC hI (vX7_3 G) hg dX7_restore_64 (fun σ4 H locs e_σ4 hI => ?_)
        have h := zl_e h e_σ4
        refine lv_aload_n hx hb dX7_restore_65 rfl (lv_at hl 0 rfl) ?_
        refine gX7_3 hx hb hC hI q_fl_X7_13 dX7_restore_66 ?_
        refine lv_iconst (v := 2) hx hb dX7_restore_69 lc_2 ?_
        refine lv_iload_n hx hb dX7_restore_70 rfl (lv_at hl 1 rfl) ?_
        refine lv_imul hx hb dX7_restore_71 ?_
        refine lv_iconst (v := 1) hx hb dX7_restore_72 lc_1 ?_
        refine lv_iadd hx hb dX7_restore_73 ?_
        refine lv_aload_n hx hb dX7_restore_74 rfl (lv_at hl 0 rfl) ?_
        refine gX7_50 hx hb hC hI q_fl_X7_77 dX7_restore_75 ?_
        refine lv_iconst (v := 2) hx hb dX7_restore_78 lc_2 ?_
        refine lv_iload_n hx hb dX7_restore_79 rfl (lv_at hl 1 rfl) ?_
        refine lv_imul hx hb dX7_restore_80 ?_
        refine lv_iconst (v := 1) hx hb dX7_restore_81 lc_1 ?_
        refine lv_iadd hx hb dX7_restore_82 ?_
        refine lv_topi (fun v5 e_v5 => ?_)
        have h := zl_e h e_v5
        obtain ⟨hg, h⟩ := zg_e h
        refine z_iald hx hb hC hI (vX7_50 G) hg dX7_restore_83 ?_
        obtain ⟨hg, h⟩ := zg_e h
        refine z_iast hx hb hC hI (vX7_3 G) hg dX7_restore_84 (fun σ6 H locs e_σ6 hI => ?_)
        have h := zl_e h e_σ6
        obtain ⟨v7, e_v7⟩ : ∃ y : Int32, y = y1 + 1 := ⟨_, rfl⟩
        have h := zl_e h e_v7
        refine lv_iinc (v := v7) (lv' := [(1, .int v7), (0, .ref (za G 0))]) hx hb dX7_restore_85 hl (k := 1) rfl (by rw [lc_1]; exact e_v7.symm) (by decide) rfl (fun ls hl => ?_)
        refine lv_goto (tgt := 31) hx hb dX7_restore_88 (by decide) ?_
        exact ih v7 σ6 y1o σo h _ _ _ hI (lv_sub hl [1, 0] rfl) kE
  have w_93 : ∀ (n : Nat) (y1 : Int32) (σ : SF) (y1o : Int32) (σo : SF), L_X7_restore_93 n y1 σ = some (y1o, σo) → ∀ (H : Heap) (locs : List Loc) (ls : Array Slot), zI WM G s σ H locs → lv_has ls 2 [(0, .ref (za G 0)), (1, .int y1)] → (∀ (H : Heap) (locs : List Loc) (ls : Array Slot), zI WM G s σo H locs → lv_has ls 2 [(0, .ref (za G 0)), (1, .int y1o)] → W p l e (zR 1) s m args below meth c H locs 0 0 Q (F0 m 141 ls [])) → W p l e (zR 1) s m args below meth c H locs 0 0 Q (F0 m 93 ls []) := by
    intro n
    induction n with
    | zero => intro y1 σ y1o σo h; cases h
    | succ n ih =>
      intro y1 σ y1o σo h H locs ls hI hl kE
      unfold L_X7_restore_93 at h
      refine lv_iload_n hx hb dX7_restore_93 rfl (lv_at hl 1 rfl) ?_
      refine lv_bipush (v := 6) hx hb dX7_restore_94 lb_6 ?_
      refine lv_icmp_ge (tgt := 141) hx hb dX7_restore_96 (by decide) (fun hc => ?_) (fun hc => ?_)
      · have h := zi_t hc h
        cases h
        exact kE _ _ _ hI (lv_sub hl [0, 1] rfl)
      · have h := zi_f hc h
        refine lv_aload_n hx hb dX7_restore_99 rfl (lv_at hl 0 rfl) ?_
        refine gX7_8 hx hb hC hI q_fl_X7_19 dX7_restore_100 ?_
        refine lv_iload_n hx hb dX7_restore_103 rfl (lv_at hl 1 rfl) ?_
        refine lv_aload_n hx hb dX7_restore_104 rfl (lv_at hl 0 rfl) ?_
        refine gX7_51 hx hb hC hI q_fl_X7_80 dX7_restore_105 ?_
        refine lv_iload_n hx hb dX7_restore_108 rfl (lv_at hl 1 rfl) ?_
        obtain ⟨hg, h⟩ := zg_e h
        refine z_iald hx hb hC hI (vX7_51 G) hg dX7_restore_109 ?_
        obtain ⟨hg, h⟩ := zg_e h
        refine z_iast hx hb hC hI (vX7_8 G) hg dX7_restore_110 (fun σ11 H locs e_σ11 hI => ?_)
        have h := zl_e h e_σ11
        refine lv_aload_n hx hb dX7_restore_111 rfl (lv_at hl 0 rfl) ?_
        refine gX7_9 hx hb hC hI q_fl_X7_22 dX7_restore_112 ?_
        refine lv_iload_n hx hb dX7_restore_115 rfl (lv_at hl 1 rfl) ?_
        refine lv_aload_n hx hb dX7_restore_116 rfl (lv_at hl 0 rfl) ?_
        refine gX7_52 hx hb hC hI q_fl_X7_83 dX7_restore_117 ?_
        refine lv_iload_n hx hb dX7_restore_120 rfl (lv_at hl 1 rfl) ?_
        obtain ⟨hg, h⟩ := zg_e h
        refine z_iald hx hb hC hI (vX7_52 G) hg dX7_restore_121 ?_
        obtain ⟨hg, h⟩ := zg_e h
        refine z_iast hx hb hC hI (vX7_9 G) hg dX7_restore_122 (fun σ12 H locs e_σ12 hI => ?_)
        have h := zl_e h e_σ12
        refine lv_aload_n hx hb dX7_restore_123 rfl (lv_at hl 0 rfl) ?_
        refine gX7_10 hx hb hC hI q_fl_X7_25 dX7_restore_124 ?_
        refine lv_iload_n hx hb dX7_restore_127 rfl (lv_at hl 1 rfl) ?_
        refine lv_aload_n hx hb dX7_restore_128 rfl (lv_at hl 0 rfl) ?_
        refine gX7_53 hx hb hC hI q_fl_X7_86 dX7_restore_129 ?_
        refine lv_iload_n hx hb dX7_restore_132 rfl (lv_at hl 1 rfl) ?_
        obtain ⟨hg, h⟩ := zg_e h
        refine z_iald hx hb hC hI (vX7_53 G) hg dX7_restore_133 ?_
        obtain ⟨hg, h⟩ := zg_e h
        refine z_iast hx hb hC hI (vX7_10 G) hg dX7_restore_134 (fun σ13 H locs e_σ13 hI => ?_)
        have h := zl_e h e_σ13
        obtain ⟨v14, e_v14⟩ : ∃ y : Int32, y = y1 + 1 := ⟨_, rfl⟩
        have h := zl_e h e_v14
        refine lv_iinc (v := v14) (lv' := [(1, .int v14), (0, .ref (za G 0))]) hx hb dX7_restore_135 hl (k := 1) rfl (by rw [lc_1]; exact e_v14.symm) (by decide) rfl (fun ls hl => ?_)
        refine lv_goto (tgt := 93) hx hb dX7_restore_138 (by decide) ?_
        exact ih v14 σ13 y1o σo h _ _ _ hI (lv_sub hl [1, 0] rfl) kE
  unfold F_X7_restore at h
  refine lv_aload_n hx hb dX7_restore_0 rfl (lv_at hl 0 rfl) ?_
  refine gX7_46 hx hb hC hI q_fl_X7_314 dX7_restore_1 ?_
  refine lv_if_eq (tgt := 18) hx hb dX7_restore_4 (by decide) (fun hc => ?_) (fun hc => ?_)
  · have h := zi_t hc h
    refine lv_bipush (v := (-103)) hx hb dX7_restore_18 lb_m103 ?_
    exact hret ⟨congrArg Prod.fst (Option.some.inj h), congrArg Prod.snd (Option.some.inj h)⟩ hI rfl dX7_restore_20
  · have h := zi_f hc h
    refine lv_aload_n hx hb dX7_restore_7 rfl (lv_at hl 0 rfl) ?_
    refine gX7_47 hx hb hC hI q_fl_X7_317 dX7_restore_8 ?_
    refine lv_aload_n hx hb dX7_restore_11 rfl (lv_at hl 0 rfl) ?_
    refine gX7_0 hx hb hC hI q_fl_X7_127 dX7_restore_12 ?_
    refine lv_icmp_eq (tgt := 21) hx hb dX7_restore_15 (by decide) (fun hc => ?_) (fun hc => ?_)
    · have h := zi_t hc h
      refine lv_aload_n hx hb dX7_restore_21 rfl (lv_at hl 0 rfl) ?_
      refine lv_aload_n hx hb dX7_restore_22 rfl (lv_at hl 0 rfl) ?_
      refine gX7_48 hx hb hC hI q_fl_X7_320 dX7_restore_23 ?_
      refine pX7_7 hx hb hC hI q_fl_X7_130 dX7_restore_26 (fun σ1 H locs e_σ1 hI => ?_)
      have h := zl_e h e_σ1
      refine lv_iconst (v := 0) hx hb dX7_restore_29 lc_0 ?_
      refine lv_istore_n (lv' := [(1, .int 0), (0, .ref (za G 0))]) hx hb dX7_restore_30 rfl hl (by decide) rfl (fun ls hl => ?_)
      obtain ⟨v8, σ9, h10, h⟩ := zb2_e h
      refine w_31 100 0 σ1 v8 σ9 h10 _ _ _ hI (lv_sub hl [1, 0] rfl) (fun H locs ls hI hl => ?_)
      refine lv_iconst (v := 0) hx hb dX7_restore_91 lc_0 ?_
      refine lv_istore_n (lv' := [(1, .int 0), (0, .ref (za G 0))]) hx hb dX7_restore_92 rfl hl (by decide) rfl (fun ls hl => ?_)
      obtain ⟨v15, σ16, h17, h⟩ := zb2_e h
      refine w_93 100 0 σ9 v15 σ16 h17 _ _ _ hI (lv_sub hl [1, 0] rfl) (fun H locs ls hI hl => ?_)
      refine lv_aload_n hx hb dX7_restore_141 rfl (lv_at hl 0 rfl) ?_
      refine gX7_1 hx hb hC hI q_fl_X7_121 dX7_restore_142 ?_
      exact hret ⟨congrArg Prod.fst (Option.some.inj h), congrArg Prod.snd (Option.some.inj h)⟩ hI rfl dX7_restore_145
    · have h := zi_f hc h
      refine lv_bipush (v := (-103)) hx hb dX7_restore_18 lb_m103 ?_
      exact hret ⟨congrArg Prod.fst (Option.some.inj h), congrArg Prod.snd (Option.some.inj h)⟩ hI rfl dX7_restore_20
set_option maxRecDepth 100000 in
set_option maxHeartbeats 4000000 in
theorem c_X7_ofGraph (l : Launch) (G : zG)  {σ σ' : SF} {r : Int32} {x1 : Int32} (h : F_X7_ofGraph σ  x1 = some (r, σ')) : zMi l WM G yX7_ofGraph cX7_ofGraph 2 .int 7 [.ref (za G 0), .int x1] σ r σ' := by
  refine zMi_of (by decide) (Nat.le_of_ble_eq_true rfl) (fun p e s m args below meth c ls Q hx hb hr hlk hml hC hI hl hret => ?_)
  have hl : lv_has ls 2 [(0, .ref (za G 0)), (1, .int x1)] := hl
  have hC : zC WM G RX7 args s m := hC
  unfold F_X7_ofGraph at h
  refine lv_aload_n hx hb dX7_ofGraph_0 rfl (lv_at hl 0 rfl) ?_
  refine gX7_1 hx hb hC hI q_fl_X7_121 dX7_ofGraph_1 ?_
  refine lv_if_ne (tgt := 9) hx hb dX7_ofGraph_4 (by decide) (fun hc => ?_) (fun hc => ?_)
  · have h := zi_f hc h
    refine lv_aload_n hx hb dX7_ofGraph_9 rfl (lv_at hl 0 rfl) ?_
    obtain ⟨σ2, h1, h⟩ := zb_e h
    refine z_cVv (As := []) (rest := []) hx hb hC (hml.trans hl.1.symm) hI (c_X7_layNow l G  h1) yyX7_layNow q_ml_X7_210 (oX7 G) rfl ⟨Nat.le_of_ble_eq_true rfl, Nat.le_of_ble_eq_true rfl⟩ rfl rfl (Nat.le_of_ble_eq_true rfl) ⟨Nat.le_refl _, Nat.le_refl _⟩ dX7_ofGraph_10 (fun H locs hI => ?_)
    refine lv_iload_n hx hb dX7_ofGraph_13 rfl (lv_at hl 1 rfl) ?_
    refine lv_iconst (v := 1) hx hb dX7_ofGraph_14 lc_1 ?_
    refine lv_icmp_ne (tgt := 25) hx hb dX7_ofGraph_15 (by decide) (fun hc => ?_) (fun hc => ?_)
    · have h := zi_f hc h
      refine lv_iload_n hx hb dX7_ofGraph_25 rfl (lv_at hl 1 rfl) ?_
      refine lv_iconst (v := 2) hx hb dX7_ofGraph_26 lc_2 ?_
      refine lv_icmp_ne (tgt := 37) hx hb dX7_ofGraph_27 (by decide) (fun hc => ?_) (fun hc => ?_)
      · have h := zi_f hc h
        refine lv_iload_n hx hb dX7_ofGraph_37 rfl (lv_at hl 1 rfl) ?_
        refine lv_iconst (v := 3) hx hb dX7_ofGraph_38 lc_3 ?_
        refine lv_icmp_ne (tgt := 49) hx hb dX7_ofGraph_39 (by decide) (fun hc => ?_) (fun hc => ?_)
        · have h := zi_f hc h
          refine lv_iload_n hx hb dX7_ofGraph_49 rfl (lv_at hl 1 rfl) ?_
          refine lv_iconst (v := 4) hx hb dX7_ofGraph_50 lc_4 ?_
          refine lv_icmp_ne (tgt := 61) hx hb dX7_ofGraph_51 (by decide) (fun hc => ?_) (fun hc => ?_)
          · have h := zi_f hc h
            refine lv_iload_n hx hb dX7_ofGraph_61 rfl (lv_at hl 1 rfl) ?_
            refine lv_iconst (v := 5) hx hb dX7_ofGraph_62 lc_5 ?_
            refine lv_icmp_ne (tgt := 76) hx hb dX7_ofGraph_63 (by decide) (fun hc => ?_) (fun hc => ?_)
            · have h := zi_f hc h
              refine lv_aload_n hx hb dX7_ofGraph_76 rfl (lv_at hl 0 rfl) ?_
              refine gX7_32 hx hb hC hI q_fl_X7_171 dX7_ofGraph_77 ?_
              obtain ⟨r4, h3, h⟩ := zb_e h
              refine z_cSi (As := [.int (σ2 0 32)]) (rest := []) hx hb hC (hml.trans hl.1.symm) hI (c_X7_size l G  (σ := σ2) h3) yyX7_size q_ml_X7_156 ⟨Nat.le_of_ble_eq_true rfl, Nat.le_of_ble_eq_true rfl⟩ rfl rfl (Nat.le_of_ble_eq_true rfl) ⟨Nat.le_refl _, Nat.le_refl _⟩ dX7_ofGraph_80 (fun H locs hI => ?_)
              exact hret ⟨congrArg Prod.fst (Option.some.inj h), congrArg Prod.snd (Option.some.inj h)⟩ hI rfl dX7_ofGraph_83
            · have h := zi_t hc h
              refine lv_aload_n hx hb dX7_ofGraph_66 rfl (lv_at hl 0 rfl) ?_
              refine gX7_31 hx hb hC hI q_fl_X7_168 dX7_ofGraph_67 ?_
              obtain ⟨r6, h5, h⟩ := zb_e h
              refine z_cSi (As := [.int (σ2 0 31)]) (rest := []) hx hb hC (hml.trans hl.1.symm) hI (c_X7_size l G  (σ := σ2) h5) yyX7_size q_ml_X7_156 ⟨Nat.le_of_ble_eq_true rfl, Nat.le_of_ble_eq_true rfl⟩ rfl rfl (Nat.le_of_ble_eq_true rfl) ⟨Nat.le_refl _, Nat.le_refl _⟩ dX7_ofGraph_70 (fun H locs hI => ?_)
              refine lv_goto (tgt := 83) hx hb dX7_ofGraph_73 (by decide) ?_
              exact hret ⟨congrArg Prod.fst (Option.some.inj h), congrArg Prod.snd (Option.some.inj h)⟩ hI rfl dX7_ofGraph_83
          · have h := zi_t hc h
            refine lv_aload_n hx hb dX7_ofGraph_54 rfl (lv_at hl 0 rfl) ?_
            refine gX7_30 hx hb hC hI q_fl_X7_165 dX7_ofGraph_55 ?_
            refine lv_goto (tgt := 83) hx hb dX7_ofGraph_58 (by decide) ?_
            exact hret ⟨congrArg Prod.fst (Option.some.inj h), congrArg Prod.snd (Option.some.inj h)⟩ hI rfl dX7_ofGraph_83
        · have h := zi_t hc h
          refine lv_aload_n hx hb dX7_ofGraph_42 rfl (lv_at hl 0 rfl) ?_
          refine gX7_29 hx hb hC hI q_fl_X7_162 dX7_ofGraph_43 ?_
          refine lv_goto (tgt := 83) hx hb dX7_ofGraph_46 (by decide) ?_
          exact hret ⟨congrArg Prod.fst (Option.some.inj h), congrArg Prod.snd (Option.some.inj h)⟩ hI rfl dX7_ofGraph_83
      · have h := zi_t hc h
        refine lv_aload_n hx hb dX7_ofGraph_30 rfl (lv_at hl 0 rfl) ?_
        refine gX7_28 hx hb hC hI q_fl_X7_159 dX7_ofGraph_31 ?_
        refine lv_goto (tgt := 83) hx hb dX7_ofGraph_34 (by decide) ?_
        exact hret ⟨congrArg Prod.fst (Option.some.inj h), congrArg Prod.snd (Option.some.inj h)⟩ hI rfl dX7_ofGraph_83
    · have h := zi_t hc h
      refine lv_aload_n hx hb dX7_ofGraph_18 rfl (lv_at hl 0 rfl) ?_
      refine gX7_23 hx hb hC hI q_fl_X7_150 dX7_ofGraph_19 ?_
      refine lv_goto (tgt := 83) hx hb dX7_ofGraph_22 (by decide) ?_
      exact hret ⟨congrArg Prod.fst (Option.some.inj h), congrArg Prod.snd (Option.some.inj h)⟩ hI rfl dX7_ofGraph_83
  · have h := zi_t hc h
    refine lv_iconst (v := 0) hx hb dX7_ofGraph_7 lc_0 ?_
    exact hret ⟨congrArg Prod.fst (Option.some.inj h), congrArg Prod.snd (Option.some.inj h)⟩ hI rfl dX7_ofGraph_8
set_option maxRecDepth 100000 in
set_option maxHeartbeats 4000000 in
theorem c_X7_howMany (l : Launch) (G : zG)  {σ σ' : SF} {r : Int32} {x1 : Int32} (h : F_X7_howMany σ  x1 = some (r, σ')) : zMi l WM G yX7_howMany cX7_howMany 2 .int 8 [.ref (za G 0), .int x1] σ r σ' := by
  refine zMi_of (by decide) (Nat.le_of_ble_eq_true rfl) (fun p e s m args below meth c ls Q hx hb hr hlk hml hC hI hl hret => ?_)
  have hl : lv_has ls 2 [(0, .ref (za G 0)), (1, .int x1)] := hl
  have hC : zC WM G RX7 args s m := hC
  unfold F_X7_howMany at h
  refine lv_iload_n hx hb dX7_howMany_0 rfl (lv_at hl 1 rfl) ?_
  by_cases n_1_0 : x1 = 0
  · have h := zi_t n_1_0 h
    refine lv_tableIn (tgt := 64) hx hb dX7_howMany_1 (by rw [n_1_0]; decide) (by rw [n_1_0]; decide) (by rw [n_1_0]; rfl) (by decide) ?_
    refine lv_aload_n hx hb dX7_howMany_64 rfl (lv_at hl 0 rfl) ?_
    refine gX7_1 hx hb hC hI q_fl_X7_121 dX7_howMany_65 ?_
    exact hret ⟨congrArg Prod.fst (Option.some.inj h), congrArg Prod.snd (Option.some.inj h)⟩ hI rfl dX7_howMany_68
  have h := zi_f n_1_0 h
  by_cases n_1_7 : x1 = 7
  · have h := zi_t n_1_7 h
    refine lv_tableIn (tgt := 69) hx hb dX7_howMany_1 (by rw [n_1_7]; decide) (by rw [n_1_7]; decide) (by rw [n_1_7]; rfl) (by decide) ?_
    refine lv_aload_n hx hb dX7_howMany_69 rfl (lv_at hl 0 rfl) ?_
    refine gX7_4 hx hb hC hI q_fl_X7_124 dX7_howMany_70 ?_
    exact hret ⟨congrArg Prod.fst (Option.some.inj h), congrArg Prod.snd (Option.some.inj h)⟩ hI rfl dX7_howMany_73
  have h := zi_f n_1_7 h
  by_cases n_1_8 : x1 = 8
  · have h := zi_t n_1_8 h
    refine lv_tableIn (tgt := 74) hx hb dX7_howMany_1 (by rw [n_1_8]; decide) (by rw [n_1_8]; decide) (by rw [n_1_8]; rfl) (by decide) ?_
    refine lv_aload_n hx hb dX7_howMany_74 rfl (lv_at hl 0 rfl) ?_
    refine gX7_7 hx hb hC hI q_fl_X7_130 dX7_howMany_75 ?_
    exact hret ⟨congrArg Prod.fst (Option.some.inj h), congrArg Prod.snd (Option.some.inj h)⟩ hI rfl dX7_howMany_78
  have h := zi_f n_1_8 h
  by_cases n_1_9 : x1 = 9
  · have h := zi_t n_1_9 h
    refine lv_tableIn (tgt := 79) hx hb dX7_howMany_1 (by rw [n_1_9]; decide) (by rw [n_1_9]; decide) (by rw [n_1_9]; rfl) (by decide) ?_
    refine lv_aload_n hx hb dX7_howMany_79 rfl (lv_at hl 0 rfl) ?_
    refine gX7_11 hx hb hC hI q_fl_X7_93 dX7_howMany_80 ?_
    exact hret ⟨congrArg Prod.fst (Option.some.inj h), congrArg Prod.snd (Option.some.inj h)⟩ hI rfl dX7_howMany_83
  have h := zi_f n_1_9 h
  by_cases n_1_10 : x1 = 10
  · have h := zi_t n_1_10 h
    refine lv_tableIn (tgt := 84) hx hb dX7_howMany_1 (by rw [n_1_10]; decide) (by rw [n_1_10]; decide) (by rw [n_1_10]; rfl) (by decide) ?_
    refine lv_aload_n hx hb dX7_howMany_84 rfl (lv_at hl 0 rfl) ?_
    refine gX7_0 hx hb hC hI q_fl_X7_127 dX7_howMany_85 ?_
    exact hret ⟨congrArg Prod.fst (Option.some.inj h), congrArg Prod.snd (Option.some.inj h)⟩ hI rfl dX7_howMany_88
  have h := zi_f n_1_10 h
  by_cases n_1_11 : x1 = 11
  · have h := zi_t n_1_11 h
    refine lv_tableIn (tgt := 89) hx hb dX7_howMany_1 (by rw [n_1_11]; decide) (by rw [n_1_11]; decide) (by rw [n_1_11]; rfl) (by decide) ?_
    refine lv_aload_n hx hb dX7_howMany_89 rfl (lv_at hl 0 rfl) ?_
    refine gX7_6 hx hb hC hI q_fl_X7_283 dX7_howMany_90 ?_
    exact hret ⟨congrArg Prod.fst (Option.some.inj h), congrArg Prod.snd (Option.some.inj h)⟩ hI rfl dX7_howMany_93
  have h := zi_f n_1_11 h
  have t_1 : (x1 : Int32).toInt ≠ 0 ∧ (x1 : Int32).toInt ≠ 7 ∧ (x1 : Int32).toInt ≠ 8 ∧ (x1 : Int32).toInt ≠ 9 ∧ (x1 : Int32).toInt ≠ 10 ∧ (x1 : Int32).toInt ≠ 11 := by
    exact ⟨zne_toInt n_1_0, zne_toInt n_1_7, zne_toInt n_1_8, zne_toInt n_1_9, zne_toInt n_1_10, zne_toInt n_1_11⟩
  refine zTable hx hb dX7_howMany_1 (tgt := 94) (fun hlo hhi => ?_) (by decide) ?_
  · rcases (show (x1 : Int32).toInt = 1 ∨ (x1 : Int32).toInt = 2 ∨ (x1 : Int32).toInt = 3 ∨ (x1 : Int32).toInt = 4 ∨ (x1 : Int32).toInt = 5 ∨ (x1 : Int32).toInt = 6 by omega) with h9 | h9 | h9 | h9 | h9 | h9 <;> rw [h9] <;> rfl
  refine lv_iload_n hx hb dX7_howMany_94 rfl (lv_at hl 1 rfl) ?_
  refine lv_iconst (v := 1) hx hb dX7_howMany_95 lc_1 ?_
  refine lv_bipush (v := 6) hx hb dX7_howMany_96 lb_6 ?_
  obtain ⟨r2, h1, h⟩ := zb_e h
  refine z_cSi (As := [.int x1, .int 1, .int 6]) (rest := []) hx hb hC (hml.trans hl.1.symm) hI (c_X7_within l G  (σ := σ) h1) yyX7_within q_ml_X7_89 ⟨Nat.le_of_ble_eq_true rfl, Nat.le_of_ble_eq_true rfl⟩ rfl rfl (Nat.le_of_ble_eq_true rfl) ⟨Nat.le_refl _, Nat.le_refl _⟩ dX7_howMany_98 (fun H locs hI => ?_)
  refine lv_if_eq (tgt := 112) hx hb dX7_howMany_101 (by decide) (fun hc => ?_) (fun hc => ?_)
  · have h := zi_t hc h
    refine lv_bipush (v := (-102)) hx hb dX7_howMany_112 lb_m102 ?_
    exact hret ⟨congrArg Prod.fst (Option.some.inj h), congrArg Prod.snd (Option.some.inj h)⟩ hI rfl dX7_howMany_114
  · have h := zi_f hc h
    refine lv_aload_n hx hb dX7_howMany_104 rfl (lv_at hl 0 rfl) ?_
    refine lv_iload_n hx hb dX7_howMany_105 rfl (lv_at hl 1 rfl) ?_
    obtain ⟨r5, σ4, h3, h⟩ := zb2_e h
    refine z_cVi (As := [.int x1]) (rest := []) hx hb hC (hml.trans hl.1.symm) hI (c_X7_ofGraph l G  h3) yyX7_ofGraph q_ml_X7_323 (oX7 G) rfl ⟨Nat.le_of_ble_eq_true rfl, Nat.le_of_ble_eq_true rfl⟩ rfl rfl (Nat.le_of_ble_eq_true rfl) ⟨Nat.le_refl _, Nat.le_refl _⟩ dX7_howMany_106 (fun H locs hI => ?_)
    refine lv_goto (tgt := 114) hx hb dX7_howMany_109 (by decide) ?_
    exact hret ⟨congrArg Prod.fst (Option.some.inj h), congrArg Prod.snd (Option.some.inj h)⟩ hI rfl dX7_howMany_114
set_option maxRecDepth 100000 in
set_option maxHeartbeats 4000000 in
theorem c_X7_count (l : Launch) (G : zG)  {σ σ' : SF} {r : Int32} {x1 : Int32} (h : F_X7_count σ  x1 = some (r, σ')) : zMi l WM G yX7_count cX7_count 2 .int 9 [.ref (za G 0), .int x1] σ r σ' := by
  refine zMi_of (by decide) (Nat.le_of_ble_eq_true rfl) (fun p e s m args below meth c ls Q hx hb hr hlk hml hC hI hl hret => ?_)
  have hl : lv_has ls 2 [(0, .ref (za G 0)), (1, .int x1)] := hl
  have hC : zC WM G RX7 args s m := hC
  unfold F_X7_count at h
  refine lv_aload_n hx hb dX7_count_0 rfl (lv_at hl 0 rfl) ?_
  refine lv_iload_n hx hb dX7_count_1 rfl (lv_at hl 1 rfl) ?_
  obtain ⟨r3, σ2, h1, h⟩ := zb2_e h
  refine z_cVi (As := [.int x1]) (rest := []) hx hb hC (hml.trans hl.1.symm) hI (c_X7_howMany l G  h1) yyX7_howMany q_ml_X7_326 (oX7 G) rfl ⟨Nat.le_of_ble_eq_true rfl, Nat.le_of_ble_eq_true rfl⟩ rfl rfl (Nat.le_of_ble_eq_true rfl) ⟨Nat.le_refl _, Nat.le_refl _⟩ dX7_count_2 (fun H locs hI => ?_)
  exact hret ⟨congrArg Prod.fst (Option.some.inj h), congrArg Prod.snd (Option.some.inj h)⟩ hI rfl dX7_count_5
set_option maxRecDepth 100000 in
set_option maxHeartbeats 4000000 in
theorem c_X7_mix (l : Launch) (G : zG)  {σ σ' : SF} {x1 : Int64} (h : F_X7_mix σ  x1 = some σ') : zMv l WM G yX7_mix cX7_mix 3 1 [.ref (za G 0), .long x1] σ σ' := by
  refine zMv_of (by decide) (Nat.le_of_ble_eq_true rfl) (fun p e s m args below meth c ls Q hx hb hr hlk hml hC hI hl hret => ?_)
  have hl : lv_has ls 3 [(0, .ref (za G 0)), (1, .long x1)] := hl
  have hC : zC WM G RX7 args s m := hC
  unfold F_X7_mix at h
  refine lv_aload_n hx hb dX7_mix_0 rfl (lv_at hl 0 rfl) ?_
  refine lv_ldc2 hx hb hC.1 (hC.ts q_ct_X7_329) dX7_mix_1 ?_
  refine lv_aload_n hx hb dX7_mix_4 rfl (lv_at hl 0 rfl) ?_
  refine gX7_54 hx hb hC hI q_fl_X7_331 dX7_mix_5 ?_
  refine lv_lmul hx hb dX7_mix_8 ?_
  refine lv_lload_n hx hb dX7_mix_9 rfl (lv_at hl 1 rfl) ?_
  refine lv_ladd hx hb dX7_mix_10 ?_
  refine pX7_54 hx hb hC hI q_fl_X7_331 dX7_mix_11 (fun σ1 H locs e_σ1 hI => ?_)
  have h := zl_e h e_σ1
  exact hret (Option.some.inj h) hI dX7_mix_14
set_option maxRecDepth 100000 in
set_option maxHeartbeats 4000000 in
theorem c_X7_mixGraph (l : Launch) (G : zG)  {σ σ' : SF} (h : F_X7_mixGraph σ   = some σ') : zMv l WM G yX7_mixGraph cX7_mixGraph 3 8 [.ref (za G 0)] σ σ' := by
  refine zMv_of (by decide) (Nat.le_of_ble_eq_true rfl) (fun p e s m args below meth c ls Q hx hb hr hlk hml hC hI hl hret => ?_)
  have hl : lv_has ls 3 [(0, .ref (za G 0))] := hl
  have hC : zC WM G RX7 args s m := hC
  have w_16 : ∀ (n : Nat) (y1 : Int32) (y2 : Int32) (σ : SF) (y2o : Int32) (σo : SF), L_X7_mixGraph_16 y1 n y2 σ = some (y2o, σo) → ∀ (H : Heap) (locs : List Loc) (ls : Array Slot), zI WM G s σ H locs → lv_has ls 3 [(0, .ref (za G 0)), (1, .int y1), (2, .int y2)] → (∀ (H : Heap) (locs : List Loc) (ls : Array Slot), zI WM G s σo H locs → lv_has ls 3 [(0, .ref (za G 0)), (1, .int y1), (2, .int y2o)] → W p l e (zR 8) s m args below meth c H locs 0 0 Q (F0 m 39 ls [])) → W p l e (zR 8) s m args below meth c H locs 0 0 Q (F0 m 16 ls []) := by
    intro n
    induction n with
    | zero => intro y1 y2 σ y2o σo h; cases h
    | succ n ih =>
      intro y1 y2 σ y2o σo h H locs ls hI hl kE
      unfold L_X7_mixGraph_16 at h
      refine lv_iload_n hx hb dX7_mixGraph_16 rfl (lv_at hl 2 rfl) ?_
      refine lv_bipush (v := 10) hx hb dX7_mixGraph_17 lb_10 ?_
      refine lv_icmp_ge (tgt := 39) hx hb dX7_mixGraph_19 (by decide) (fun hc => ?_) (fun hc => ?_)
      · have h := zi_t hc h
        cases h
        exact kE _ _ _ hI (lv_sub hl [0, 1, 2] rfl)
      · have h := zi_f hc h
        refine lv_aload_n hx hb dX7_mixGraph_22 rfl (lv_at hl 0 rfl) ?_
        refine lv_aload_n hx hb dX7_mixGraph_23 rfl (lv_at hl 0 rfl) ?_
        refine lv_iload_n hx hb dX7_mixGraph_24 rfl (lv_at hl 1 rfl) ?_
        refine lv_iload_n hx hb dX7_mixGraph_25 rfl (lv_at hl 2 rfl) ?_
        obtain ⟨r4, h3, h⟩ := zb_e h
        refine z_cVi (As := [.int y1, .int y2]) (rest := [.ref (za G 0)]) hx hb hC (hml.trans hl.1.symm) hI (c_X7_nodeNow l G  h3) yyX7_nodeNow q_ml_X7_213 (oX7 G) rfl ⟨Nat.le_of_ble_eq_true rfl, Nat.le_of_ble_eq_true rfl⟩ rfl rfl (Nat.le_of_ble_eq_true rfl) ⟨Nat.le_refl _, Nat.le_refl _⟩ dX7_mixGraph_26 (fun H locs hI => ?_)
        refine lv_i2l hx hb dX7_mixGraph_29 rfl ?_
        obtain ⟨σ6, h5, h⟩ := zb_e h
        refine z_cVv (As := [.long ((r4 : Int32).toInt64)]) (rest := []) hx hb hC (hml.trans hl.1.symm) hI (c_X7_mix l G  h5) yyX7_mix q_ml_X7_334 (oX7 G) rfl ⟨Nat.le_of_ble_eq_true rfl, Nat.le_of_ble_eq_true rfl⟩ rfl rfl (Nat.le_of_ble_eq_true rfl) ⟨Nat.le_refl _, Nat.le_refl _⟩ dX7_mixGraph_30 (fun H locs hI => ?_)
        obtain ⟨v7, e_v7⟩ : ∃ y : Int32, y = y2 + 1 := ⟨_, rfl⟩
        have h := zl_e h e_v7
        refine lv_iinc (v := v7) (lv' := [(2, .int v7), (0, .ref (za G 0)), (1, .int y1)]) hx hb dX7_mixGraph_33 hl (k := 2) rfl (by rw [lc_1]; exact e_v7.symm) (by decide) rfl (fun ls hl => ?_)
        refine lv_goto (tgt := 16) hx hb dX7_mixGraph_36 (by decide) ?_
        exact ih y1 v7 σ6 y2o σo h _ _ _ hI (lv_sub hl [1, 2, 0] rfl) kE
  have w_6 : ∀ (n : Nat) (y1 : Int32) (σ : SF) (y1o : Int32) (σo : SF), L_X7_mixGraph_6 n y1 σ = some (y1o, σo) → ∀ (H : Heap) (locs : List Loc) (ls : Array Slot), zI WM G s σ H locs → lv_has ls 3 [(0, .ref (za G 0)), (1, .int y1)] → (∀ (H : Heap) (locs : List Loc) (ls : Array Slot), zI WM G s σo H locs → lv_has ls 3 [(0, .ref (za G 0)), (1, .int y1o)] → W p l e (zR 8) s m args below meth c H locs 0 0 Q (F0 m 71 ls [])) → W p l e (zR 8) s m args below meth c H locs 0 0 Q (F0 m 6 ls []) := by
    intro n
    induction n with
    | zero => intro y1 σ y1o σo h; cases h
    | succ n ih =>
      intro y1 σ y1o σo h H locs ls hI hl kE
      unfold L_X7_mixGraph_6 at h
      refine lv_iload_n hx hb dX7_mixGraph_6 rfl (lv_at hl 1 rfl) ?_
      refine lv_aload_n hx hb dX7_mixGraph_7 rfl (lv_at hl 0 rfl) ?_
      refine gX7_1 hx hb hC hI q_fl_X7_121 dX7_mixGraph_8 ?_
      refine lv_icmp_ge (tgt := 71) hx hb dX7_mixGraph_11 (by decide) (fun hc => ?_) (fun hc => ?_)
      · have h := zi_t hc h
        cases h
        exact kE _ _ _ hI (lv_sub hl [0, 1] rfl)
      · have h := zi_f hc h
        refine lv_iconst (v := 0) hx hb dX7_mixGraph_14 lc_0 ?_
        refine lv_istore_n (lv' := [(2, .int 0), (0, .ref (za G 0)), (1, .int y1)]) hx hb dX7_mixGraph_15 rfl hl (by decide) rfl (fun ls hl => ?_)
        obtain ⟨v8, σ9, h10, h⟩ := zb2_e h
        refine w_16 100 y1 0 σ v8 σ9 h10 _ _ _ hI (lv_sub hl [1, 2, 0] rfl) (fun H locs ls hI hl => ?_)
        refine lv_aload_n hx hb dX7_mixGraph_39 rfl (lv_at hl 0 rfl) ?_
        refine lv_aload_n hx hb dX7_mixGraph_40 rfl (lv_at hl 0 rfl) ?_
        refine lv_iconst (v := 2) hx hb dX7_mixGraph_41 lc_2 ?_
        refine lv_iload_n hx hb dX7_mixGraph_42 rfl (lv_at hl 1 rfl) ?_
        refine lv_imul hx hb dX7_mixGraph_43 ?_
        obtain ⟨r12, h11, h⟩ := zb_e h
        refine z_cVi (As := [.int ((2 : Int32) * y1)]) (rest := [.ref (za G 0)]) hx hb hC (hml.trans hl.1.symm) hI (c_X7_edgeNow l G  h11) yyX7_edgeNow q_ml_X7_217 (oX7 G) rfl ⟨Nat.le_of_ble_eq_true rfl, Nat.le_of_ble_eq_true rfl⟩ rfl rfl (Nat.le_of_ble_eq_true rfl) ⟨Nat.le_refl _, Nat.le_refl _⟩ dX7_mixGraph_44 (fun H locs hI => ?_)
        refine lv_i2l hx hb dX7_mixGraph_47 rfl ?_
        obtain ⟨σ14, h13, h⟩ := zb_e h
        refine z_cVv (As := [.long ((r12 : Int32).toInt64)]) (rest := []) hx hb hC (hml.trans hl.1.symm) hI (c_X7_mix l G  h13) yyX7_mix q_ml_X7_334 (oX7 G) rfl ⟨Nat.le_of_ble_eq_true rfl, Nat.le_of_ble_eq_true rfl⟩ rfl rfl (Nat.le_of_ble_eq_true rfl) ⟨Nat.le_refl _, Nat.le_refl _⟩ dX7_mixGraph_48 (fun H locs hI => ?_)
        refine lv_aload_n hx hb dX7_mixGraph_51 rfl (lv_at hl 0 rfl) ?_
        refine lv_aload_n hx hb dX7_mixGraph_52 rfl (lv_at hl 0 rfl) ?_
        refine lv_iconst (v := 2) hx hb dX7_mixGraph_53 lc_2 ?_
        refine lv_iload_n hx hb dX7_mixGraph_54 rfl (lv_at hl 1 rfl) ?_
        refine lv_imul hx hb dX7_mixGraph_55 ?_
        refine lv_iconst (v := 1) hx hb dX7_mixGraph_56 lc_1 ?_
        refine lv_iadd hx hb dX7_mixGraph_57 ?_
        obtain ⟨r16, h15, h⟩ := zb_e h
        refine z_cVi (As := [.int (((2 : Int32) * y1) + 1)]) (rest := [.ref (za G 0)]) hx hb hC (hml.trans hl.1.symm) hI (c_X7_edgeNow l G  h15) yyX7_edgeNow q_ml_X7_217 (oX7 G) rfl ⟨Nat.le_of_ble_eq_true rfl, Nat.le_of_ble_eq_true rfl⟩ rfl rfl (Nat.le_of_ble_eq_true rfl) ⟨Nat.le_refl _, Nat.le_refl _⟩ dX7_mixGraph_58 (fun H locs hI => ?_)
        refine lv_i2l hx hb dX7_mixGraph_61 rfl ?_
        obtain ⟨σ18, h17, h⟩ := zb_e h
        refine z_cVv (As := [.long ((r16 : Int32).toInt64)]) (rest := []) hx hb hC (hml.trans hl.1.symm) hI (c_X7_mix l G  h17) yyX7_mix q_ml_X7_334 (oX7 G) rfl ⟨Nat.le_of_ble_eq_true rfl, Nat.le_of_ble_eq_true rfl⟩ rfl rfl (Nat.le_of_ble_eq_true rfl) ⟨Nat.le_refl _, Nat.le_refl _⟩ dX7_mixGraph_62 (fun H locs hI => ?_)
        obtain ⟨v19, e_v19⟩ : ∃ y : Int32, y = y1 + 1 := ⟨_, rfl⟩
        have h := zl_e h e_v19
        refine lv_iinc (v := v19) (lv' := [(1, .int v19), (0, .ref (za G 0)), (2, .int v8)]) hx hb dX7_mixGraph_65 hl (k := 1) rfl (by rw [lc_1]; exact e_v19.symm) (by decide) rfl (fun ls hl => ?_)
        refine lv_goto (tgt := 6) hx hb dX7_mixGraph_68 (by decide) ?_
        exact ih v19 σ18 y1o σo h _ _ _ hI (lv_sub hl [1, 0] rfl) kE
  have w_77 : ∀ (n : Nat) (y1 : Int32) (σ : SF) (y1o : Int32) (σo : SF), L_X7_mixGraph_77 n y1 σ = some (y1o, σo) → ∀ (H : Heap) (locs : List Loc) (ls : Array Slot), zI WM G s σ H locs → lv_has ls 3 [(0, .ref (za G 0)), (1, .int y1)] → (∀ (H : Heap) (locs : List Loc) (ls : Array Slot), zI WM G s σo H locs → lv_has ls 3 [(0, .ref (za G 0)), (1, .int y1o)] → W p l e (zR 8) s m args below meth c H locs 0 0 Q (F0 m 98 ls [])) → W p l e (zR 8) s m args below meth c H locs 0 0 Q (F0 m 77 ls []) := by
    intro n
    induction n with
    | zero => intro y1 σ y1o σo h; cases h
    | succ n ih =>
      intro y1 σ y1o σo h H locs ls hI hl kE
      unfold L_X7_mixGraph_77 at h
      refine lv_iload_n hx hb dX7_mixGraph_77 rfl (lv_at hl 1 rfl) ?_
      refine lv_iconst (v := 4) hx hb dX7_mixGraph_78 lc_4 ?_
      refine lv_icmp_ge (tgt := 98) hx hb dX7_mixGraph_79 (by decide) (fun hc => ?_) (fun hc => ?_)
      · have h := zi_t hc h
        cases h
        exact kE _ _ _ hI (lv_sub hl [0, 1] rfl)
      · have h := zi_f hc h
        refine lv_aload_n hx hb dX7_mixGraph_82 rfl (lv_at hl 0 rfl) ?_
        refine lv_aload_n hx hb dX7_mixGraph_83 rfl (lv_at hl 0 rfl) ?_
        refine lv_iload_n hx hb dX7_mixGraph_84 rfl (lv_at hl 1 rfl) ?_
        obtain ⟨r26, h25, h⟩ := zb_e h
        refine z_cVi (As := [.int y1]) (rest := [.ref (za G 0)]) hx hb hC (hml.trans hl.1.symm) hI (c_X7_foldNow l G  h25) yyX7_foldNow q_ml_X7_280 (oX7 G) rfl ⟨Nat.le_of_ble_eq_true rfl, Nat.le_of_ble_eq_true rfl⟩ rfl rfl (Nat.le_of_ble_eq_true rfl) ⟨Nat.le_refl _, Nat.le_refl _⟩ dX7_mixGraph_85 (fun H locs hI => ?_)
        refine lv_i2l hx hb dX7_mixGraph_88 rfl ?_
        obtain ⟨σ28, h27, h⟩ := zb_e h
        refine z_cVv (As := [.long ((r26 : Int32).toInt64)]) (rest := []) hx hb hC (hml.trans hl.1.symm) hI (c_X7_mix l G  h27) yyX7_mix q_ml_X7_334 (oX7 G) rfl ⟨Nat.le_of_ble_eq_true rfl, Nat.le_of_ble_eq_true rfl⟩ rfl rfl (Nat.le_of_ble_eq_true rfl) ⟨Nat.le_refl _, Nat.le_refl _⟩ dX7_mixGraph_89 (fun H locs hI => ?_)
        obtain ⟨v29, e_v29⟩ : ∃ y : Int32, y = y1 + 1 := ⟨_, rfl⟩
        have h := zl_e h e_v29
        refine lv_iinc (v := v29) (lv' := [(1, .int v29), (0, .ref (za G 0))]) hx hb dX7_mixGraph_92 hl (k := 1) rfl (by rw [lc_1]; exact e_v29.symm) (by decide) rfl (fun ls hl => ?_)
        refine lv_goto (tgt := 77) hx hb dX7_mixGraph_95 (by decide) ?_
        exact ih v29 σ28 y1o σo h _ _ _ hI (lv_sub hl [1, 0] rfl) kE
  have w_100 : ∀ (n : Nat) (y1 : Int32) (σ : SF) (y1o : Int32) (σo : SF), L_X7_mixGraph_100 n y1 σ = some (y1o, σo) → ∀ (H : Heap) (locs : List Loc) (ls : Array Slot), zI WM G s σ H locs → lv_has ls 3 [(0, .ref (za G 0)), (1, .int y1)] → (∀ (H : Heap) (locs : List Loc) (ls : Array Slot), zI WM G s σo H locs → lv_has ls 3 [(0, .ref (za G 0)), (1, .int y1o)] → W p l e (zR 8) s m args below meth c H locs 0 0 Q (F0 m 125 ls [])) → W p l e (zR 8) s m args below meth c H locs 0 0 Q (F0 m 100 ls []) := by
    intro n
    induction n with
    | zero => intro y1 σ y1o σo h; cases h
    | succ n ih =>
      intro y1 σ y1o σo h H locs ls hI hl kE
      unfold L_X7_mixGraph_100 at h
      refine lv_iload_n hx hb dX7_mixGraph_100 rfl (lv_at hl 1 rfl) ?_
      refine lv_aload_n hx hb dX7_mixGraph_101 rfl (lv_at hl 0 rfl) ?_
      refine gX7_36 hx hb hC hI q_fl_X7_227 dX7_mixGraph_102 ?_
      refine lv_icmp_ge (tgt := 125) hx hb dX7_mixGraph_105 (by decide) (fun hc => ?_) (fun hc => ?_)
      · have h := zi_t hc h
        cases h
        exact kE _ _ _ hI (lv_sub hl [0, 1] rfl)
      · have h := zi_f hc h
        refine lv_aload_n hx hb dX7_mixGraph_108 rfl (lv_at hl 0 rfl) ?_
        refine lv_aload_n hx hb dX7_mixGraph_109 rfl (lv_at hl 0 rfl) ?_
        refine gX7_40 hx hb hC hI q_fl_X7_65 dX7_mixGraph_110 ?_
        refine lv_iload_n hx hb dX7_mixGraph_113 rfl (lv_at hl 1 rfl) ?_
        obtain ⟨hg, h⟩ := zg_e h
        refine z_iald hx hb hC hI (vX7_40 G) hg dX7_mixGraph_114 ?_
        refine lv_i2l hx hb dX7_mixGraph_115 rfl ?_
        obtain ⟨σ34, h33, h⟩ := zb_e h
        refine z_cVv (As := [.long ((σ 19 (y1 : Int32).toNatClampNeg : Int32).toInt64)]) (rest := []) hx hb hC (hml.trans hl.1.symm) hI (c_X7_mix l G  h33) yyX7_mix q_ml_X7_334 (oX7 G) rfl ⟨Nat.le_of_ble_eq_true rfl, Nat.le_of_ble_eq_true rfl⟩ rfl rfl (Nat.le_of_ble_eq_true rfl) ⟨Nat.le_refl _, Nat.le_refl _⟩ dX7_mixGraph_116 (fun H locs hI => ?_)
        obtain ⟨v35, e_v35⟩ : ∃ y : Int32, y = y1 + 1 := ⟨_, rfl⟩
        have h := zl_e h e_v35
        refine lv_iinc (v := v35) (lv' := [(1, .int v35), (0, .ref (za G 0))]) hx hb dX7_mixGraph_119 hl (k := 1) rfl (by rw [lc_1]; exact e_v35.symm) (by decide) rfl (fun ls hl => ?_)
        refine lv_goto (tgt := 100) hx hb dX7_mixGraph_122 (by decide) ?_
        exact ih v35 σ34 y1o σo h _ _ _ hI (lv_sub hl [1, 0] rfl) kE
  unfold F_X7_mixGraph at h
  refine lv_aload_n hx hb dX7_mixGraph_0 rfl (lv_at hl 0 rfl) ?_
  obtain ⟨σ2, h1, h⟩ := zb_e h
  refine z_cVv (As := []) (rest := []) hx hb hC (hml.trans hl.1.symm) hI (c_X7_layNow l G  h1) yyX7_layNow q_ml_X7_210 (oX7 G) rfl ⟨Nat.le_of_ble_eq_true rfl, Nat.le_of_ble_eq_true rfl⟩ rfl rfl (Nat.le_of_ble_eq_true rfl) ⟨Nat.le_refl _, Nat.le_refl _⟩ dX7_mixGraph_1 (fun H locs hI => ?_)
  refine lv_iconst (v := 0) hx hb dX7_mixGraph_4 lc_0 ?_
  refine lv_istore_n (lv' := [(1, .int 0), (0, .ref (za G 0))]) hx hb dX7_mixGraph_5 rfl hl (by decide) rfl (fun ls hl => ?_)
  obtain ⟨v20, σ21, h22, h⟩ := zb2_e h
  refine w_6 100 0 σ2 v20 σ21 h22 _ _ _ hI (lv_sub hl [1, 0] rfl) (fun H locs ls hI hl => ?_)
  refine lv_aload_n hx hb dX7_mixGraph_71 rfl (lv_at hl 0 rfl) ?_
  obtain ⟨σ24, h23, h⟩ := zb_e h
  refine z_cVv (As := []) (rest := []) hx hb hC (hml.trans hl.1.symm) hI (c_X7_layFold l G  h23) yyX7_layFold q_ml_X7_277 (oX7 G) rfl ⟨Nat.le_of_ble_eq_true rfl, Nat.le_of_ble_eq_true rfl⟩ rfl rfl (Nat.le_of_ble_eq_true rfl) ⟨Nat.le_refl _, Nat.le_refl _⟩ dX7_mixGraph_72 (fun H locs hI => ?_)
  refine lv_iconst (v := 0) hx hb dX7_mixGraph_75 lc_0 ?_
  refine lv_istore_n (lv' := [(1, .int 0), (0, .ref (za G 0))]) hx hb dX7_mixGraph_76 rfl hl (by decide) rfl (fun ls hl => ?_)
  obtain ⟨v30, σ31, h32, h⟩ := zb2_e h
  refine w_77 100 0 σ24 v30 σ31 h32 _ _ _ hI (lv_sub hl [1, 0] rfl) (fun H locs ls hI hl => ?_)
  refine lv_iconst (v := 0) hx hb dX7_mixGraph_98 lc_0 ?_
  refine lv_istore_n (lv' := [(1, .int 0), (0, .ref (za G 0))]) hx hb dX7_mixGraph_99 rfl hl (by decide) rfl (fun ls hl => ?_)
  obtain ⟨v36, σ37, h38, h⟩ := zb2_e h
  refine w_100 100 0 σ31 v36 σ37 h38 _ _ _ hI (lv_sub hl [1, 0] rfl) (fun H locs ls hI hl => ?_)
  exact hret (Option.some.inj h) hI dX7_mixGraph_125
set_option maxRecDepth 100000 in
set_option maxHeartbeats 4000000 in
theorem c_X7_digest (l : Launch) (G : zG)  {σ σ' : SF} {r : Int64} (h : F_X7_digest σ   = some (r, σ')) : zMl l WM G yX7_digest cX7_digest 2 9 [.ref (za G 0)] σ r σ' := by
  refine zMl_of (by decide) (Nat.le_of_ble_eq_true rfl) (fun p e s m args below meth c ls Q hx hb hr hlk hml hC hI hl hret => ?_)
  have hl : lv_has ls 2 [(0, .ref (za G 0))] := hl
  have hC : zC WM G RX7 args s m := hC
  have w_20 : ∀ (n : Nat) (y1 : Int32) (σ : SF) (y1o : Int32) (σo : SF), L_X7_digest_20 n y1 σ = some (y1o, σo) → ∀ (H : Heap) (locs : List Loc) (ls : Array Slot), zI WM G s σ H locs → lv_has ls 2 [(0, .ref (za G 0)), (1, .int y1)] → (∀ (H : Heap) (locs : List Loc) (ls : Array Slot), zI WM G s σo H locs → lv_has ls 2 [(0, .ref (za G 0)), (1, .int y1o)] → W p l e (zR 9) s m args below meth c H locs 0 0 Q (F0 m 45 ls [])) → W p l e (zR 9) s m args below meth c H locs 0 0 Q (F0 m 20 ls []) := by
    intro n
    induction n with
    | zero => intro y1 σ y1o σo h; cases h
    | succ n ih =>
      intro y1 σ y1o σo h H locs ls hI hl kE
      unfold L_X7_digest_20 at h
      refine lv_iload_n hx hb dX7_digest_20 rfl (lv_at hl 1 rfl) ?_
      refine lv_aload_n hx hb dX7_digest_21 rfl (lv_at hl 0 rfl) ?_
      refine gX7_4 hx hb hC hI q_fl_X7_124 dX7_digest_22 ?_
      refine lv_icmp_ge (tgt := 45) hx hb dX7_digest_25 (by decide) (fun hc => ?_) (fun hc => ?_)
      · have h := zi_t hc h
        cases h
        exact kE _ _ _ hI (lv_sub hl [0, 1] rfl)
      · have h := zi_f hc h
        refine lv_aload_n hx hb dX7_digest_28 rfl (lv_at hl 0 rfl) ?_
        refine lv_aload_n hx hb dX7_digest_29 rfl (lv_at hl 0 rfl) ?_
        refine gX7_5 hx hb hC hI q_fl_X7_16 dX7_digest_30 ?_
        refine lv_iload_n hx hb dX7_digest_33 rfl (lv_at hl 1 rfl) ?_
        obtain ⟨hg, h⟩ := zg_e h
        refine z_iald hx hb hC hI (vX7_5 G) hg dX7_digest_34 ?_
        refine lv_i2l hx hb dX7_digest_35 rfl ?_
        obtain ⟨σ3, h2, h⟩ := zb_e h
        refine z_cVv (As := [.long ((σ 3 (y1 : Int32).toNatClampNeg : Int32).toInt64)]) (rest := []) hx hb hC (hml.trans hl.1.symm) hI (c_X7_mix l G  h2) yyX7_mix q_ml_X7_334 (oX7 G) rfl ⟨Nat.le_of_ble_eq_true rfl, Nat.le_of_ble_eq_true rfl⟩ rfl rfl (Nat.le_of_ble_eq_true rfl) ⟨Nat.le_refl _, Nat.le_refl _⟩ dX7_digest_36 (fun H locs hI => ?_)
        obtain ⟨v4, e_v4⟩ : ∃ y : Int32, y = y1 + 1 := ⟨_, rfl⟩
        have h := zl_e h e_v4
        refine lv_iinc (v := v4) (lv' := [(1, .int v4), (0, .ref (za G 0))]) hx hb dX7_digest_39 hl (k := 1) rfl (by rw [lc_1]; exact e_v4.symm) (by decide) rfl (fun ls hl => ?_)
        refine lv_goto (tgt := 20) hx hb dX7_digest_42 (by decide) ?_
        exact ih v4 σ3 y1o σo h _ _ _ hI (lv_sub hl [1, 0] rfl) kE
  have w_47 : ∀ (n : Nat) (y1 : Int32) (σ : SF) (y1o : Int32) (σo : SF), L_X7_digest_47 n y1 σ = some (y1o, σo) → ∀ (H : Heap) (locs : List Loc) (ls : Array Slot), zI WM G s σ H locs → lv_has ls 2 [(0, .ref (za G 0)), (1, .int y1)] → (∀ (H : Heap) (locs : List Loc) (ls : Array Slot), zI WM G s σo H locs → lv_has ls 2 [(0, .ref (za G 0)), (1, .int y1o)] → W p l e (zR 9) s m args below meth c H locs 0 0 Q (F0 m 72 ls [])) → W p l e (zR 9) s m args below meth c H locs 0 0 Q (F0 m 47 ls []) := by
    intro n
    induction n with
    | zero => intro y1 σ y1o σo h; cases h
    | succ n ih =>
      intro y1 σ y1o σo h H locs ls hI hl kE
      unfold L_X7_digest_47 at h
      refine lv_iload_n hx hb dX7_digest_47 rfl (lv_at hl 1 rfl) ?_
      refine lv_aload_n hx hb dX7_digest_48 rfl (lv_at hl 0 rfl) ?_
      refine gX7_11 hx hb hC hI q_fl_X7_93 dX7_digest_49 ?_
      refine lv_icmp_ge (tgt := 72) hx hb dX7_digest_52 (by decide) (fun hc => ?_) (fun hc => ?_)
      · have h := zi_t hc h
        cases h
        exact kE _ _ _ hI (lv_sub hl [0, 1] rfl)
      · have h := zi_f hc h
        refine lv_aload_n hx hb dX7_digest_55 rfl (lv_at hl 0 rfl) ?_
        refine lv_aload_n hx hb dX7_digest_56 rfl (lv_at hl 0 rfl) ?_
        refine gX7_12 hx hb hC hI q_fl_X7_28 dX7_digest_57 ?_
        refine lv_iload_n hx hb dX7_digest_60 rfl (lv_at hl 1 rfl) ?_
        obtain ⟨hg, h⟩ := zg_e h
        refine z_bald hx hb hC hI (vX7_12 G) hg dX7_digest_61 ?_
        refine lv_i2l hx hb dX7_digest_62 rfl ?_
        obtain ⟨σ9, h8, h⟩ := zb_e h
        refine z_cVv (As := [.long ((σ 7 (y1 : Int32).toNatClampNeg : Int32).toInt64)]) (rest := []) hx hb hC (hml.trans hl.1.symm) hI (c_X7_mix l G  h8) yyX7_mix q_ml_X7_334 (oX7 G) rfl ⟨Nat.le_of_ble_eq_true rfl, Nat.le_of_ble_eq_true rfl⟩ rfl rfl (Nat.le_of_ble_eq_true rfl) ⟨Nat.le_refl _, Nat.le_refl _⟩ dX7_digest_63 (fun H locs hI => ?_)
        obtain ⟨v10, e_v10⟩ : ∃ y : Int32, y = y1 + 1 := ⟨_, rfl⟩
        have h := zl_e h e_v10
        refine lv_iinc (v := v10) (lv' := [(1, .int v10), (0, .ref (za G 0))]) hx hb dX7_digest_66 hl (k := 1) rfl (by rw [lc_1]; exact e_v10.symm) (by decide) rfl (fun ls hl => ?_)
        refine lv_goto (tgt := 47) hx hb dX7_digest_69 (by decide) ?_
        exact ih v10 σ9 y1o σo h _ _ _ hI (lv_sub hl [1, 0] rfl) kE
  have w_74 : ∀ (n : Nat) (y1 : Int32) (σ : SF) (y1o : Int32) (σo : SF), L_X7_digest_74 n y1 σ = some (y1o, σo) → ∀ (H : Heap) (locs : List Loc) (ls : Array Slot), zI WM G s σ H locs → lv_has ls 2 [(0, .ref (za G 0)), (1, .int y1)] → (∀ (H : Heap) (locs : List Loc) (ls : Array Slot), zI WM G s σo H locs → lv_has ls 2 [(0, .ref (za G 0)), (1, .int y1o)] → W p l e (zR 9) s m args below meth c H locs 0 0 Q (F0 m 96 ls [])) → W p l e (zR 9) s m args below meth c H locs 0 0 Q (F0 m 74 ls []) := by
    intro n
    induction n with
    | zero => intro y1 σ y1o σo h; cases h
    | succ n ih =>
      intro y1 σ y1o σo h H locs ls hI hl kE
      unfold L_X7_digest_74 at h
      refine lv_iload_n hx hb dX7_digest_74 rfl (lv_at hl 1 rfl) ?_
      refine lv_bipush (v := 12) hx hb dX7_digest_75 lb_12 ?_
      refine lv_icmp_ge (tgt := 96) hx hb dX7_digest_77 (by decide) (fun hc => ?_) (fun hc => ?_)
      · have h := zi_t hc h
        cases h
        exact kE _ _ _ hI (lv_sub hl [0, 1] rfl)
      · have h := zi_f hc h
        refine lv_aload_n hx hb dX7_digest_80 rfl (lv_at hl 0 rfl) ?_
        refine lv_aload_n hx hb dX7_digest_81 rfl (lv_at hl 0 rfl) ?_
        refine lv_iload_n hx hb dX7_digest_82 rfl (lv_at hl 1 rfl) ?_
        obtain ⟨r16, σ15, h14, h⟩ := zb2_e h
        refine z_cVi (As := [.int y1]) (rest := [.ref (za G 0)]) hx hb hC (hml.trans hl.1.symm) hI (c_X7_howMany l G  h14) yyX7_howMany q_ml_X7_326 (oX7 G) rfl ⟨Nat.le_of_ble_eq_true rfl, Nat.le_of_ble_eq_true rfl⟩ rfl rfl (Nat.le_of_ble_eq_true rfl) ⟨Nat.le_refl _, Nat.le_refl _⟩ dX7_digest_83 (fun H locs hI => ?_)
        refine lv_i2l hx hb dX7_digest_86 rfl ?_
        obtain ⟨σ18, h17, h⟩ := zb_e h
        refine z_cVv (As := [.long ((r16 : Int32).toInt64)]) (rest := []) hx hb hC (hml.trans hl.1.symm) hI (c_X7_mix l G  h17) yyX7_mix q_ml_X7_334 (oX7 G) rfl ⟨Nat.le_of_ble_eq_true rfl, Nat.le_of_ble_eq_true rfl⟩ rfl rfl (Nat.le_of_ble_eq_true rfl) ⟨Nat.le_refl _, Nat.le_refl _⟩ dX7_digest_87 (fun H locs hI => ?_)
        obtain ⟨v19, e_v19⟩ : ∃ y : Int32, y = y1 + 1 := ⟨_, rfl⟩
        have h := zl_e h e_v19
        refine lv_iinc (v := v19) (lv' := [(1, .int v19), (0, .ref (za G 0))]) hx hb dX7_digest_90 hl (k := 1) rfl (by rw [lc_1]; exact e_v19.symm) (by decide) rfl (fun ls hl => ?_)
        refine lv_goto (tgt := 74) hx hb dX7_digest_93 (by decide) ?_
        exact ih v19 σ18 y1o σo h _ _ _ hI (lv_sub hl [1, 0] rfl) kE
  unfold F_X7_digest at h
  refine lv_aload_n hx hb dX7_digest_0 rfl (lv_at hl 0 rfl) ?_
  refine lv_ldc2 hx hb hC.1 (hC.ts q_ct_X7_338) dX7_digest_1 ?_
  refine pX7_54 hx hb hC hI q_fl_X7_331 dX7_digest_4 (fun σ1 H locs e_σ1 hI => ?_)
  have h := zl_e h e_σ1
  refine lv_aload_n hx hb dX7_digest_7 rfl (lv_at hl 0 rfl) ?_
  refine gX7_1 hx hb hC hI q_fl_X7_121 dX7_digest_8 ?_
  refine lv_if_le (tgt := 18) hx hb dX7_digest_11 (by decide) (fun hc => ?_) (fun hc => ?_)
  · have h := zi_t hc h
    refine lv_iconst (v := 0) hx hb dX7_digest_18 lc_0 ?_
    refine lv_istore_n (lv' := [(1, .int 0), (0, .ref (za G 0))]) hx hb dX7_digest_19 rfl hl (by decide) rfl (fun ls hl => ?_)
    obtain ⟨v5, σ6, h7, h⟩ := zb2_e h
    refine w_20 100 0 σ1 v5 σ6 h7 _ _ _ hI (lv_sub hl [1, 0] rfl) (fun H locs ls hI hl => ?_)
    refine lv_iconst (v := 0) hx hb dX7_digest_45 lc_0 ?_
    refine lv_istore_n (lv' := [(1, .int 0), (0, .ref (za G 0))]) hx hb dX7_digest_46 rfl hl (by decide) rfl (fun ls hl => ?_)
    obtain ⟨v11, σ12, h13, h⟩ := zb2_e h
    refine w_47 100 0 σ6 v11 σ12 h13 _ _ _ hI (lv_sub hl [1, 0] rfl) (fun H locs ls hI hl => ?_)
    refine lv_iconst (v := 0) hx hb dX7_digest_72 lc_0 ?_
    refine lv_istore_n (lv' := [(1, .int 0), (0, .ref (za G 0))]) hx hb dX7_digest_73 rfl hl (by decide) rfl (fun ls hl => ?_)
    obtain ⟨v20, σ21, h22, h⟩ := zb2_e h
    refine w_74 100 0 σ12 v20 σ21 h22 _ _ _ hI (lv_sub hl [1, 0] rfl) (fun H locs ls hI hl => ?_)
    refine lv_aload_n hx hb dX7_digest_96 rfl (lv_at hl 0 rfl) ?_
    refine gX7_54 hx hb hC hI q_fl_X7_331 dX7_digest_97 ?_
    exact hret ⟨congrArg Prod.fst (Option.some.inj h), congrArg Prod.snd (Option.some.inj h)⟩ hI dX7_digest_100
  · have h := zi_f hc h
    refine lv_aload_n hx hb dX7_digest_14 rfl (lv_at hl 0 rfl) ?_
    obtain ⟨σ24, h23, h⟩ := zb_e h
    refine z_cVv (As := []) (rest := []) hx hb hC (hml.trans hl.1.symm) hI (c_X7_mixGraph l G  h23) yyX7_mixGraph q_ml_X7_340 (oX7 G) rfl ⟨Nat.le_of_ble_eq_true rfl, Nat.le_of_ble_eq_true rfl⟩ rfl rfl (Nat.le_of_ble_eq_true rfl) ⟨Nat.le_refl _, Nat.le_refl _⟩ dX7_digest_15 (fun H locs hI => ?_)
    refine lv_iconst (v := 0) hx hb dX7_digest_18 lc_0 ?_
    refine lv_istore_n (lv' := [(1, .int 0), (0, .ref (za G 0))]) hx hb dX7_digest_19 rfl hl (by decide) rfl (fun ls hl => ?_)
    obtain ⟨v25, σ26, h27, h⟩ := zb2_e h
    refine w_20 100 0 σ24 v25 σ26 h27 _ _ _ hI (lv_sub hl [1, 0] rfl) (fun H locs ls hI hl => ?_)
    refine lv_iconst (v := 0) hx hb dX7_digest_45 lc_0 ?_
    refine lv_istore_n (lv' := [(1, .int 0), (0, .ref (za G 0))]) hx hb dX7_digest_46 rfl hl (by decide) rfl (fun ls hl => ?_)
    obtain ⟨v28, σ29, h30, h⟩ := zb2_e h
    refine w_47 100 0 σ26 v28 σ29 h30 _ _ _ hI (lv_sub hl [1, 0] rfl) (fun H locs ls hI hl => ?_)
    refine lv_iconst (v := 0) hx hb dX7_digest_72 lc_0 ?_
    refine lv_istore_n (lv' := [(1, .int 0), (0, .ref (za G 0))]) hx hb dX7_digest_73 rfl hl (by decide) rfl (fun ls hl => ?_)
    obtain ⟨v31, σ32, h33, h⟩ := zb2_e h
    refine w_74 100 0 σ29 v31 σ32 h33 _ _ _ hI (lv_sub hl [1, 0] rfl) (fun H locs ls hI hl => ?_)
    refine lv_aload_n hx hb dX7_digest_96 rfl (lv_at hl 0 rfl) ?_
    refine gX7_54 hx hb hC hI q_fl_X7_331 dX7_digest_97 ?_
    exact hret ⟨congrArg Prod.fst (Option.some.inj h), congrArg Prod.snd (Option.some.inj h)⟩ hI dX7_digest_100
