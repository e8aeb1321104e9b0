set_option maxRecDepth 100000 in
set_option maxHeartbeats 4000000 in
theorem c_X2_add (l : Launch) (G : zG)  {σ σ' : SF} {r : Int32} {x1 : Int32} (h : F_X2_add σ  x1 = some (r, σ')) : zMi l WF G yX2_add cX2_add 2 .boolean 1 [.ref (za G 1), .int x1] σ r σ' := by
  refine zMi_of (by decide) (Nat.le_of_ble_eq_true rfl) (fun p e s m args below meth c ls Q hx hb hr hlk hml hC hI hl hret => ?_)
  have hl : lv_has ls 2 [(0, .ref (za G 1)), (1, .int x1)] := hl
  have hC : zC WF G RX2 args s m := hC
  unfold F_X2_add at h
  refine lv_aload_n hx hb dX2_add_0 rfl (lv_at hl 0 rfl) ?_
  refine gX2_1 hx hb hC hI q_fl_X2_15 dX2_add_1 ?_
  refine lv_aload_n hx hb dX2_add_4 rfl (lv_at hl 0 rfl) ?_
  refine gX2_0 hx hb hC hI q_fl_X2_9 dX2_add_5 ?_
  refine z_alen hx hb hC hI (vX2_0 G) (v := 34) rfl dX2_add_8 ?_
  refine lv_icmp_lt (tgt := 14) hx hb dX2_add_9 (by decide) (fun hc => ?_) (fun hc => ?_)
  · have h := zi_t hc h
    refine lv_aload_n hx hb dX2_add_14 rfl (lv_at hl 0 rfl) ?_
    refine gX2_0 hx hb hC hI q_fl_X2_9 dX2_add_15 ?_
    refine lv_aload_n hx hb dX2_add_18 rfl (lv_at hl 0 rfl) ?_
    refine gX2_1 hx hb hC hI q_fl_X2_15 dX2_add_19 ?_
    refine lv_iload_n hx hb dX2_add_22 rfl (lv_at hl 1 rfl) ?_
    obtain ⟨hg, h⟩ := zg_e h
    refine z_iast hx hb hC hI (vX2_0 G) hg dX2_add_23 (fun σ1 H locs e_σ1 hI => ?_)
    have h := zl_e h e_σ1
    refine lv_aload_n hx hb dX2_add_24 rfl (lv_at hl 0 rfl) ?_
    refine lv_dup hx hb dX2_add_25 rfl ?_
    refine gX2_1 hx hb hC hI q_fl_X2_15 dX2_add_26 ?_
    refine lv_iconst (v := 1) hx hb dX2_add_29 lc_1 ?_
    refine lv_iadd hx hb dX2_add_30 ?_
    refine pX2_1 hx hb hC hI q_fl_X2_15 dX2_add_31 (fun σ2 H locs e_σ2 hI => ?_)
    have h := zl_e h e_σ2
    refine lv_iconst (v := 1) hx hb dX2_add_34 lc_1 ?_
    exact hret ⟨congrArg Prod.fst (Option.some.inj h), congrArg Prod.snd (Option.some.inj h)⟩ hI rfl dX2_add_35
  · have h := zi_f hc h
    refine lv_iconst (v := 0) hx hb dX2_add_12 lc_0 ?_
    exact hret ⟨congrArg Prod.fst (Option.some.inj h), congrArg Prod.snd (Option.some.inj h)⟩ hI rfl dX2_add_13
set_option maxRecDepth 100000 in
set_option maxHeartbeats 4000000 in
theorem c_X6_isKind (l : Launch) (G : zG)  {σ : SF} {r : Int32} {x0 : Int32} (h : F_X6_isKind   x0 = some r) : zMi l WF G yX6_isKind cX6_isKind 1 .boolean 1 [.int x0] σ r σ := by
  refine zMi_of (by decide) (Nat.le_of_ble_eq_true rfl) (fun p e s m args below meth c ls Q hx hb hr hlk hml hC hI hl hret => ?_)
  have hl : lv_has ls 1 [(0, .int x0)] := hl
  have hC : zC WF G RX6 args s m := hC
  unfold F_X6_isKind at h
  refine lv_iload_n hx hb dX6_isKind_0 rfl (lv_at hl 0 rfl) ?_
  refine lv_if_lt (tgt := 13) hx hb dX6_isKind_1 (by decide) (fun hc => ?_) (fun hc => ?_)
  · have h := zi_t hc h
    refine lv_iconst (v := 0) hx hb dX6_isKind_13 lc_0 ?_
    exact hret ⟨(Option.some.inj h), rfl⟩ hI rfl dX6_isKind_14
  · have h := zi_f hc h
    refine lv_iload_n hx hb dX6_isKind_4 rfl (lv_at hl 0 rfl) ?_
    refine lv_iconst (v := 5) hx hb dX6_isKind_5 lc_5 ?_
    refine lv_icmp_ge (tgt := 13) hx hb dX6_isKind_6 (by decide) (fun hc => ?_) (fun hc => ?_)
    · have h := zi_t hc h
      refine lv_iconst (v := 0) hx hb dX6_isKind_13 lc_0 ?_
      exact hret ⟨(Option.some.inj h), rfl⟩ hI rfl dX6_isKind_14
    · have h := zi_f hc h
      refine lv_iconst (v := 1) hx hb dX6_isKind_9 lc_1 ?_
      refine lv_goto (tgt := 14) hx hb dX6_isKind_10 (by decide) ?_
      exact hret ⟨(Option.some.inj h), rfl⟩ hI rfl dX6_isKind_14
set_option maxRecDepth 100000 in
set_option maxHeartbeats 4000000 in
theorem c_X3_add (l : Launch) (G : zG) {b : Nat} (hb1 : isS b) {σ σ' : SF} {r : Int32} {x1 : Int32} {x2 : Int32} {x3 : Int32} (h : F_X3_add σ b x1 x2 x3 = some (r, σ')) : zMi l WF G yX3_add cX3_add 4 .boolean 1 [.ref (za G b), .int x1, .int x2, .int x3] σ r σ' := by
  refine zMi_of (by decide) (Nat.le_of_ble_eq_true rfl) (fun p e s m args below meth c ls Q hx hb hr hlk hml hC hI hl hret => ?_)
  have hl : lv_has ls 4 [(0, .ref (za G b)), (1, .int x1), (2, .int x2), (3, .int x3)] := hl
  have hC : zC WF G RX3 args s m := hC
  unfold F_X3_add at h
  refine lv_aload_n hx hb dX3_add_0 rfl (lv_at hl 0 rfl) ?_
  refine gX3_0 hb1 hx hb hC hI q_fl_X3_21 dX3_add_1 ?_
  refine lv_bipush (v := 6) hx hb dX3_add_4 lb_6 ?_
  refine lv_icmp_lt (tgt := 11) hx hb dX3_add_6 (by decide) (fun hc => ?_) (fun hc => ?_)
  · have h := zi_t hc h
    refine lv_aload_n hx hb dX3_add_11 rfl (lv_at hl 0 rfl) ?_
    refine gX3_1 hb1 hx hb hC hI q_fl_X3_9 dX3_add_12 ?_
    refine lv_aload_n hx hb dX3_add_15 rfl (lv_at hl 0 rfl) ?_
    refine gX3_0 hb1 hx hb hC hI q_fl_X3_21 dX3_add_16 ?_
    refine lv_iload_n hx hb dX3_add_19 rfl (lv_at hl 1 rfl) ?_
    obtain ⟨hg, h⟩ := zg_e h
    refine z_iast hx hb hC hI (vX3_1 G hb1) hg dX3_add_20 (fun σ1 H locs e_σ1 hI => ?_)
    have h := zl_e h e_σ1
    refine lv_aload_n hx hb dX3_add_21 rfl (lv_at hl 0 rfl) ?_
    refine gX3_2 hb1 hx hb hC hI q_fl_X3_15 dX3_add_22 ?_
    refine lv_aload_n hx hb dX3_add_25 rfl (lv_at hl 0 rfl) ?_
    refine gX3_0 hb1 hx hb hC hI q_fl_X3_21 dX3_add_26 ?_
    refine lv_iload_n hx hb dX3_add_29 rfl (lv_at hl 2 rfl) ?_
    obtain ⟨hg, h⟩ := zg_e h
    refine z_iast hx hb hC hI (vX3_2 G hb1) hg dX3_add_30 (fun σ2 H locs e_σ2 hI => ?_)
    have h := zl_e h e_σ2
    refine lv_aload_n hx hb dX3_add_31 rfl (lv_at hl 0 rfl) ?_
    refine gX3_3 hb1 hx hb hC hI q_fl_X3_18 dX3_add_32 ?_
    refine lv_aload_n hx hb dX3_add_35 rfl (lv_at hl 0 rfl) ?_
    refine gX3_0 hb1 hx hb hC hI q_fl_X3_21 dX3_add_36 ?_
    refine lv_iload_n hx hb dX3_add_39 rfl (lv_at hl 3 rfl) ?_
    obtain ⟨hg, h⟩ := zg_e h
    refine z_iast hx hb hC hI (vX3_3 G hb1) hg dX3_add_40 (fun σ3 H locs e_σ3 hI => ?_)
    have h := zl_e h e_σ3
    refine lv_aload_n hx hb dX3_add_41 rfl (lv_at hl 0 rfl) ?_
    refine lv_dup hx hb dX3_add_42 rfl ?_
    refine gX3_0 hb1 hx hb hC hI q_fl_X3_21 dX3_add_43 ?_
    refine lv_iconst (v := 1) hx hb dX3_add_46 lc_1 ?_
    refine lv_iadd hx hb dX3_add_47 ?_
    refine pX3_0 hb1 hx hb hC hI q_fl_X3_21 dX3_add_48 (fun σ4 H locs e_σ4 hI => ?_)
    have h := zl_e h e_σ4
    refine lv_iconst (v := 1) hx hb dX3_add_51 lc_1 ?_
    exact hret ⟨congrArg Prod.fst (Option.some.inj h), congrArg Prod.snd (Option.some.inj h)⟩ hI rfl dX3_add_52
  · have h := zi_f hc h
    refine lv_iconst (v := 0) hx hb dX3_add_9 lc_0 ?_
    exact hret ⟨congrArg Prod.fst (Option.some.inj h), congrArg Prod.snd (Option.some.inj h)⟩ hI rfl dX3_add_10
set_option maxRecDepth 100000 in
set_option maxHeartbeats 4000000 in
theorem c_X3_copyFrom (l : Launch) (G : zG) {b : Nat} (hb1 : isS b) {b2 : Nat} (hb2 : isS b2) {σ σ' : SF} (h : F_X3_copyFrom σ b b2  = some σ') : zMv l WF G yX3_copyFrom cX3_copyFrom 2 1 [.ref (za G b), .ref (za G b2)] σ σ' := by
  refine zMv_of (by decide) (Nat.le_of_ble_eq_true rfl) (fun p e s m args below meth c ls Q hx hb hr hlk hml hC hI hl hret => ?_)
  have hl : lv_has ls 2 [(0, .ref (za G b)), (1, .ref (za G b2))] := hl
  have hC : zC WF G RX3 args s m := hC
  unfold F_X3_copyFrom at h
  refine lv_aload_n hx hb dX3_copyFrom_0 rfl (lv_at hl 0 rfl) ?_
  refine lv_aload_n hx hb dX3_copyFrom_1 rfl (lv_at hl 1 rfl) ?_
  refine gX3_0 hb2 hx hb hC hI q_fl_X3_21 dX3_copyFrom_2 ?_
  refine pX3_0 hb1 hx hb hC hI q_fl_X3_21 dX3_copyFrom_5 (fun σ1 H locs e_σ1 hI => ?_)
  have h := zl_e h e_σ1
  refine lv_aload_n hx hb dX3_copyFrom_8 rfl (lv_at hl 1 rfl) ?_
  refine gX3_1 hb2 hx hb hC hI q_fl_X3_9 dX3_copyFrom_9 ?_
  refine lv_iconst (v := 0) hx hb dX3_copyFrom_12 lc_0 ?_
  refine lv_aload_n hx hb dX3_copyFrom_13 rfl (lv_at hl 0 rfl) ?_
  refine gX3_1 hb1 hx hb hC hI q_fl_X3_9 dX3_copyFrom_14 ?_
  refine lv_iconst (v := 0) hx hb dX3_copyFrom_17 lc_0 ?_
  refine lv_bipush (v := 6) hx hb dX3_copyFrom_18 lb_6 ?_
  refine z_copy hx hb hC (hml.trans hl.1.symm) hI q_ml_X3_25 (vX3_1 G hb2) (vX3_1 G hb1) (by decide) (by decide) (Nat.le_of_ble_eq_true rfl) (Nat.le_of_ble_eq_true rfl) dX3_copyFrom_20 (fun σ2 H locs e_σ2 hI => ?_)
  have h := zl_e h e_σ2
  refine lv_aload_n hx hb dX3_copyFrom_23 rfl (lv_at hl 1 rfl) ?_
  refine gX3_2 hb2 hx hb hC hI q_fl_X3_15 dX3_copyFrom_24 ?_
  refine lv_iconst (v := 0) hx hb dX3_copyFrom_27 lc_0 ?_
  refine lv_aload_n hx hb dX3_copyFrom_28 rfl (lv_at hl 0 rfl) ?_
  refine gX3_2 hb1 hx hb hC hI q_fl_X3_15 dX3_copyFrom_29 ?_
  refine lv_iconst (v := 0) hx hb dX3_copyFrom_32 lc_0 ?_
  refine lv_bipush (v := 6) hx hb dX3_copyFrom_33 lb_6 ?_
  refine z_copy hx hb hC (hml.trans hl.1.symm) hI q_ml_X3_25 (vX3_2 G hb2) (vX3_2 G hb1) (by decide) (by decide) (Nat.le_of_ble_eq_true rfl) (Nat.le_of_ble_eq_true rfl) dX3_copyFrom_35 (fun σ3 H locs e_σ3 hI => ?_)
  have h := zl_e h e_σ3
  refine lv_aload_n hx hb dX3_copyFrom_38 rfl (lv_at hl 1 rfl) ?_
  refine gX3_3 hb2 hx hb hC hI q_fl_X3_18 dX3_copyFrom_39 ?_
  refine lv_iconst (v := 0) hx hb dX3_copyFrom_42 lc_0 ?_
  refine lv_aload_n hx hb dX3_copyFrom_43 rfl (lv_at hl 0 rfl) ?_
  refine gX3_3 hb1 hx hb hC hI q_fl_X3_18 dX3_copyFrom_44 ?_
  refine lv_iconst (v := 0) hx hb dX3_copyFrom_47 lc_0 ?_
  refine lv_bipush (v := 6) hx hb dX3_copyFrom_48 lb_6 ?_
  refine z_copy hx hb hC (hml.trans hl.1.symm) hI q_ml_X3_25 (vX3_3 G hb2) (vX3_3 G hb1) (by decide) (by decide) (Nat.le_of_ble_eq_true rfl) (Nat.le_of_ble_eq_true rfl) dX3_copyFrom_50 (fun σ4 H locs e_σ4 hI => ?_)
  have h := zl_e h e_σ4
  exact hret (Option.some.inj h) hI dX3_copyFrom_53
set_option maxRecDepth 100000 in
set_option maxHeartbeats 4000000 in
theorem c_X6_doesAt (l : Launch) (G : zG)  {σ : SF} {r : Int32} {x0 : Int32} {x1 : Int32} {x2 : Int32} (h : F_X6_doesAt   x0 x1 x2 = some r) : zMi l WF G yX6_doesAt cX6_doesAt 3 .int 1 [.int x0, .int x1, .int x2] σ r σ := by
  refine zMi_of (by decide) (Nat.le_of_ble_eq_true rfl) (fun p e s m args below meth c ls Q hx hb hr hlk hml hC hI hl hret => ?_)
  have hl : lv_has ls 3 [(0, .int x0), (1, .int x1), (2, .int x2)] := hl
  have hC : zC WF G RX6 args s m := hC
  unfold F_X6_doesAt at h
  refine lv_iload_n hx hb dX6_doesAt_0 rfl (lv_at hl 0 rfl) ?_
  by_cases n_1_1 : x0 = 1
  · have h := zi_t n_1_1 h
    refine lv_tableIn (tgt := 32) hx hb dX6_doesAt_1 (by rw [n_1_1]; decide) (by rw [n_1_1]; decide) (by rw [n_1_1]; rfl) (by decide) ?_
    refine lv_iload_n hx hb dX6_doesAt_32 rfl (lv_at hl 2 rfl) ?_
    exact hret ⟨(Option.some.inj h), rfl⟩ hI rfl dX6_doesAt_33
  have h := zi_f n_1_1 h
  by_cases n_1_2 : x0 = 2
  · have h := zi_t n_1_2 h
    refine lv_tableIn (tgt := 34) hx hb dX6_doesAt_1 (by rw [n_1_2]; decide) (by rw [n_1_2]; decide) (by rw [n_1_2]; rfl) (by decide) ?_
    refine lv_iconst (v := 2) hx hb dX6_doesAt_34 lc_2 ?_
    exact hret ⟨(Option.some.inj h), rfl⟩ hI rfl dX6_doesAt_35
  have h := zi_f n_1_2 h
  by_cases n_1_3 : x0 = 3
  · have h := zi_t n_1_3 h
    refine lv_tableIn (tgt := 36) hx hb dX6_doesAt_1 (by rw [n_1_3]; decide) (by rw [n_1_3]; decide) (by rw [n_1_3]; rfl) (by decide) ?_
    refine lv_iload_n hx hb dX6_doesAt_36 rfl (lv_at hl 1 rfl) ?_
    refine lv_iconst (v := 2) hx hb dX6_doesAt_37 lc_2 ?_
    refine lv_irem hx hb dX6_doesAt_38 (by decide) ?_
    refine lv_if_ne (tgt := 46) hx hb dX6_doesAt_39 (by decide) (fun hc => ?_) (fun hc => ?_)
    · have h := zi_f hc h
      refine lv_iconst (v := 0) hx hb dX6_doesAt_46 lc_0 ?_
      exact hret ⟨(Option.some.inj h), rfl⟩ hI rfl dX6_doesAt_47
    · have h := zi_t hc h
      refine lv_iconst (v := 1) hx hb dX6_doesAt_42 lc_1 ?_
      refine lv_goto (tgt := 47) hx hb dX6_doesAt_43 (by decide) ?_
      exact hret ⟨(Option.some.inj h), rfl⟩ hI rfl dX6_doesAt_47
  have h := zi_f n_1_3 h
  by_cases n_1_4 : x0 = 4
  · have h := zi_t n_1_4 h
    refine lv_tableIn (tgt := 48) hx hb dX6_doesAt_1 (by rw [n_1_4]; decide) (by rw [n_1_4]; decide) (by rw [n_1_4]; rfl) (by decide) ?_
    refine lv_iload_n hx hb dX6_doesAt_48 rfl (lv_at hl 1 rfl) ?_
    refine lv_iconst (v := 3) hx hb dX6_doesAt_49 lc_3 ?_
    refine lv_irem hx hb dX6_doesAt_50 (by decide) ?_
    refine lv_if_ne (tgt := 58) hx hb dX6_doesAt_51 (by decide) (fun hc => ?_) (fun hc => ?_)
    · have h := zi_f hc h
      refine lv_iconst (v := 0) hx hb dX6_doesAt_58 lc_0 ?_
      exact hret ⟨(Option.some.inj h), rfl⟩ hI rfl dX6_doesAt_59
    · have h := zi_t hc h
      refine lv_iconst (v := 1) hx hb dX6_doesAt_54 lc_1 ?_
      refine lv_goto (tgt := 59) hx hb dX6_doesAt_55 (by decide) ?_
      exact hret ⟨(Option.some.inj h), rfl⟩ hI rfl dX6_doesAt_59
  have h := zi_f n_1_4 h
  have t_1 : (x0 : Int32).toInt ≠ 1 ∧ (x0 : Int32).toInt ≠ 2 ∧ (x0 : Int32).toInt ≠ 3 ∧ (x0 : Int32).toInt ≠ 4 := by
    exact ⟨zne_toInt n_1_1, zne_toInt n_1_2, zne_toInt n_1_3, zne_toInt n_1_4⟩
  refine lv_tableOut (tgt := 60) hx hb dX6_doesAt_1 (by omega) (by decide) ?_
  refine lv_iconst (v := 0) hx hb dX6_doesAt_60 lc_0 ?_
  exact hret ⟨(Option.some.inj h), rfl⟩ hI rfl dX6_doesAt_61
set_option maxRecDepth 100000 in
set_option maxHeartbeats 4000000 in
theorem c_X3_sortsThatDo (l : Launch) (G : zG)  {σ : SF} {r : Int32} {x0 : Int32} {x1 : Int32} (h : F_X3_sortsThatDo   x0 x1 = some r) : zMi l WF G yX3_sortsThatDo cX3_sortsThatDo 4 .int 2 [.int x0, .int x1] σ r σ := by
  refine zMi_of (by decide) (Nat.le_of_ble_eq_true rfl) (fun p e s m args below meth c ls Q hx hb hr hlk hml hC hI hl hret => ?_)
  have hl : lv_has ls 4 [(0, .int x0), (1, .int x1)] := hl
  have hC : zC WF G RX3 args s m := hC
  have w_4 : ∀ (n : Nat) (y0 : Int32) (y1 : Int32) (y2 : Int32) (y3 : Int32) (y2o : Int32) (y3o : Int32), L_X3_sortsThatDo_4 y0 y1 n y2 y3 = some (y2o, y3o) → ∀ (H : Heap) (locs : List Loc) (ls : Array Slot), zI WF G s σ H locs → lv_has ls 4 [(0, .int y0), (1, .int y1), (2, .int y2), (3, .int y3)] → (∀ (H : Heap) (locs : List Loc) (ls : Array Slot), zI WF G s σ H locs → lv_has ls 4 [(0, .int y0), (1, .int y1), (2, .int y2o), (3, .int y3o)] → W p l e (zR 2) s m args below meth c H locs 0 0 Q (F0 m 41 ls [])) → W p l e (zR 2) s m args below meth c H locs 0 0 Q (F0 m 4 ls []) := by
    intro n
    induction n with
    | zero => intro y0 y1 y2 y3 y2o y3o h; cases h
    | succ n ih =>
      intro y0 y1 y2 y3 y2o y3o h H locs ls hI hl kE
      unfold L_X3_sortsThatDo_4 at h
      refine lv_iload_n hx hb dX3_sortsThatDo_4 rfl (lv_at hl 3 rfl) ?_
      refine lv_iconst (v := 5) hx hb dX3_sortsThatDo_5 lc_5 ?_
      refine lv_icmp_ge (tgt := 41) hx hb dX3_sortsThatDo_6 (by decide) (fun hc => ?_) (fun hc => ?_)
      · have h := zi_t hc h
        cases h
        exact kE _ _ _ hI (lv_sub hl [0, 1, 2, 3] rfl)
      · have h := zi_f hc h
        refine lv_iload_n hx hb dX3_sortsThatDo_9 rfl (lv_at hl 3 rfl) ?_
        refine lv_iload_n hx hb dX3_sortsThatDo_10 rfl (lv_at hl 0 rfl) ?_
        refine lv_iconst (v := 0) hx hb dX3_sortsThatDo_11 lc_0 ?_
        obtain ⟨r2, h1, h⟩ := zb_e h
        refine z_cNi (As := [.int y3, .int y0, .int 0]) (rest := []) hx hb hC (hml.trans hl.1.symm) hI (c_X6_doesAt l G  (σ := σ) h1) yyX6_doesAt q_nl_X3_49 ⟨Nat.le_of_ble_eq_true rfl, Nat.le_of_ble_eq_true rfl⟩ rfl rfl (Nat.le_of_ble_eq_true rfl) ⟨Nat.le_refl _, Nat.le_refl _⟩ dX3_sortsThatDo_12 (fun H locs hI => ?_)
        refine lv_iload_n hx hb dX3_sortsThatDo_15 rfl (lv_at hl 1 rfl) ?_
        refine lv_icmp_eq (tgt := 29) hx hb dX3_sortsThatDo_16 (by decide) (fun hc => ?_) (fun hc => ?_)
        · have h := zi_t hc h
          refine lv_iload_n hx hb dX3_sortsThatDo_29 rfl (lv_at hl 2 rfl) ?_
          refine lv_iconst (v := 1) hx hb dX3_sortsThatDo_30 lc_1 ?_
          refine lv_iload_n hx hb dX3_sortsThatDo_31 rfl (lv_at hl 3 rfl) ?_
          refine lv_ishl hx hb dX3_sortsThatDo_32 ?_
          refine lv_ior hx hb dX3_sortsThatDo_33 ?_
          refine lv_topi (fun v3 e_v3 => ?_)
          have h := zl_e h e_v3
          refine lv_istore_n (lv' := [(2, .int v3), (0, .int y0), (1, .int y1), (3, .int y3)]) hx hb dX3_sortsThatDo_34 rfl hl (by decide) rfl (fun ls hl => ?_)
          obtain ⟨v4, e_v4⟩ : ∃ y : Int32, y = y3 + 1 := ⟨_, rfl⟩
          have h := zl_e h e_v4
          refine lv_iinc (v := v4) (lv' := [(3, .int v4), (2, .int v3), (0, .int y0), (1, .int y1)]) hx hb dX3_sortsThatDo_35 hl (k := 3) rfl (by rw [lc_1]; exact e_v4.symm) (by decide) rfl (fun ls hl => ?_)
          refine lv_goto (tgt := 4) hx hb dX3_sortsThatDo_38 (by decide) ?_
          exact ih y0 y1 v3 v4 y2o y3o h _ _ _ hI (lv_sub hl [2, 3, 1, 0] rfl) kE
        · have h := zi_f hc h
          refine lv_iload_n hx hb dX3_sortsThatDo_19 rfl (lv_at hl 3 rfl) ?_
          refine lv_iload_n hx hb dX3_sortsThatDo_20 rfl (lv_at hl 0 rfl) ?_
          refine lv_iconst (v := 1) hx hb dX3_sortsThatDo_21 lc_1 ?_
          obtain ⟨r6, h5, h⟩ := zb_e h
          refine z_cNi (As := [.int y3, .int y0, .int 1]) (rest := []) hx hb hC (hml.trans hl.1.symm) hI (c_X6_doesAt l G  (σ := σ) h5) yyX6_doesAt q_nl_X3_49 ⟨Nat.le_of_ble_eq_true rfl, Nat.le_of_ble_eq_true rfl⟩ rfl rfl (Nat.le_of_ble_eq_true rfl) ⟨Nat.le_refl _, Nat.le_refl _⟩ dX3_sortsThatDo_22 (fun H locs hI => ?_)
          refine lv_iload_n hx hb dX3_sortsThatDo_25 rfl (lv_at hl 1 rfl) ?_
          refine lv_icmp_ne (tgt := 35) hx hb dX3_sortsThatDo_26 (by decide) (fun hc => ?_) (fun hc => ?_)
          · have h := zi_f hc h
            obtain ⟨v7, e_v7⟩ : ∃ y : Int32, y = y3 + 1 := ⟨_, rfl⟩
            have h := zl_e h e_v7
            refine lv_iinc (v := v7) (lv' := [(3, .int v7), (0, .int y0), (1, .int y1), (2, .int y2)]) hx hb dX3_sortsThatDo_35 hl (k := 3) rfl (by rw [lc_1]; exact e_v7.symm) (by decide) rfl (fun ls hl => ?_)
            refine lv_goto (tgt := 4) hx hb dX3_sortsThatDo_38 (by decide) ?_
            exact ih y0 y1 y2 v7 y2o y3o h _ _ _ hI (lv_sub hl [1, 2, 3, 0] rfl) kE
          · have h := zi_t hc h
            refine lv_iload_n hx hb dX3_sortsThatDo_29 rfl (lv_at hl 2 rfl) ?_
            refine lv_iconst (v := 1) hx hb dX3_sortsThatDo_30 lc_1 ?_
            refine lv_iload_n hx hb dX3_sortsThatDo_31 rfl (lv_at hl 3 rfl) ?_
            refine lv_ishl hx hb dX3_sortsThatDo_32 ?_
            refine lv_ior hx hb dX3_sortsThatDo_33 ?_
            refine lv_topi (fun v8 e_v8 => ?_)
            have h := zl_e h e_v8
            refine lv_istore_n (lv' := [(2, .int v8), (0, .int y0), (1, .int y1), (3, .int y3)]) hx hb dX3_sortsThatDo_34 rfl hl (by decide) rfl (fun ls hl => ?_)
            obtain ⟨v9, e_v9⟩ : ∃ y : Int32, y = y3 + 1 := ⟨_, rfl⟩
            have h := zl_e h e_v9
            refine lv_iinc (v := v9) (lv' := [(3, .int v9), (2, .int v8), (0, .int y0), (1, .int y1)]) hx hb dX3_sortsThatDo_35 hl (k := 3) rfl (by rw [lc_1]; exact e_v9.symm) (by decide) rfl (fun ls hl => ?_)
            refine lv_goto (tgt := 4) hx hb dX3_sortsThatDo_38 (by decide) ?_
            exact ih y0 y1 v8 v9 y2o y3o h _ _ _ hI (lv_sub hl [2, 3, 1, 0] rfl) kE
  unfold F_X3_sortsThatDo at h
  refine lv_iconst (v := 0) hx hb dX3_sortsThatDo_0 lc_0 ?_
  refine lv_istore_n (lv' := [(2, .int 0), (0, .int x0), (1, .int x1)]) hx hb dX3_sortsThatDo_1 rfl hl (by decide) rfl (fun ls hl => ?_)
  refine lv_iconst (v := 0) hx hb dX3_sortsThatDo_2 lc_0 ?_
  refine lv_istore_n (lv' := [(3, .int 0), (2, .int 0), (0, .int x0), (1, .int x1)]) hx hb dX3_sortsThatDo_3 rfl hl (by decide) rfl (fun ls hl => ?_)
  obtain ⟨v10, v11, h12, h⟩ := zb2_e h
  refine w_4 100 x0 x1 0 0 v10 v11 h12 _ _ _ hI (lv_sub hl [2, 3, 1, 0] rfl) (fun H locs ls hI hl => ?_)
  refine lv_iload_n hx hb dX3_sortsThatDo_41 rfl (lv_at hl 2 rfl) ?_
  exact hret ⟨(Option.some.inj h), rfl⟩ hI rfl dX3_sortsThatDo_42
set_option maxRecDepth 100000 in
set_option maxHeartbeats 4000000 in
theorem c_X3_sortsOf (l : Launch) (G : zG) {b : Nat} (hb1 : isS b) {σ : SF} {r : Int32} {x1 : Int32} (h : F_X3_sortsOf σ b x1 = some r) : zMi l WF G yX3_sortsOf cX3_sortsOf 4 .int 3 [.ref (za G b), .int x1] σ r σ := by
  refine zMi_of (by decide) (Nat.le_of_ble_eq_true rfl) (fun p e s m args below meth c ls Q hx hb hr hlk hml hC hI hl hret => ?_)
  have hl : lv_has ls 4 [(0, .ref (za G b)), (1, .int x1)] := hl
  have hC : zC WF G RX3 args s m := hC
  have w_5 : ∀ (n : Nat) (y1 : Int32) (y2 : Int32) (y3 : Int32) (y2o : Int32) (y3o : Int32), L_X3_sortsOf_5 σ b y1 n y2 y3 = some (y2o, y3o) → ∀ (H : Heap) (locs : List Loc) (ls : Array Slot), zI WF G s σ H locs → lv_has ls 4 [(0, .ref (za G b)), (1, .int y1), (2, .int y2), (3, .int y3)] → (∀ (H : Heap) (locs : List Loc) (ls : Array Slot), zI WF G s σ H locs → lv_has ls 4 [(0, .ref (za G b)), (1, .int y1), (2, .int y2o), (3, .int y3o)] → W p l e (zR 3) s m args below meth c H locs 0 0 Q (F0 m 47 ls [])) → W p l e (zR 3) s m args below meth c H locs 0 0 Q (F0 m 5 ls []) := by
    intro n
    induction n with
    | zero => intro y1 y2 y3 y2o y3o h; cases h
    | succ n ih =>
      intro y1 y2 y3 y2o y3o h H locs ls hI hl kE
      unfold L_X3_sortsOf_5 at h
      refine lv_iload_n hx hb dX3_sortsOf_5 rfl (lv_at hl 3 rfl) ?_
      refine lv_aload_n hx hb dX3_sortsOf_6 rfl (lv_at hl 0 rfl) ?_
      refine gX3_0 hb1 hx hb hC hI q_fl_X3_21 dX3_sortsOf_7 ?_
      refine lv_icmp_ge (tgt := 47) hx hb dX3_sortsOf_10 (by decide) (fun hc => ?_) (fun hc => ?_)
      · have h := zi_t hc h
        cases h
        exact kE _ _ _ hI (lv_sub hl [0, 1, 2, 3] rfl)
      · have h := zi_f hc h
        refine lv_aload_n hx hb dX3_sortsOf_13 rfl (lv_at hl 0 rfl) ?_
        refine gX3_1 hb1 hx hb hC hI q_fl_X3_9 dX3_sortsOf_14 ?_
        refine lv_iload_n hx hb dX3_sortsOf_17 rfl (lv_at hl 3 rfl) ?_
        obtain ⟨hg, h⟩ := zg_e h
        refine z_iald hx hb hC hI (vX3_1 G hb1) hg dX3_sortsOf_18 ?_
        refine lv_iload_n hx hb dX3_sortsOf_19 rfl (lv_at hl 1 rfl) ?_
        refine lv_icmp_ne (tgt := 41) hx hb dX3_sortsOf_20 (by decide) (fun hc => ?_) (fun hc => ?_)
        · have h := zi_f hc h
          obtain ⟨v1, e_v1⟩ : ∃ y : Int32, y = y3 + 1 := ⟨_, rfl⟩
          have h := zl_e h e_v1
          refine lv_iinc (v := v1) (lv' := [(3, .int v1), (0, .ref (za G b)), (1, .int y1), (2, .int y2)]) hx hb dX3_sortsOf_41 hl (k := 3) rfl (by rw [lc_1]; exact e_v1.symm) (by decide) rfl (fun ls hl => ?_)
          refine lv_goto (tgt := 5) hx hb dX3_sortsOf_44 (by decide) ?_
          exact ih y1 y2 v1 y2o y3o h _ _ _ hI (lv_sub hl [1, 2, 3, 0] rfl) kE
        · have h := zi_t hc h
          refine lv_iload_n hx hb dX3_sortsOf_23 rfl (lv_at hl 2 rfl) ?_
          refine lv_aload_n hx hb dX3_sortsOf_24 rfl (lv_at hl 0 rfl) ?_
          refine gX3_2 hb1 hx hb hC hI q_fl_X3_15 dX3_sortsOf_25 ?_
          refine lv_iload_n hx hb dX3_sortsOf_28 rfl (lv_at hl 3 rfl) ?_
          obtain ⟨hg, h⟩ := zg_e h
          refine z_iald hx hb hC hI (vX3_2 G hb1) hg dX3_sortsOf_29 ?_
          refine lv_aload_n hx hb dX3_sortsOf_30 rfl (lv_at hl 0 rfl) ?_
          refine gX3_3 hb1 hx hb hC hI q_fl_X3_18 dX3_sortsOf_31 ?_
          refine lv_iload_n hx hb dX3_sortsOf_34 rfl (lv_at hl 3 rfl) ?_
          obtain ⟨hg, h⟩ := zg_e h
          refine z_iald hx hb hC hI (vX3_3 G hb1) hg dX3_sortsOf_35 ?_
          obtain ⟨r3, h2, h⟩ := zb_e h
          refine z_cSi (As := [.int (σ (b + 2) (y3 : Int32).toNatClampNeg), .int (σ (b + 3) (y3 : Int32).toNatClampNeg)]) (rest := [.int y2]) hx hb hC (hml.trans hl.1.symm) hI (c_X3_sortsThatDo l G  (σ := σ) h2) yyX3_sortsThatDo q_ml_X3_31 ⟨Nat.le_of_ble_eq_true rfl, Nat.le_of_ble_eq_true rfl⟩ rfl rfl (Nat.le_of_ble_eq_true rfl) ⟨Nat.le_refl _, Nat.le_refl _⟩ dX3_sortsOf_36 (fun H locs hI => ?_)
          refine lv_iand hx hb dX3_sortsOf_39 ?_
          refine lv_topi (fun v4 e_v4 => ?_)
          have h := zl_e h e_v4
          refine lv_istore_n (lv' := [(2, .int v4), (0, .ref (za G b)), (1, .int y1), (3, .int y3)]) hx hb dX3_sortsOf_40 rfl hl (by decide) rfl (fun ls hl => ?_)
          obtain ⟨v5, e_v5⟩ : ∃ y : Int32, y = y3 + 1 := ⟨_, rfl⟩
          have h := zl_e h e_v5
          refine lv_iinc (v := v5) (lv' := [(3, .int v5), (2, .int v4), (0, .ref (za G b)), (1, .int y1)]) hx hb dX3_sortsOf_41 hl (k := 3) rfl (by rw [lc_1]; exact e_v5.symm) (by decide) rfl (fun ls hl => ?_)
          refine lv_goto (tgt := 5) hx hb dX3_sortsOf_44 (by decide) ?_
          exact ih y1 v4 v5 y2o y3o h _ _ _ hI (lv_sub hl [2, 3, 1, 0] rfl) kE
  unfold F_X3_sortsOf at h
  refine lv_bipush (v := 31) hx hb dX3_sortsOf_0 lb_31 ?_
  refine lv_istore_n (lv' := [(2, .int 31), (0, .ref (za G b)), (1, .int x1)]) hx hb dX3_sortsOf_2 rfl hl (by decide) rfl (fun ls hl => ?_)
  refine lv_iconst (v := 0) hx hb dX3_sortsOf_3 lc_0 ?_
  refine lv_istore_n (lv' := [(3, .int 0), (2, .int 31), (0, .ref (za G b)), (1, .int x1)]) hx hb dX3_sortsOf_4 rfl hl (by decide) rfl (fun ls hl => ?_)
  obtain ⟨v6, v7, h8, h⟩ := zb2_e h
  refine w_5 100 x1 31 0 v6 v7 h8 _ _ _ hI (lv_sub hl [2, 3, 1, 0] rfl) (fun H locs ls hI hl => ?_)
  refine lv_iload_n hx hb dX3_sortsOf_47 rfl (lv_at hl 2 rfl) ?_
  exact hret ⟨(Option.some.inj h), rfl⟩ hI rfl dX3_sortsOf_48
set_option maxRecDepth 100000 in
set_option maxHeartbeats 4000000 in
theorem c_J6_bitCount_0f7a4 (l : Launch) (G : zG)  {σ : SF} {r : Int32} {x0 : Int32} (h : F_J6_bitCount_0f7a4   x0 = some r) : zMi l WF G yJ6_bitCount_0f7a4 cJ6_bitCount_0f7a4 1 .int 1 [.int x0] σ r σ := by
  refine zMi_of (by decide) (Nat.le_of_ble_eq_true rfl) (fun p e s m args below meth c ls Q hx hb hr hlk hml hC hI hl hret => ?_)
  have hl : lv_has ls 1 [(0, .int x0)] := hl
  have hC : zC WF G RJ6 args s m := hC
  unfold F_J6_bitCount_0f7a4 at h
  refine lv_iload_n hx hb dJ6_bitCount_0f7a4_0 rfl (lv_at hl 0 rfl) ?_
  refine lv_iload_n hx hb dJ6_bitCount_0f7a4_1 rfl (lv_at hl 0 rfl) ?_
  refine lv_iconst (v := 1) hx hb dJ6_bitCount_0f7a4_2 lc_1 ?_
  refine lv_iushr hx hb dJ6_bitCount_0f7a4_3 rfl ?_
  refine lv_ldcw hx hb hC.1 (hC.ts q_ct_J6_265) dJ6_bitCount_0f7a4_4 ?_
  refine lv_iand hx hb dJ6_bitCount_0f7a4_7 ?_
  refine lv_isub hx hb dJ6_bitCount_0f7a4_8 ?_
  refine lv_topi (fun v1 e_v1 => ?_)
  have h := zl_e h e_v1
  refine lv_istore_n (lv' := [(0, .int v1)]) hx hb dJ6_bitCount_0f7a4_9 rfl hl (by decide) rfl (fun ls hl => ?_)
  refine lv_iload_n hx hb dJ6_bitCount_0f7a4_10 rfl (lv_at hl 0 rfl) ?_
  refine lv_ldcw hx hb hC.1 (hC.ts q_ct_J6_266) dJ6_bitCount_0f7a4_11 ?_
  refine lv_iand hx hb dJ6_bitCount_0f7a4_14 ?_
  refine lv_iload_n hx hb dJ6_bitCount_0f7a4_15 rfl (lv_at hl 0 rfl) ?_
  refine lv_iconst (v := 2) hx hb dJ6_bitCount_0f7a4_16 lc_2 ?_
  refine lv_iushr hx hb dJ6_bitCount_0f7a4_17 rfl ?_
  refine lv_ldcw hx hb hC.1 (hC.ts q_ct_J6_266) dJ6_bitCount_0f7a4_18 ?_
  refine lv_iand hx hb dJ6_bitCount_0f7a4_21 ?_
  refine lv_iadd hx hb dJ6_bitCount_0f7a4_22 ?_
  refine lv_topi (fun v2 e_v2 => ?_)
  have h := zl_e h e_v2
  refine lv_istore_n (lv' := [(0, .int v2)]) hx hb dJ6_bitCount_0f7a4_23 rfl hl (by decide) rfl (fun ls hl => ?_)
  refine lv_iload_n hx hb dJ6_bitCount_0f7a4_24 rfl (lv_at hl 0 rfl) ?_
  refine lv_iload_n hx hb dJ6_bitCount_0f7a4_25 rfl (lv_at hl 0 rfl) ?_
  refine lv_iconst (v := 4) hx hb dJ6_bitCount_0f7a4_26 lc_4 ?_
  refine lv_iushr hx hb dJ6_bitCount_0f7a4_27 rfl ?_
  refine lv_iadd hx hb dJ6_bitCount_0f7a4_28 ?_
  refine lv_ldcw hx hb hC.1 (hC.ts q_ct_J6_267) dJ6_bitCount_0f7a4_29 ?_
  refine lv_iand hx hb dJ6_bitCount_0f7a4_32 ?_
  refine lv_topi (fun v3 e_v3 => ?_)
  have h := zl_e h e_v3
  refine lv_istore_n (lv' := [(0, .int v3)]) hx hb dJ6_bitCount_0f7a4_33 rfl hl (by decide) rfl (fun ls hl => ?_)
  refine lv_iload_n hx hb dJ6_bitCount_0f7a4_34 rfl (lv_at hl 0 rfl) ?_
  refine lv_iload_n hx hb dJ6_bitCount_0f7a4_35 rfl (lv_at hl 0 rfl) ?_
  refine lv_bipush (v := 8) hx hb dJ6_bitCount_0f7a4_36 lb_8 ?_
  refine lv_iushr hx hb dJ6_bitCount_0f7a4_38 rfl ?_
  refine lv_iadd hx hb dJ6_bitCount_0f7a4_39 ?_
  refine lv_topi (fun v4 e_v4 => ?_)
  have h := zl_e h e_v4
  refine lv_istore_n (lv' := [(0, .int v4)]) hx hb dJ6_bitCount_0f7a4_40 rfl hl (by decide) rfl (fun ls hl => ?_)
  refine lv_iload_n hx hb dJ6_bitCount_0f7a4_41 rfl (lv_at hl 0 rfl) ?_
  refine lv_iload_n hx hb dJ6_bitCount_0f7a4_42 rfl (lv_at hl 0 rfl) ?_
  refine lv_bipush (v := 16) hx hb dJ6_bitCount_0f7a4_43 lb_16 ?_
  refine lv_iushr hx hb dJ6_bitCount_0f7a4_45 rfl ?_
  refine lv_iadd hx hb dJ6_bitCount_0f7a4_46 ?_
  refine lv_topi (fun v5 e_v5 => ?_)
  have h := zl_e h e_v5
  refine lv_istore_n (lv' := [(0, .int v5)]) hx hb dJ6_bitCount_0f7a4_47 rfl hl (by decide) rfl (fun ls hl => ?_)
  refine lv_iload_n hx hb dJ6_bitCount_0f7a4_48 rfl (lv_at hl 0 rfl) ?_
  refine lv_bipush (v := 63) hx hb dJ6_bitCount_0f7a4_49 lb_63 ?_
  refine lv_iand hx hb dJ6_bitCount_0f7a4_51 ?_
  exact hret ⟨(Option.some.inj h), rfl⟩ hI rfl dJ6_bitCount_0f7a4_52
set_option maxRecDepth 100000 in
set_option maxHeartbeats 4000000 in
theorem c_X3_askFor (l : Launch) (G : zG) {b : Nat} (hb1 : isS b) {σ : SF} {r : Int32} {x1 : Int32} (h : F_X3_askFor σ b x1 = some r) : zMi l WF G yX3_askFor cX3_askFor 8 .int 4 [.ref (za G b), .int x1] σ r σ := by
  refine zMi_of (by decide) (Nat.le_of_ble_eq_true rfl) (fun p e s m args below meth c ls Q hx hb hr hlk hml hC hI hl hret => ?_)
  have hl : lv_has ls 8 [(0, .ref (za G b)), (1, .int x1)] := hl
  have hC : zC WF G RX3 args s m := hC
  have w_31 : ∀ (n : Nat) (y2 : Int32) (y3 : Int32) (y4 : Int32) (y5 : Int32) (y6 : Int32) (y7 : Int32) (y6o : Int32) (y7o : Int32), L_X3_askFor_31 σ b y2 y3 y4 y5 n y6 y7 = some (y6o, y7o) → ∀ (H : Heap) (locs : List Loc) (ls : Array Slot), zI WF G s σ H locs → lv_has ls 8 [(2, .int y2), (3, .int y3), (4, .int y4), (5, .int y5), (6, .int y6), (7, .int y7)] → (∀ (H : Heap) (locs : List Loc) (ls : Array Slot), zI WF G s σ H locs → lv_has ls 8 [(2, .int y2), (3, .int y3), (4, .int y4), (5, .int y5), (6, .int y6o), (7, .int y7o)] → W p l e (zR 4) s m args below meth c H locs 0 0 Q (F0 m 62 ls [])) → W p l e (zR 4) s m args below meth c H locs 0 0 Q (F0 m 31 ls []) := by
    intro n
    induction n with
    | zero => intro y2 y3 y4 y5 y6 y7 y6o y7o h; cases h
    | succ n ih =>
      intro y2 y3 y4 y5 y6 y7 y6o y7o h H locs ls hI hl kE
      unfold L_X3_askFor_31 at h
      refine lv_iload hx hb dX3_askFor_31 (lv_at hl 5 rfl) ?_
      refine lv_iconst (v := 2) hx hb dX3_askFor_33 lc_2 ?_
      refine lv_icmp_gt (tgt := 62) hx hb dX3_askFor_34 (by decide) (fun hc => ?_) (fun hc => ?_)
      · have h := zi_t hc h
        cases h
        exact kE _ _ _ hI (lv_sub hl [0, 1, 2, 3, 4, 5] rfl)
      · have h := zi_f hc h
        refine lv_iload hx hb dX3_askFor_37 (lv_at hl 4 rfl) ?_
        refine lv_iload_n hx hb dX3_askFor_39 rfl (lv_at hl 0 rfl) ?_
        refine lv_iload hx hb dX3_askFor_40 (lv_at hl 3 rfl) ?_
        refine lv_iload hx hb dX3_askFor_42 (lv_at hl 5 rfl) ?_
        obtain ⟨r4, h3, h⟩ := zb_e h
        refine z_cSi (As := [.int y5, .int y7]) (rest := [.int y2, .int y6]) hx hb hC (hml.trans hl.1.symm) hI (c_X3_sortsThatDo l G  (σ := σ) h3) yyX3_sortsThatDo q_ml_X3_31 ⟨Nat.le_of_ble_eq_true rfl, Nat.le_of_ble_eq_true rfl⟩ rfl rfl (Nat.le_of_ble_eq_true rfl) ⟨Nat.le_refl _, Nat.le_refl _⟩ dX3_askFor_44 (fun H locs hI => ?_)
        refine lv_iand hx hb dX3_askFor_47 ?_
        obtain ⟨r6, h5, h⟩ := zb_e h
        refine z_cSi (As := [.int (y2 &&& r4)]) (rest := [.int y6]) hx hb hC (hml.trans hl.1.symm) hI (c_J6_bitCount_0f7a4 l G  (σ := σ) h5) yyJ6_bitCount_0f7a4 q_ml_X3_39 ⟨Nat.le_of_ble_eq_true rfl, Nat.le_of_ble_eq_true rfl⟩ rfl rfl (Nat.le_of_ble_eq_true rfl) ⟨Nat.le_refl _, Nat.le_refl _⟩ dX3_askFor_48 (fun H locs hI => ?_)
        refine z_max hx hb hC (hml.trans hl.1.symm) q_ml_X3_44 (Nat.le_of_ble_eq_true rfl) (Nat.le_of_ble_eq_true rfl) (Nat.le_refl _) (Nat.le_refl _) dX3_askFor_51 ?_
        refine lv_topi (fun v7 e_v7 => ?_)
        have h := zl_e h e_v7
        refine lv_istore (lv' := [(6, .int v7), (2, .int y2), (3, .int y3), (4, .int y4), (5, .int y5), (7, .int y7)]) hx hb dX3_askFor_54 hl (by decide) rfl (fun ls hl => ?_)
        obtain ⟨v8, e_v8⟩ : ∃ y : Int32, y = y7 + 1 := ⟨_, rfl⟩
        have h := zl_e h e_v8
        refine lv_iinc (v := v8) (lv' := [(7, .int v8), (6, .int v7), (2, .int y2), (3, .int y3), (4, .int y4), (5, .int y5)]) hx hb dX3_askFor_56 hl (k := 5) rfl (by rw [lc_1]; exact e_v8.symm) (by decide) rfl (fun ls hl => ?_)
        refine lv_goto (tgt := 31) hx hb dX3_askFor_59 (by decide) ?_
        exact ih y2 y3 y4 y5 v7 v8 y6o y7o h _ _ _ hI (lv_sub hl [2, 3, 4, 5, 1, 0] rfl) kE
  have w_15 : ∀ (n : Nat) (y2 : Int32) (y3 : Int32) (y4 : Int32) (y5 : Int32) (y3o : Int32) (y4o : Int32) (y5o : Int32), L_X3_askFor_15 σ b y2 n y3 y4 y5 = some (y3o, y4o, y5o) → ∀ (H : Heap) (locs : List Loc) (ls : Array Slot), zI WF G s σ H locs → lv_has ls 8 [(2, .int y2), (3, .int y3), (4, .int y4), (5, .int y5)] → (∀ (H : Heap) (locs : List Loc) (ls : Array Slot), zI WF G s σ H locs → lv_has ls 8 [(2, .int y2), (3, .int y3o), (4, .int y4o), (5, .int y5o)] → W p l e (zR 4) s m args below meth c H locs 0 0 Q (F0 m 82 ls [])) → W p l e (zR 4) s m args below meth c H locs 0 0 Q (F0 m 15 ls []) := by
    intro n
    induction n with
    | zero => intro y2 y3 y4 y5 y3o y4o y5o h; cases h
    | succ n ih =>
      intro y2 y3 y4 y5 y3o y4o y5o h H locs ls hI hl kE
      unfold L_X3_askFor_15 at h
      refine lv_iload hx hb dX3_askFor_15 (lv_at hl 3 rfl) ?_
      refine lv_iconst (v := 3) hx hb dX3_askFor_17 lc_3 ?_
      refine lv_icmp_gt (tgt := 82) hx hb dX3_askFor_18 (by decide) (fun hc => ?_) (fun hc => ?_)
      · have h := zi_t hc h
        cases h
        exact kE _ _ _ hI (lv_sub hl [0, 1, 2, 3] rfl)
      · have h := zi_f hc h
        refine lv_iload_n hx hb dX3_askFor_21 rfl (lv_at hl 0 rfl) ?_
        refine lv_if_eq (tgt := 82) hx hb dX3_askFor_22 (by decide) (fun hc => ?_) (fun hc => ?_)
        · have h := zi_t hc h
          cases h
          exact kE _ _ _ hI (lv_sub hl [0, 1, 2, 3] rfl)
        · have h := zi_f hc h
          refine lv_iconst (v := 0) hx hb dX3_askFor_25 lc_0 ?_
          refine lv_istore (lv' := [(6, .int 0), (2, .int y2), (3, .int y3), (4, .int y4), (5, .int y5)]) hx hb dX3_askFor_26 hl (by decide) rfl (fun ls hl => ?_)
          refine lv_iconst (v := 0) hx hb dX3_askFor_28 lc_0 ?_
          refine lv_istore (lv' := [(7, .int 0), (6, .int 0), (2, .int y2), (3, .int y3), (4, .int y4), (5, .int y5)]) hx hb dX3_askFor_29 hl (by decide) rfl (fun ls hl => ?_)
          obtain ⟨v9, v10, h11, h⟩ := zb2_e h
          refine w_31 100 y2 y3 y4 y5 0 0 v9 v10 h11 _ _ _ hI (lv_sub hl [2, 3, 4, 5, 1, 0] rfl) (fun H locs ls hI hl => ?_)
          refine lv_iload hx hb dX3_askFor_62 (lv_at hl 4 rfl) ?_
          refine lv_iload hx hb dX3_askFor_64 (lv_at hl 2 rfl) ?_
          refine lv_icmp_ge (tgt := 76) hx hb dX3_askFor_66 (by decide) (fun hc => ?_) (fun hc => ?_)
          · have h := zi_t hc h
            obtain ⟨v12, e_v12⟩ : ∃ y : Int32, y = y5 + 1 := ⟨_, rfl⟩
            have h := zl_e h e_v12
            refine lv_iinc (v := v12) (lv' := [(5, .int v12), (2, .int y2), (3, .int y3), (4, .int y4), (6, .int v9), (7, .int v10)]) hx hb dX3_askFor_76 hl (k := 3) rfl (by rw [lc_1]; exact e_v12.symm) (by decide) rfl (fun ls hl => ?_)
            refine lv_goto (tgt := 15) hx hb dX3_askFor_79 (by decide) ?_
            exact ih y2 y3 y4 v12 y3o y4o y5o h _ _ _ hI (lv_sub hl [1, 2, 3, 0] rfl) kE
          · have h := zi_f hc h
            refine lv_iload hx hb dX3_askFor_69 (lv_at hl 4 rfl) ?_
            refine lv_istore (lv' := [(4, .int v9), (2, .int y2), (3, .int y3), (5, .int y5), (6, .int v9), (7, .int v10)]) hx hb dX3_askFor_71 hl (by decide) rfl (fun ls hl => ?_)
            refine lv_iload hx hb dX3_askFor_73 (lv_at hl 3 rfl) ?_
            refine lv_istore_n (lv' := [(3, .int y5), (4, .int v9), (2, .int y2), (5, .int y5), (6, .int v9), (7, .int v10)]) hx hb dX3_askFor_75 rfl hl (by decide) rfl (fun ls hl => ?_)
            obtain ⟨v13, e_v13⟩ : ∃ y : Int32, y = y5 + 1 := ⟨_, rfl⟩
            have h := zl_e h e_v13
            refine lv_iinc (v := v13) (lv' := [(5, .int v13), (3, .int y5), (4, .int v9), (2, .int y2), (6, .int v9), (7, .int v10)]) hx hb dX3_askFor_76 hl (k := 3) rfl (by rw [lc_1]; exact e_v13.symm) (by decide) rfl (fun ls hl => ?_)
            refine lv_goto (tgt := 15) hx hb dX3_askFor_79 (by decide) ?_
            exact ih y2 y5 v9 v13 y3o y4o y5o h _ _ _ hI (lv_sub hl [3, 1, 2, 0] rfl) kE
  unfold F_X3_askFor at h
  refine lv_aload_n hx hb dX3_askFor_0 rfl (lv_at hl 0 rfl) ?_
  refine lv_iload_n hx hb dX3_askFor_1 rfl (lv_at hl 1 rfl) ?_
  obtain ⟨r2, h1, h⟩ := zb_e h
  refine z_cVi (As := [.int x1]) (rest := []) hx hb hC (hml.trans hl.1.symm) hI (c_X3_sortsOf l G hb1 h1) yyX3_sortsOf q_ml_X3_35 (oX3 G hb1) rfl ⟨Nat.le_of_ble_eq_true rfl, Nat.le_of_ble_eq_true rfl⟩ rfl rfl (Nat.le_of_ble_eq_true rfl) ⟨Nat.le_refl _, Nat.le_refl _⟩ dX3_askFor_2 (fun H locs hI => ?_)
  refine lv_istore_n (lv' := [(2, .int r2), (0, .ref (za G b)), (1, .int x1)]) hx hb dX3_askFor_5 rfl hl (by decide) rfl (fun ls hl => ?_)
  refine lv_iconst (v := (-1)) hx hb dX3_askFor_6 lc_m1 ?_
  refine lv_istore_n (lv' := [(3, .int (-1)), (2, .int r2), (0, .ref (za G b)), (1, .int x1)]) hx hb dX3_askFor_7 rfl hl (by decide) rfl (fun ls hl => ?_)
  refine lv_bipush (v := 6) hx hb dX3_askFor_8 lb_6 ?_
  refine lv_istore (lv' := [(4, .int 6), (3, .int (-1)), (2, .int r2), (0, .ref (za G b)), (1, .int x1)]) hx hb dX3_askFor_10 hl (by decide) rfl (fun ls hl => ?_)
  refine lv_iconst (v := 1) hx hb dX3_askFor_12 lc_1 ?_
  refine lv_istore (lv' := [(5, .int 1), (4, .int 6), (3, .int (-1)), (2, .int r2), (0, .ref (za G b)), (1, .int x1)]) hx hb dX3_askFor_13 hl (by decide) rfl (fun ls hl => ?_)
  obtain ⟨v14, v15, v16, h17, h⟩ := zb3_e h
  refine w_15 100 r2 (-1) 6 1 v14 v15 v16 h17 _ _ _ hI (lv_sub hl [3, 2, 1, 0] rfl) (fun H locs ls hI hl => ?_)
  refine lv_iload_n hx hb dX3_askFor_82 rfl (lv_at hl 1 rfl) ?_
  exact hret ⟨(Option.some.inj h), rfl⟩ hI rfl dX3_askFor_83
set_option maxRecDepth 100000 in
set_option maxHeartbeats 4000000 in
theorem c_X4_put (l : Launch) (G : zG)  {σ σ' : SF} {x1 : Int32} (h : F_X4_put σ  x1 = some σ') : zMv l WF G yX4_put cX4_put 2 1 [.ref (za G 13), .int x1] σ σ' := by
  refine zMv_of (by decide) (Nat.le_of_ble_eq_true rfl) (fun p e s m args below meth c ls Q hx hb hr hlk hml hC hI hl hret => ?_)
  have hl : lv_has ls 2 [(0, .ref (za G 13)), (1, .int x1)] := hl
  have hC : zC WF G RX4 args s m := hC
  unfold F_X4_put at h
  refine lv_aload_n hx hb dX4_put_0 rfl (lv_at hl 0 rfl) ?_
  refine gX4_3 hx hb hC hI q_fl_X4_26 dX4_put_1 ?_
  refine lv_aload_n hx hb dX4_put_4 rfl (lv_at hl 0 rfl) ?_
  refine gX4_2 hx hb hC hI q_fl_X4_9 dX4_put_5 ?_
  refine z_alen hx hb hC hI (vX4_2 G) (v := 72) rfl dX4_put_8 ?_
  refine lv_icmp_ge (tgt := 32) hx hb dX4_put_9 (by decide) (fun hc => ?_) (fun hc => ?_)
  · have h := zi_t hc h
    exact hret (Option.some.inj h) hI dX4_put_32
  · have h := zi_f hc h
    refine lv_aload_n hx hb dX4_put_12 rfl (lv_at hl 0 rfl) ?_
    refine gX4_2 hx hb hC hI q_fl_X4_9 dX4_put_13 ?_
    refine lv_aload_n hx hb dX4_put_16 rfl (lv_at hl 0 rfl) ?_
    refine gX4_3 hx hb hC hI q_fl_X4_26 dX4_put_17 ?_
    refine lv_iload_n hx hb dX4_put_20 rfl (lv_at hl 1 rfl) ?_
    obtain ⟨hg, h⟩ := zg_e h
    refine z_iast hx hb hC hI (vX4_2 G) hg dX4_put_21 (fun σ1 H locs e_σ1 hI => ?_)
    have h := zl_e h e_σ1
    refine lv_aload_n hx hb dX4_put_22 rfl (lv_at hl 0 rfl) ?_
    refine lv_dup hx hb dX4_put_23 rfl ?_
    refine gX4_3 hx hb hC hI q_fl_X4_26 dX4_put_24 ?_
    refine lv_iconst (v := 1) hx hb dX4_put_27 lc_1 ?_
    refine lv_iadd hx hb dX4_put_28 ?_
    refine pX4_3 hx hb hC hI q_fl_X4_26 dX4_put_29 (fun σ2 H locs e_σ2 hI => ?_)
    have h := zl_e h e_σ2
    exact hret (Option.some.inj h) hI dX4_put_32
set_option maxRecDepth 100000 in
set_option maxHeartbeats 4000000 in
theorem c_X4_putOpening (l : Launch) (G : zG)  {σ σ' : SF} {x1 : Int32} (h : F_X4_putOpening σ  x1 = some σ') : zMv l WF G yX4_putOpening cX4_putOpening 2 2 [.ref (za G 13), .int x1] σ σ' := by
  refine zMv_of (by decide) (Nat.le_of_ble_eq_true rfl) (fun p e s m args below meth c ls Q hx hb hr hlk hml hC hI hl hret => ?_)
  have hl : lv_has ls 2 [(0, .ref (za G 13)), (1, .int x1)] := hl
  have hC : zC WF G RX4 args s m := hC
  unfold F_X4_putOpening at h
  refine lv_aload_n hx hb dX4_putOpening_0 rfl (lv_at hl 0 rfl) ?_
  refine lv_iload_n hx hb dX4_putOpening_1 rfl (lv_at hl 1 rfl) ?_
  obtain ⟨σ2, h1, h⟩ := zb_e h
  refine z_cVv (As := [.int x1]) (rest := []) hx hb hC (hml.trans hl.1.symm) hI (c_X4_put l G  h1) yyX4_put q_ml_X4_80 (oX4 G) rfl ⟨Nat.le_of_ble_eq_true rfl, Nat.le_of_ble_eq_true rfl⟩ rfl rfl (Nat.le_of_ble_eq_true rfl) ⟨Nat.le_refl _, Nat.le_refl _⟩ dX4_putOpening_2 (fun H locs hI => ?_)
  refine lv_aload_n hx hb dX4_putOpening_5 rfl (lv_at hl 0 rfl) ?_
  refine gX4_8 hx hb hC hI q_fl_X4_39 dX4_putOpening_6 ?_
  refine lv_aload_n hx hb dX4_putOpening_9 rfl (lv_at hl 0 rfl) ?_
  refine gX4_7 hx hb hC hI q_fl_X4_15 dX4_putOpening_10 ?_
  refine z_alen hx hb hC hI (vX4_7 G) (v := 16) rfl dX4_putOpening_13 ?_
  refine lv_icmp_ge (tgt := 37) hx hb dX4_putOpening_14 (by decide) (fun hc => ?_) (fun hc => ?_)
  · have h := zi_t hc h
    refine lv_aload_n hx hb dX4_putOpening_37 rfl (lv_at hl 0 rfl) ?_
    refine lv_aload_n hx hb dX4_putOpening_38 rfl (lv_at hl 0 rfl) ?_
    refine gX4_6 hx hb hC hI q_fl_X4_36 dX4_putOpening_39 ?_
    refine lv_aload_n hx hb dX4_putOpening_42 rfl (lv_at hl 0 rfl) ?_
    refine gX4_8 hx hb hC hI q_fl_X4_39 dX4_putOpening_43 ?_
    refine z_max hx hb hC (hml.trans hl.1.symm) q_ml_X4_112 (Nat.le_of_ble_eq_true rfl) (Nat.le_of_ble_eq_true rfl) (Nat.le_refl _) (Nat.le_refl _) dX4_putOpening_46 ?_
    refine pX4_6 hx hb hC hI q_fl_X4_36 dX4_putOpening_49 (fun σ3 H locs e_σ3 hI => ?_)
    have h := zl_e h e_σ3
    exact hret (Option.some.inj h) hI dX4_putOpening_52
  · have h := zi_f hc h
    refine lv_aload_n hx hb dX4_putOpening_17 rfl (lv_at hl 0 rfl) ?_
    refine gX4_7 hx hb hC hI q_fl_X4_15 dX4_putOpening_18 ?_
    refine lv_aload_n hx hb dX4_putOpening_21 rfl (lv_at hl 0 rfl) ?_
    refine gX4_8 hx hb hC hI q_fl_X4_39 dX4_putOpening_22 ?_
    refine lv_iload_n hx hb dX4_putOpening_25 rfl (lv_at hl 1 rfl) ?_
    obtain ⟨hg, h⟩ := zg_e h
    refine z_iast hx hb hC hI (vX4_7 G) hg dX4_putOpening_26 (fun σ4 H locs e_σ4 hI => ?_)
    have h := zl_e h e_σ4
    refine lv_aload_n hx hb dX4_putOpening_27 rfl (lv_at hl 0 rfl) ?_
    refine lv_dup hx hb dX4_putOpening_28 rfl ?_
    refine gX4_8 hx hb hC hI q_fl_X4_39 dX4_putOpening_29 ?_
    refine lv_iconst (v := 1) hx hb dX4_putOpening_32 lc_1 ?_
    refine lv_iadd hx hb dX4_putOpening_33 ?_
    refine pX4_8 hx hb hC hI q_fl_X4_39 dX4_putOpening_34 (fun σ5 H locs e_σ5 hI => ?_)
    have h := zl_e h e_σ5
    refine lv_aload_n hx hb dX4_putOpening_37 rfl (lv_at hl 0 rfl) ?_
    refine lv_aload_n hx hb dX4_putOpening_38 rfl (lv_at hl 0 rfl) ?_
    refine gX4_6 hx hb hC hI q_fl_X4_36 dX4_putOpening_39 ?_
    refine lv_aload_n hx hb dX4_putOpening_42 rfl (lv_at hl 0 rfl) ?_
    refine gX4_8 hx hb hC hI q_fl_X4_39 dX4_putOpening_43 ?_
    refine z_max hx hb hC (hml.trans hl.1.symm) q_ml_X4_112 (Nat.le_of_ble_eq_true rfl) (Nat.le_of_ble_eq_true rfl) (Nat.le_refl _) (Nat.le_refl _) dX4_putOpening_46 ?_
    refine pX4_6 hx hb hC hI q_fl_X4_36 dX4_putOpening_49 (fun σ6 H locs e_σ6 hI => ?_)
    have h := zl_e h e_σ6
    exact hret (Option.some.inj h) hI dX4_putOpening_52
set_option maxRecDepth 100000 in
set_option maxHeartbeats 4000000 in
theorem c_X4_isBlockIn (l : Launch) (G : zG)  {σ : SF} {r : Int32} {x1 : Int32} {x2 : Int32} (h : F_X4_isBlockIn σ  x1 x2 = some r) : zMi l WF G yX4_isBlockIn cX4_isBlockIn 3 .boolean 3 [.ref (za G 13), .int x1, .int x2] σ r σ := by
  refine zMi_of (by decide) (Nat.le_of_ble_eq_true rfl) (fun p e s m args below meth c ls Q hx hb hr hlk hml hC hI hl hret => ?_)
  have hl : lv_has ls 3 [(0, .ref (za G 13)), (1, .int x1), (2, .int x2)] := hl
  have hC : zC WF G RX4 args s m := hC
  unfold F_X4_isBlockIn at h
  refine lv_aload_n hx hb dX4_isBlockIn_0 rfl (lv_at hl 0 rfl) ?_
  refine gX4_1 hx hb hC hI q_fl_X4_22 dX4_isBlockIn_1 ?_
  refine lv_iload_n hx hb dX4_isBlockIn_4 rfl (lv_at hl 2 rfl) ?_
  obtain ⟨r2, h1, h⟩ := zb_e h
  refine z_cVi (As := [.int x2]) (rest := []) hx hb hC (hml.trans hl.1.symm) hI (c_X0_isMerge l G isF3 h1) yyX0_isMerge q_ml_X4_93 (oX0 G isF3) rfl ⟨Nat.le_of_ble_eq_true rfl, Nat.le_of_ble_eq_true rfl⟩ rfl rfl (Nat.le_of_ble_eq_true rfl) ⟨Nat.le_refl _, Nat.le_refl _⟩ dX4_isBlockIn_5 (fun H locs hI => ?_)
  refine lv_if_eq (tgt := 27) hx hb dX4_isBlockIn_8 (by decide) (fun hc => ?_) (fun hc => ?_)
  · have h := zi_t hc h
    refine lv_iconst (v := 0) hx hb dX4_isBlockIn_27 lc_0 ?_
    exact hret ⟨(Option.some.inj h), rfl⟩ hI rfl dX4_isBlockIn_28
  · have h := zi_f hc h
    refine lv_aload_n hx hb dX4_isBlockIn_11 rfl (lv_at hl 0 rfl) ?_
    refine gX4_1 hx hb hC hI q_fl_X4_22 dX4_isBlockIn_12 ?_
    refine lv_iload_n hx hb dX4_isBlockIn_15 rfl (lv_at hl 2 rfl) ?_
    obtain ⟨r4, h3, h⟩ := zb_e h
    refine z_cVi (As := [.int x2]) (rest := []) hx hb hC (hml.trans hl.1.symm) hI (c_X0_lordOf l G isF3 h3) yyX0_lordOf q_ml_X4_96 (oX0 G isF3) rfl ⟨Nat.le_of_ble_eq_true rfl, Nat.le_of_ble_eq_true rfl⟩ rfl rfl (Nat.le_of_ble_eq_true rfl) ⟨Nat.le_refl _, Nat.le_refl _⟩ dX4_isBlockIn_16 (fun H locs hI => ?_)
    refine lv_iload_n hx hb dX4_isBlockIn_19 rfl (lv_at hl 1 rfl) ?_
    refine lv_icmp_ne (tgt := 27) hx hb dX4_isBlockIn_20 (by decide) (fun hc => ?_) (fun hc => ?_)
    · have h := zi_f hc h
      refine lv_iconst (v := 0) hx hb dX4_isBlockIn_27 lc_0 ?_
      exact hret ⟨(Option.some.inj h), rfl⟩ hI rfl dX4_isBlockIn_28
    · have h := zi_t hc h
      refine lv_iconst (v := 1) hx hb dX4_isBlockIn_23 lc_1 ?_
      refine lv_goto (tgt := 28) hx hb dX4_isBlockIn_24 (by decide) ?_
      exact hret ⟨(Option.some.inj h), rfl⟩ hI rfl dX4_isBlockIn_28
set_option maxRecDepth 100000 in
set_option maxHeartbeats 4000000 in
theorem c_X4_depthOf (l : Launch) (G : zG)  {σ : SF} {r : Int32} {x1 : Int32} (h : F_X4_depthOf σ  x1 = some r) : zMi l WF G yX4_depthOf cX4_depthOf 3 .int 1 [.ref (za G 13), .int x1] σ r σ := by
  refine zMi_of (by decide) (Nat.le_of_ble_eq_true rfl) (fun p e s m args below meth c ls Q hx hb hr hlk hml hC hI hl hret => ?_)
  have hl : lv_has ls 3 [(0, .ref (za G 13)), (1, .int x1)] := hl
  have hC : zC WF G RX4 args s m := hC
  have w_2 : ∀ (n : Nat) (y1 : Int32) (y2 : Int32) (y2o : Int32), L_X4_depthOf_2 σ y1 n y2 = some y2o → ∀ (H : Heap) (locs : List Loc) (ls : Array Slot), zI WF G s σ H locs → lv_has ls 3 [(0, .ref (za G 13)), (1, .int y1), (2, .int y2)] → (∀ (H : Heap) (locs : List Loc) (ls : Array Slot), zI WF G s σ H locs → lv_has ls 3 [(0, .ref (za G 13)), (1, .int y1), (2, .int y2o)] → W p l e (zR 1) s m args below meth c H locs 0 0 Q (F0 m 33 ls [])) → W p l e (zR 1) s m args below meth c H locs 0 0 Q (F0 m 2 ls []) := by
    intro n
    induction n with
    | zero => intro y1 y2 y2o h; cases h
    | succ n ih =>
      intro y1 y2 y2o h H locs ls hI hl kE
      unfold L_X4_depthOf_2 at h
      refine lv_iload_n hx hb dX4_depthOf_2 rfl (lv_at hl 2 rfl) ?_
      refine lv_aload_n hx hb dX4_depthOf_3 rfl (lv_at hl 0 rfl) ?_
      refine gX4_8 hx hb hC hI q_fl_X4_39 dX4_depthOf_4 ?_
      refine lv_icmp_ge (tgt := 33) hx hb dX4_depthOf_7 (by decide) (fun hc => ?_) (fun hc => ?_)
      · have h := zi_t hc h
        cases h
        exact kE _ _ _ hI (lv_sub hl [0, 1, 2] rfl)
      · have h := zi_f hc h
        refine lv_aload_n hx hb dX4_depthOf_10 rfl (lv_at hl 0 rfl) ?_
        refine gX4_7 hx hb hC hI q_fl_X4_15 dX4_depthOf_11 ?_
        refine lv_aload_n hx hb dX4_depthOf_14 rfl (lv_at hl 0 rfl) ?_
        refine gX4_8 hx hb hC hI q_fl_X4_39 dX4_depthOf_15 ?_
        refine lv_iconst (v := 1) hx hb dX4_depthOf_18 lc_1 ?_
        refine lv_isub hx hb dX4_depthOf_19 ?_
        refine lv_iload_n hx hb dX4_depthOf_20 rfl (lv_at hl 2 rfl) ?_
        refine lv_isub hx hb dX4_depthOf_21 ?_
        refine lv_topi (fun v1 e_v1 => ?_)
        have h := zl_e h e_v1
        obtain ⟨hg, h⟩ := zg_e h
        refine z_iald hx hb hC hI (vX4_7 G) hg dX4_depthOf_22 ?_
        refine lv_iload_n hx hb dX4_depthOf_23 rfl (lv_at hl 1 rfl) ?_
        refine lv_icmp_eq (tgt := 33) hx hb dX4_depthOf_24 (by decide) (fun hc => ?_) (fun hc => ?_)
        · have h := zi_t hc h
          cases h
          exact kE _ _ _ hI (lv_sub hl [0, 1, 2] rfl)
        · have h := zi_f hc h
          obtain ⟨v2, e_v2⟩ : ∃ y : Int32, y = y2 + 1 := ⟨_, rfl⟩
          have h := zl_e h e_v2
          refine lv_iinc (v := v2) (lv' := [(2, .int v2), (0, .ref (za G 13)), (1, .int y1)]) hx hb dX4_depthOf_27 hl (k := 2) rfl (by rw [lc_1]; exact e_v2.symm) (by decide) rfl (fun ls hl => ?_)
          refine lv_goto (tgt := 2) hx hb dX4_depthOf_30 (by decide) ?_
          exact ih y1 v2 y2o h _ _ _ hI (lv_sub hl [1, 2, 0] rfl) kE
  unfold F_X4_depthOf at h
  refine lv_iconst (v := 0) hx hb dX4_depthOf_0 lc_0 ?_
  refine lv_istore_n (lv' := [(2, .int 0), (0, .ref (za G 13)), (1, .int x1)]) hx hb dX4_depthOf_1 rfl hl (by decide) rfl (fun ls hl => ?_)
  obtain ⟨v3, h4, h⟩ := zb_e h
  refine w_2 100 x1 0 v3 h4 _ _ _ hI (lv_sub hl [1, 2, 0] rfl) (fun H locs ls hI hl => ?_)
  refine lv_iload_n hx hb dX4_depthOf_33 rfl (lv_at hl 2 rfl) ?_
  exact hret ⟨(Option.some.inj h), rfl⟩ hI rfl dX4_depthOf_34
set_option maxRecDepth 100000 in
set_option maxHeartbeats 4000000 in
theorem c_X4_putWayOut (l : Launch) (G : zG)  {σ σ' : SF} {x1 : Int32} {x2 : Int32} (h : F_X4_putWayOut σ  x1 x2 = some σ') : zMv l WF G yX4_putWayOut cX4_putWayOut 3 2 [.ref (za G 13), .int x1, .int x2] σ σ' := by
  refine zMv_of (by decide) (Nat.le_of_ble_eq_true rfl) (fun p e s m args below meth c ls Q hx hb hr hlk hml hC hI hl hret => ?_)
  have hl : lv_has ls 3 [(0, .ref (za G 13)), (1, .int x1), (2, .int x2)] := hl
  have hC : zC WF G RX4 args s m := hC
  unfold F_X4_putWayOut at h
  refine lv_aload_n hx hb dX4_putWayOut_0 rfl (lv_at hl 0 rfl) ?_
  refine lv_iload_n hx hb dX4_putWayOut_1 rfl (lv_at hl 1 rfl) ?_
  refine lv_iload_n hx hb dX4_putWayOut_2 rfl (lv_at hl 2 rfl) ?_
  refine lv_iadd hx hb dX4_putWayOut_3 ?_
  obtain ⟨σ2, h1, h⟩ := zb_e h
  refine z_cVv (As := [.int (x1 + x2)]) (rest := []) hx hb hC (hml.trans hl.1.symm) hI (c_X4_put l G  h1) yyX4_put q_ml_X4_80 (oX4 G) rfl ⟨Nat.le_of_ble_eq_true rfl, Nat.le_of_ble_eq_true rfl⟩ rfl rfl (Nat.le_of_ble_eq_true rfl) ⟨Nat.le_refl _, Nat.le_refl _⟩ dX4_putWayOut_4 (fun H locs hI => ?_)
  refine lv_aload_n hx hb dX4_putWayOut_7 rfl (lv_at hl 0 rfl) ?_
  refine lv_dup hx hb dX4_putWayOut_8 rfl ?_
  refine gX4_4 hx hb hC hI q_fl_X4_30 dX4_putWayOut_9 ?_
  refine lv_iconst (v := 1) hx hb dX4_putWayOut_12 lc_1 ?_
  refine lv_iadd hx hb dX4_putWayOut_13 ?_
  refine pX4_4 hx hb hC hI q_fl_X4_30 dX4_putWayOut_14 (fun σ3 H locs e_σ3 hI => ?_)
  have h := zl_e h e_σ3
  refine lv_aload_n hx hb dX4_putWayOut_17 rfl (lv_at hl 0 rfl) ?_
  refine lv_dup hx hb dX4_putWayOut_18 rfl ?_
  refine gX4_5 hx hb hC hI q_fl_X4_33 dX4_putWayOut_19 ?_
  refine lv_iload_n hx hb dX4_putWayOut_22 rfl (lv_at hl 2 rfl) ?_
  refine lv_iadd hx hb dX4_putWayOut_23 ?_
  refine pX4_5 hx hb hC hI q_fl_X4_33 dX4_putWayOut_24 (fun σ4 H locs e_σ4 hI => ?_)
  have h := zl_e h e_σ4
  exact hret (Option.some.inj h) hI dX4_putWayOut_27
set_option maxRecDepth 100000 in
set_option maxHeartbeats 4000000 in
theorem c_X4_putBranch (l : Launch) (G : zG)  {d : Nat} (hd : 8 ≤ d) {rec : SF → Int32 → Int32 → Option SF} (hrec : ∀ {σ : SF} {x1 x2 : Int32} {σ' : SF}, rec σ x1 x2 = some σ' → zMv l WF G yX4_putTree cX4_putTree 4 d [.ref (za G 13), .int x1, .int x2] σ σ') {σ σ' : SF} {x1 : Int32} {x2 : Int32} {x3 : Int32} (h : F_X4_putBranch rec σ  x1 x2 x3 = some σ') : zMv l WF G yX4_putBranch cX4_putBranch 5 (d + 1) [.ref (za G 13), .int x1, .int x2, .int x3] σ σ' := by
  refine zMv_of (by decide) (Nat.le_of_ble_eq_true rfl) (fun p e s m args below meth c ls Q hx hb hr hlk hml hC hI hl hret => ?_)
  have hl : lv_has ls 5 [(0, .ref (za G 13)), (1, .int x1), (2, .int x2), (3, .int x3)] := hl
  have hC : zC WF G RX4 args s m := hC
  unfold F_X4_putBranch at h
  refine lv_aload_n hx hb dX4_putBranch_0 rfl (lv_at hl 0 rfl) ?_
  refine gX4_0 hx hb hC hI q_fl_X4_18 dX4_putBranch_1 ?_
  refine lv_iload_n hx hb dX4_putBranch_4 rfl (lv_at hl 1 rfl) ?_
  refine lv_iload_n hx hb dX4_putBranch_5 rfl (lv_at hl 2 rfl) ?_
  obtain ⟨r2, h1, h⟩ := zb_e h
  refine z_cVi (As := [.int x1, .int x2]) (rest := []) hx hb hC (hml.trans hl.1.symm) hI (c_X1_target l G isJ3 h1) yyX1_target q_ml_X4_99 (oX1 G isJ3) rfl ⟨by show _ ≤ (d + 1); omega, by show _ ≤ 100 * (d + 1); omega⟩ rfl rfl (Nat.le_of_ble_eq_true rfl) ⟨Nat.le_refl _, Nat.le_refl _⟩ dX4_putBranch_6 (fun H locs hI => ?_)
  refine lv_istore (lv' := [(4, .int r2), (0, .ref (za G 13)), (1, .int x1), (2, .int x2), (3, .int x3)]) hx hb dX4_putBranch_9 hl (by decide) rfl (fun ls hl => ?_)
  refine lv_aload_n hx hb dX4_putBranch_11 rfl (lv_at hl 1 rfl) ?_
  refine gX4_1 hx hb hC hI q_fl_X4_22 dX4_putBranch_12 ?_
  refine lv_iload_n hx hb dX4_putBranch_15 rfl (lv_at hl 2 rfl) ?_
  refine lv_iload_n hx hb dX4_putBranch_16 rfl (lv_at hl 3 rfl) ?_
  obtain ⟨r4, h3, h⟩ := zb_e h
  refine z_cVi (As := [.int x1, .int x2]) (rest := []) hx hb hC (hml.trans hl.1.symm) hI (c_X0_stateOf l G isF3 h3) yyX0_stateOf q_ml_X4_103 (oX0 G isF3) rfl ⟨by show _ ≤ (d + 1); omega, by show _ ≤ 100 * (d + 1); omega⟩ rfl rfl (Nat.le_of_ble_eq_true rfl) ⟨Nat.le_refl _, Nat.le_refl _⟩ dX4_putBranch_17 (fun H locs hI => ?_)
  refine lv_if_eq (tgt := 42) hx hb dX4_putBranch_20 (by decide) (fun hc => ?_) (fun hc => ?_)
  · have h := zi_t hc h
    refine lv_aload_n hx hb dX4_putBranch_42 rfl (lv_at hl 1 rfl) ?_
    refine gX4_1 hx hb hC hI q_fl_X4_22 dX4_putBranch_43 ?_
    refine lv_iload hx hb dX4_putBranch_46 (lv_at hl 0 rfl) ?_
    obtain ⟨r6, h5, h⟩ := zb_e h
    refine z_cVi (As := [.int r2]) (rest := []) hx hb hC (hml.trans hl.1.symm) hI (c_X0_isMerge l G isF3 h5) yyX0_isMerge q_ml_X4_93 (oX0 G isF3) rfl ⟨by show _ ≤ (d + 1); omega, by show _ ≤ 100 * (d + 1); omega⟩ rfl rfl (Nat.le_of_ble_eq_true rfl) ⟨Nat.le_refl _, Nat.le_refl _⟩ dX4_putBranch_48 (fun H locs hI => ?_)
    refine lv_if_eq (tgt := 74) hx hb dX4_putBranch_51 (by decide) (fun hc => ?_) (fun hc => ?_)
    · have h := zi_t hc h
      refine lv_aload_n hx hb dX4_putBranch_74 rfl (lv_at hl 1 rfl) ?_
      refine lv_iload hx hb dX4_putBranch_75 (lv_at hl 0 rfl) ?_
      refine lv_iload_n hx hb dX4_putBranch_77 rfl (lv_at hl 4 rfl) ?_
      refine lv_iconst (v := 1) hx hb dX4_putBranch_78 lc_1 ?_
      refine lv_iadd hx hb dX4_putBranch_79 ?_
      obtain ⟨σ8, h7, h⟩ := zb_e h
      refine z_cVv (As := [.int r2, .int (x3 + 1)]) (rest := []) hx hb hC (hml.trans hl.1.symm) hI (hrec h7) yyX4_putTree q_ml_X4_48 (oX4 G) rfl ⟨by show _ ≤ (d + 1); omega, by show _ ≤ 100 * (d + 1); omega⟩ rfl rfl (Nat.le_of_ble_eq_true rfl) ⟨Nat.le_refl _, Nat.le_refl _⟩ dX4_putBranch_80 (fun H locs hI => ?_)
      exact hret (Option.some.inj h) hI dX4_putBranch_83
    · have h := zi_f hc h
      refine lv_aload_n hx hb dX4_putBranch_54 rfl (lv_at hl 1 rfl) ?_
      refine lv_sipush (v := 600) hx hb dX4_putBranch_55 ls_600 ?_
      refine lv_aload_n hx hb dX4_putBranch_58 rfl (lv_at hl 1 rfl) ?_
      refine lv_sipush (v := 200) hx hb dX4_putBranch_59 ls_200 ?_
      refine lv_iload hx hb dX4_putBranch_62 (lv_at hl 0 rfl) ?_
      refine lv_iadd hx hb dX4_putBranch_64 ?_
      obtain ⟨r10, h9, h⟩ := zb_e h
      refine z_cVi (As := [.int ((200 : Int32) + r2)]) (rest := [.int 600, .ref (za G 13)]) hx hb hC (hml.trans hl.1.symm) hI (c_X4_depthOf l G  h9) yyX4_depthOf q_ml_X4_106 (oX4 G) rfl ⟨by show _ ≤ (d + 1); omega, by show _ ≤ 100 * (d + 1); omega⟩ rfl rfl (Nat.le_of_ble_eq_true rfl) ⟨Nat.le_refl _, Nat.le_refl _⟩ dX4_putBranch_65 (fun H locs hI => ?_)
      obtain ⟨σ12, h11, h⟩ := zb_e h
      refine z_cVv (As := [.int 600, .int r10]) (rest := []) hx hb hC (hml.trans hl.1.symm) hI (c_X4_putWayOut l G  h11) yyX4_putWayOut q_ml_X4_109 (oX4 G) rfl ⟨by show _ ≤ (d + 1); omega, by show _ ≤ 100 * (d + 1); omega⟩ rfl rfl (Nat.le_of_ble_eq_true rfl) ⟨Nat.le_refl _, Nat.le_refl _⟩ dX4_putBranch_68 (fun H locs hI => ?_)
      refine lv_goto (tgt := 83) hx hb dX4_putBranch_71 (by decide) ?_
      exact hret (Option.some.inj h) hI dX4_putBranch_83
  · have h := zi_f hc h
    refine lv_aload_n hx hb dX4_putBranch_23 rfl (lv_at hl 1 rfl) ?_
    refine lv_sipush (v := 500) hx hb dX4_putBranch_24 ls_500 ?_
    refine lv_aload_n hx hb dX4_putBranch_27 rfl (lv_at hl 1 rfl) ?_
    refine lv_bipush (v := 100) hx hb dX4_putBranch_28 lb_100 ?_
    refine lv_iload hx hb dX4_putBranch_30 (lv_at hl 0 rfl) ?_
    refine lv_iadd hx hb dX4_putBranch_32 ?_
    obtain ⟨r14, h13, h⟩ := zb_e h
    refine z_cVi (As := [.int ((100 : Int32) + r2)]) (rest := [.int 500, .ref (za G 13)]) hx hb hC (hml.trans hl.1.symm) hI (c_X4_depthOf l G  h13) yyX4_depthOf q_ml_X4_106 (oX4 G) rfl ⟨by show _ ≤ (d + 1); omega, by show _ ≤ 100 * (d + 1); omega⟩ rfl rfl (Nat.le_of_ble_eq_true rfl) ⟨Nat.le_refl _, Nat.le_refl _⟩ dX4_putBranch_33 (fun H locs hI => ?_)
    obtain ⟨σ16, h15, h⟩ := zb_e h
    refine z_cVv (As := [.int 500, .int r14]) (rest := []) hx hb hC (hml.trans hl.1.symm) hI (c_X4_putWayOut l G  h15) yyX4_putWayOut q_ml_X4_109 (oX4 G) rfl ⟨by show _ ≤ (d + 1); omega, by show _ ≤ 100 * (d + 1); omega⟩ rfl rfl (Nat.le_of_ble_eq_true rfl) ⟨Nat.le_refl _, Nat.le_refl _⟩ dX4_putBranch_36 (fun H locs hI => ?_)
    refine lv_goto (tgt := 83) hx hb dX4_putBranch_39 (by decide) ?_
    exact hret (Option.some.inj h) hI dX4_putBranch_83
set_option maxRecDepth 100000 in
set_option maxHeartbeats 4000000 in
theorem c_X4_putClosing (l : Launch) (G : zG)  {σ σ' : SF} {x1 : Int32} (h : F_X4_putClosing σ  x1 = some σ') : zMv l WF G yX4_putClosing cX4_putClosing 2 2 [.ref (za G 13), .int x1] σ σ' := by
  refine zMv_of (by decide) (Nat.le_of_ble_eq_true rfl) (fun p e s m args below meth c ls Q hx hb hr hlk hml hC hI hl hret => ?_)
  have hl : lv_has ls 2 [(0, .ref (za G 13)), (1, .int x1)] := hl
  have hC : zC WF G RX4 args s m := hC
  unfold F_X4_putClosing at h
  refine lv_aload_n hx hb dX4_putClosing_0 rfl (lv_at hl 0 rfl) ?_
  refine lv_iload_n hx hb dX4_putClosing_1 rfl (lv_at hl 1 rfl) ?_
  obtain ⟨σ2, h1, h⟩ := zb_e h
  refine z_cVv (As := [.int x1]) (rest := []) hx hb hC (hml.trans hl.1.symm) hI (c_X4_put l G  h1) yyX4_put q_ml_X4_80 (oX4 G) rfl ⟨Nat.le_of_ble_eq_true rfl, Nat.le_of_ble_eq_true rfl⟩ rfl rfl (Nat.le_of_ble_eq_true rfl) ⟨Nat.le_refl _, Nat.le_refl _⟩ dX4_putClosing_2 (fun H locs hI => ?_)
  refine lv_aload_n hx hb dX4_putClosing_5 rfl (lv_at hl 0 rfl) ?_
  refine lv_iconst (v := 0) hx hb dX4_putClosing_6 lc_0 ?_
  refine lv_aload_n hx hb dX4_putClosing_7 rfl (lv_at hl 0 rfl) ?_
  refine gX4_8 hx hb hC hI q_fl_X4_39 dX4_putClosing_8 ?_
  refine lv_iconst (v := 1) hx hb dX4_putClosing_11 lc_1 ?_
  refine lv_isub hx hb dX4_putClosing_12 ?_
  refine z_max hx hb hC (hml.trans hl.1.symm) q_ml_X4_112 (Nat.le_of_ble_eq_true rfl) (Nat.le_of_ble_eq_true rfl) (Nat.le_refl _) (Nat.le_refl _) dX4_putClosing_13 ?_
  refine pX4_8 hx hb hC hI q_fl_X4_39 dX4_putClosing_16 (fun σ3 H locs e_σ3 hI => ?_)
  have h := zl_e h e_σ3
  exact hret (Option.some.inj h) hI dX4_putClosing_19
set_option maxRecDepth 100000 in
set_option maxHeartbeats 4000000 in
theorem c_X4_putWithin (l : Launch) (G : zG)  {d : Nat} (hd : 8 ≤ d) {rec : SF → Int32 → Int32 → Option SF} (hrec : ∀ {σ : SF} {x1 x2 : Int32} {σ' : SF}, rec σ x1 x2 = some σ' → zMv l WF G yX4_putTree cX4_putTree 4 d [.ref (za G 13), .int x1, .int x2] σ σ') {σ σ' : SF} {x1 : Int32} {x2 : Int32} (h : F_X4_putWithin rec σ  x1 x2 = some σ') : zMv l WF G yX4_putWithin cX4_putWithin 5 (d + 2) [.ref (za G 13), .int x1, .int x2] σ σ' := by
  refine zMv_of (by decide) (Nat.le_of_ble_eq_true rfl) (fun p e s m args below meth c ls Q hx hb hr hlk hml hC hI hl hret => ?_)
  have hl : lv_has ls 5 [(0, .ref (za G 13)), (1, .int x1), (2, .int x2)] := hl
  have hC : zC WF G RX4 args s m := hC
  have w_10 : ∀ (n : Nat) (y1 : Int32) (y2 : Int32) (y3 : Int32) (σ : SF) (y3o : Int32) (σo : SF), L_X4_putWithin_10 rec y1 y2 n y3 σ = some (y3o, σo) → ∀ (H : Heap) (locs : List Loc) (ls : Array Slot), zI WF G s σ H locs → lv_has ls 5 [(0, .ref (za G 13)), (1, .int y1), (2, .int y2), (3, .int y3)] → (∀ (H : Heap) (locs : List Loc) (ls : Array Slot), zI WF G s σo H locs → lv_has ls 5 [(0, .ref (za G 13)), (1, .int y1), (2, .int y2), (3, .int y3o)] → W p l e (zR (d + 2)) s m args below meth c H locs 0 0 Q (F0 m 52 ls [])) → W p l e (zR (d + 2)) s m args below meth c H locs 0 0 Q (F0 m 10 ls []) := by
    intro n
    induction n with
    | zero => intro y1 y2 y3 σ y3o σo h; cases h
    | succ n ih =>
      intro y1 y2 y3 σ y3o σo h H locs ls hI hl kE
      unfold L_X4_putWithin_10 at h
      refine lv_iload_n hx hb dX4_putWithin_10 rfl (lv_at hl 3 rfl) ?_
      refine lv_if_le (tgt := 52) hx hb dX4_putWithin_11 (by decide) (fun hc => ?_) (fun hc => ?_)
      · have h := zi_t hc h
        cases h
        exact kE _ _ _ hI (lv_sub hl [0, 1, 2, 3] rfl)
      · have h := zi_f hc h
        refine lv_aload_n hx hb dX4_putWithin_14 rfl (lv_at hl 0 rfl) ?_
        refine lv_iload_n hx hb dX4_putWithin_15 rfl (lv_at hl 1 rfl) ?_
        refine lv_aload_n hx hb dX4_putWithin_16 rfl (lv_at hl 0 rfl) ?_
        refine gX4_1 hx hb hC hI q_fl_X4_22 dX4_putWithin_17 ?_
        refine lv_iload_n hx hb dX4_putWithin_20 rfl (lv_at hl 3 rfl) ?_
        obtain ⟨r3, h2, h⟩ := zb_e h
        refine z_cVi (As := [.int y3]) (rest := [.int y1, .ref (za G 13)]) hx hb hC (hml.trans hl.1.symm) hI (c_X0_nodeAt l G isF3 h2) yyX0_nodeAt q_ml_X4_72 (oX0 G isF3) rfl ⟨by show _ ≤ (d + 2); omega, by show _ ≤ 100 * (d + 2); omega⟩ rfl rfl (Nat.le_of_ble_eq_true rfl) ⟨Nat.le_refl _, Nat.le_refl _⟩ dX4_putWithin_21 (fun H locs hI => ?_)
        obtain ⟨r5, h4, h⟩ := zb_e h
        refine z_cVi (As := [.int y1, .int r3]) (rest := []) hx hb hC (hml.trans hl.1.symm) hI (c_X4_isBlockIn l G  h4) yyX4_isBlockIn q_ml_X4_76 (oX4 G) rfl ⟨by show _ ≤ (d + 2); omega, by show _ ≤ 100 * (d + 2); omega⟩ rfl rfl (Nat.le_of_ble_eq_true rfl) ⟨Nat.le_refl _, Nat.le_refl _⟩ dX4_putWithin_24 (fun H locs hI => ?_)
        refine lv_if_eq (tgt := 46) hx hb dX4_putWithin_27 (by decide) (fun hc => ?_) (fun hc => ?_)
        · have h := zi_t hc h
          obtain ⟨v6, e_v6⟩ : ∃ y : Int32, y = y3 + (-1) := ⟨_, rfl⟩
          have h := zl_e h e_v6
          refine lv_iinc (v := v6) (lv' := [(3, .int v6), (0, .ref (za G 13)), (1, .int y1), (2, .int y2)]) hx hb dX4_putWithin_46 hl (k := 3) rfl (by rw [lc_m1]; exact e_v6.symm) (by decide) rfl (fun ls hl => ?_)
          refine lv_goto (tgt := 10) hx hb dX4_putWithin_49 (by decide) ?_
          exact ih y1 y2 v6 σ y3o σo h _ _ _ hI (lv_sub hl [1, 2, 3, 0] rfl) kE
        · have h := zi_f hc h
          refine lv_aload_n hx hb dX4_putWithin_30 rfl (lv_at hl 0 rfl) ?_
          refine lv_sipush (v := 200) hx hb dX4_putWithin_31 ls_200 ?_
          refine lv_aload_n hx hb dX4_putWithin_34 rfl (lv_at hl 0 rfl) ?_
          refine gX4_1 hx hb hC hI q_fl_X4_22 dX4_putWithin_35 ?_
          refine lv_iload_n hx hb dX4_putWithin_38 rfl (lv_at hl 3 rfl) ?_
          obtain ⟨r8, h7, h⟩ := zb_e h
          refine z_cVi (As := [.int y3]) (rest := [.int 200, .ref (za G 13)]) hx hb hC (hml.trans hl.1.symm) hI (c_X0_nodeAt l G isF3 h7) yyX0_nodeAt q_ml_X4_72 (oX0 G isF3) rfl ⟨by show _ ≤ (d + 2); omega, by show _ ≤ 100 * (d + 2); omega⟩ rfl rfl (Nat.le_of_ble_eq_true rfl) ⟨Nat.le_refl _, Nat.le_refl _⟩ dX4_putWithin_39 (fun H locs hI => ?_)
          refine lv_iadd hx hb dX4_putWithin_42 ?_
          obtain ⟨σ10, h9, h⟩ := zb_e h
          refine z_cVv (As := [.int ((200 : Int32) + r8)]) (rest := []) hx hb hC (hml.trans hl.1.symm) hI (c_X4_putOpening l G  h9) yyX4_putOpening q_ml_X4_61 (oX4 G) rfl ⟨by show _ ≤ (d + 2); omega, by show _ ≤ 100 * (d + 2); omega⟩ rfl rfl (Nat.le_of_ble_eq_true rfl) ⟨Nat.le_refl _, Nat.le_refl _⟩ dX4_putWithin_43 (fun H locs hI => ?_)
          obtain ⟨v11, e_v11⟩ : ∃ y : Int32, y = y3 + (-1) := ⟨_, rfl⟩
          have h := zl_e h e_v11
          refine lv_iinc (v := v11) (lv' := [(3, .int v11), (0, .ref (za G 13)), (1, .int y1), (2, .int y2)]) hx hb dX4_putWithin_46 hl (k := 3) rfl (by rw [lc_m1]; exact e_v11.symm) (by decide) rfl (fun ls hl => ?_)
          refine lv_goto (tgt := 10) hx hb dX4_putWithin_49 (by decide) ?_
          exact ih y1 y2 v11 σ10 y3o σo h _ _ _ hI (lv_sub hl [1, 2, 3, 0] rfl) kE
  have w_111 : ∀ (n : Nat) (y1 : Int32) (y2 : Int32) (y4 : Int32) (σ : SF) (y4o : Int32) (σo : SF), L_X4_putWithin_111 rec y1 y2 n y4 σ = some (y4o, σo) → ∀ (H : Heap) (locs : List Loc) (ls : Array Slot), zI WF G s σ H locs → lv_has ls 5 [(0, .ref (za G 13)), (1, .int y1), (2, .int y2), (4, .int y4)] → (∀ (H : Heap) (locs : List Loc) (ls : Array Slot), zI WF G s σo H locs → lv_has ls 5 [(0, .ref (za G 13)), (1, .int y1), (2, .int y2), (4, .int y4o)] → W p l e (zR (d + 2)) s m args below meth c H locs 0 0 Q (F0 m 169 ls [])) → W p l e (zR (d + 2)) s m args below meth c H locs 0 0 Q (F0 m 111 ls []) := by
    intro n
    induction n with
    | zero => intro y1 y2 y4 σ y4o σo h; cases h
    | succ n ih =>
      intro y1 y2 y4 σ y4o σo h H locs ls hI hl kE
      unfold L_X4_putWithin_111 at h
      refine lv_iload hx hb dX4_putWithin_111 (lv_at hl 3 rfl) ?_
      refine lv_aload_n hx hb dX4_putWithin_113 rfl (lv_at hl 0 rfl) ?_
      refine gX4_1 hx hb hC hI q_fl_X4_22 dX4_putWithin_114 ?_
      refine gX0_6 isF3 hx hb hC hI q_fl_X4_71 dX4_putWithin_117 ?_
      refine lv_icmp_ge (tgt := 169) hx hb dX4_putWithin_120 (by decide) (fun hc => ?_) (fun hc => ?_)
      · have h := zi_t hc h
        cases h
        exact kE _ _ _ hI (lv_sub hl [0, 1, 2, 3] rfl)
      · have h := zi_f hc h
        refine lv_aload_n hx hb dX4_putWithin_123 rfl (lv_at hl 0 rfl) ?_
        refine lv_iload_n hx hb dX4_putWithin_124 rfl (lv_at hl 1 rfl) ?_
        refine lv_aload_n hx hb dX4_putWithin_125 rfl (lv_at hl 0 rfl) ?_
        refine gX4_1 hx hb hC hI q_fl_X4_22 dX4_putWithin_126 ?_
        refine lv_iload hx hb dX4_putWithin_129 (lv_at hl 3 rfl) ?_
        obtain ⟨r20, h19, h⟩ := zb_e h
        refine z_cVi (As := [.int y4]) (rest := [.int y1, .ref (za G 13)]) hx hb hC (hml.trans hl.1.symm) hI (c_X0_nodeAt l G isF3 h19) yyX0_nodeAt q_ml_X4_72 (oX0 G isF3) rfl ⟨by show _ ≤ (d + 2); omega, by show _ ≤ 100 * (d + 2); omega⟩ rfl rfl (Nat.le_of_ble_eq_true rfl) ⟨Nat.le_refl _, Nat.le_refl _⟩ dX4_putWithin_131 (fun H locs hI => ?_)
        obtain ⟨r22, h21, h⟩ := zb_e h
        refine z_cVi (As := [.int y1, .int r20]) (rest := []) hx hb hC (hml.trans hl.1.symm) hI (c_X4_isBlockIn l G  h21) yyX4_isBlockIn q_ml_X4_76 (oX4 G) rfl ⟨by show _ ≤ (d + 2); omega, by show _ ≤ 100 * (d + 2); omega⟩ rfl rfl (Nat.le_of_ble_eq_true rfl) ⟨Nat.le_refl _, Nat.le_refl _⟩ dX4_putWithin_134 (fun H locs hI => ?_)
        refine lv_if_eq (tgt := 163) hx hb dX4_putWithin_137 (by decide) (fun hc => ?_) (fun hc => ?_)
        · have h := zi_t hc h
          obtain ⟨v23, e_v23⟩ : ∃ y : Int32, y = y4 + 1 := ⟨_, rfl⟩
          have h := zl_e h e_v23
          refine lv_iinc (v := v23) (lv' := [(4, .int v23), (0, .ref (za G 13)), (1, .int y1), (2, .int y2)]) hx hb dX4_putWithin_163 hl (k := 3) rfl (by rw [lc_1]; exact e_v23.symm) (by decide) rfl (fun ls hl => ?_)
          refine lv_goto (tgt := 111) hx hb dX4_putWithin_166 (by decide) ?_
          exact ih y1 y2 v23 σ y4o σo h _ _ _ hI (lv_sub hl [1, 2, 3, 0] rfl) kE
        · have h := zi_f hc h
          refine lv_aload_n hx hb dX4_putWithin_140 rfl (lv_at hl 0 rfl) ?_
          refine lv_sipush (v := 301) hx hb dX4_putWithin_141 ls_301 ?_
          obtain ⟨σ25, h24, h⟩ := zb_e h
          refine z_cVv (As := [.int 301]) (rest := []) hx hb hC (hml.trans hl.1.symm) hI (c_X4_putClosing l G  h24) yyX4_putClosing q_ml_X4_68 (oX4 G) rfl ⟨by show _ ≤ (d + 2); omega, by show _ ≤ 100 * (d + 2); omega⟩ rfl rfl (Nat.le_of_ble_eq_true rfl) ⟨Nat.le_refl _, Nat.le_refl _⟩ dX4_putWithin_144 (fun H locs hI => ?_)
          refine lv_aload_n hx hb dX4_putWithin_147 rfl (lv_at hl 0 rfl) ?_
          refine lv_aload_n hx hb dX4_putWithin_148 rfl (lv_at hl 0 rfl) ?_
          refine gX4_1 hx hb hC hI q_fl_X4_22 dX4_putWithin_149 ?_
          refine lv_iload hx hb dX4_putWithin_152 (lv_at hl 3 rfl) ?_
          obtain ⟨r27, h26, h⟩ := zb_e h
          refine z_cVi (As := [.int y4]) (rest := [.ref (za G 13)]) hx hb hC (hml.trans hl.1.symm) hI (c_X0_nodeAt l G isF3 h26) yyX0_nodeAt q_ml_X4_72 (oX0 G isF3) rfl ⟨by show _ ≤ (d + 2); omega, by show _ ≤ 100 * (d + 2); omega⟩ rfl rfl (Nat.le_of_ble_eq_true rfl) ⟨Nat.le_refl _, Nat.le_refl _⟩ dX4_putWithin_154 (fun H locs hI => ?_)
          refine lv_iload_n hx hb dX4_putWithin_157 rfl (lv_at hl 2 rfl) ?_
          refine lv_iconst (v := 1) hx hb dX4_putWithin_158 lc_1 ?_
          refine lv_iadd hx hb dX4_putWithin_159 ?_
          obtain ⟨σ29, h28, h⟩ := zb_e h
          refine z_cVv (As := [.int r27, .int (y2 + 1)]) (rest := []) hx hb hC (hml.trans hl.1.symm) hI (hrec h28) yyX4_putTree q_ml_X4_48 (oX4 G) rfl ⟨by show _ ≤ (d + 2); omega, by show _ ≤ 100 * (d + 2); omega⟩ rfl rfl (Nat.le_of_ble_eq_true rfl) ⟨Nat.le_refl _, Nat.le_refl _⟩ dX4_putWithin_160 (fun H locs hI => ?_)
          obtain ⟨v30, e_v30⟩ : ∃ y : Int32, y = y4 + 1 := ⟨_, rfl⟩
          have h := zl_e h e_v30
          refine lv_iinc (v := v30) (lv' := [(4, .int v30), (0, .ref (za G 13)), (1, .int y1), (2, .int y2)]) hx hb dX4_putWithin_163 hl (k := 3) rfl (by rw [lc_1]; exact e_v30.symm) (by decide) rfl (fun ls hl => ?_)
          refine lv_goto (tgt := 111) hx hb dX4_putWithin_166 (by decide) ?_
          exact ih y1 y2 v30 σ29 y4o σo h _ _ _ hI (lv_sub hl [1, 2, 3, 0] rfl) kE
  unfold F_X4_putWithin at h
  refine lv_aload_n hx hb dX4_putWithin_0 rfl (lv_at hl 0 rfl) ?_
  refine gX4_1 hx hb hC hI q_fl_X4_22 dX4_putWithin_1 ?_
  refine gX0_6 isF3 hx hb hC hI q_fl_X4_71 dX4_putWithin_4 ?_
  refine lv_iconst (v := 1) hx hb dX4_putWithin_7 lc_1 ?_
  refine lv_isub hx hb dX4_putWithin_8 ?_
  refine lv_topi (fun v1 e_v1 => ?_)
  have h := zl_e h e_v1
  refine lv_istore_n (lv' := [(3, .int v1), (0, .ref (za G 13)), (1, .int x1), (2, .int x2)]) hx hb dX4_putWithin_9 rfl hl (by decide) rfl (fun ls hl => ?_)
  obtain ⟨v12, σ13, h14, h⟩ := zb2_e h
  refine w_10 100 x1 x2 v1 σ v12 σ13 h14 _ _ _ hI (lv_sub hl [1, 2, 3, 0] rfl) (fun H locs ls hI hl => ?_)
  refine lv_aload_n hx hb dX4_putWithin_52 rfl (lv_at hl 0 rfl) ?_
  refine lv_iload_n hx hb dX4_putWithin_53 rfl (lv_at hl 1 rfl) ?_
  obtain ⟨σ16, h15, h⟩ := zb_e h
  refine z_cVv (As := [.int x1]) (rest := []) hx hb hC (hml.trans hl.1.symm) hI (c_X4_put l G  h15) yyX4_put q_ml_X4_80 (oX4 G) rfl ⟨by show _ ≤ (d + 2); omega, by show _ ≤ 100 * (d + 2); omega⟩ rfl rfl (Nat.le_of_ble_eq_true rfl) ⟨Nat.le_refl _, Nat.le_refl _⟩ dX4_putWithin_54 (fun H locs hI => ?_)
  refine lv_aload_n hx hb dX4_putWithin_57 rfl (lv_at hl 0 rfl) ?_
  refine gX4_0 hx hb hC hI q_fl_X4_18 dX4_putWithin_58 ?_
  refine gX1_1 isJ3 hx hb hC hI q_fl_X4_83 dX4_putWithin_61 ?_
  refine lv_iload_n hx hb dX4_putWithin_64 rfl (lv_at hl 1 rfl) ?_
  obtain ⟨hg, h⟩ := zg_e h
  refine z_iald hx hb hC hI (vX1_1 G isJ3) hg dX4_putWithin_65 ?_
  obtain ⟨r18, h17, h⟩ := zb_e h
  refine z_cNi (As := [.int (σ16 (3 + 1) (x1 : Int32).toNatClampNeg)]) (rest := []) hx hb hC (hml.trans hl.1.symm) hI (c_X6_endsOf l G  (σ := σ16) h17) yyX6_endsOf q_nl_X4_86 ⟨by show _ ≤ (d + 2); omega, by show _ ≤ 100 * (d + 2); omega⟩ rfl rfl (Nat.le_of_ble_eq_true rfl) ⟨Nat.le_refl _, Nat.le_refl _⟩ dX4_putWithin_66 (fun H locs hI => ?_)
  refine lv_istore_n (lv' := [(3, .int r18), (0, .ref (za G 13)), (1, .int x1), (2, .int x2)]) hx hb dX4_putWithin_69 rfl hl (by decide) rfl (fun ls hl => ?_)
  refine lv_iload_n hx hb dX4_putWithin_70 rfl (lv_at hl 0 rfl) ?_
  refine lv_iconst (v := 1) hx hb dX4_putWithin_71 lc_1 ?_
  refine lv_icmp_lt (tgt := 82) hx hb dX4_putWithin_72 (by decide) (fun hc => ?_) (fun hc => ?_)
  · have h := zi_t hc h
    refine lv_iload_n hx hb dX4_putWithin_82 rfl (lv_at hl 0 rfl) ?_
    refine lv_iconst (v := 2) hx hb dX4_putWithin_83 lc_2 ?_
    refine lv_icmp_ne (tgt := 108) hx hb dX4_putWithin_84 (by decide) (fun hc => ?_) (fun hc => ?_)
    · have h := zi_f hc h
      refine lv_iconst (v := 1) hx hb dX4_putWithin_108 lc_1 ?_
      refine lv_istore (lv' := [(4, .int 1), (3, .int r18), (0, .ref (za G 13)), (1, .int x1), (2, .int x2)]) hx hb dX4_putWithin_109 hl (by decide) rfl (fun ls hl => ?_)
      obtain ⟨v31, σ32, h33, h⟩ := zb2_e h
      refine w_111 100 x1 x2 1 σ16 v31 σ32 h33 _ _ _ hI (lv_sub hl [2, 3, 4, 0] rfl) (fun H locs ls hI hl => ?_)
      exact hret (Option.some.inj h) hI dX4_putWithin_169
    · have h := zi_t hc h
      refine lv_aload_n hx hb dX4_putWithin_87 rfl (lv_at hl 1 rfl) ?_
      refine lv_sipush (v := 400) hx hb dX4_putWithin_88 ls_400 ?_
      obtain ⟨σ35, h34, h⟩ := zb_e h
      refine z_cVv (As := [.int 400]) (rest := []) hx hb hC (hml.trans hl.1.symm) hI (c_X4_put l G  h34) yyX4_put q_ml_X4_80 (oX4 G) rfl ⟨by show _ ≤ (d + 2); omega, by show _ ≤ 100 * (d + 2); omega⟩ rfl rfl (Nat.le_of_ble_eq_true rfl) ⟨Nat.le_refl _, Nat.le_refl _⟩ dX4_putWithin_91 (fun H locs hI => ?_)
      refine lv_aload_n hx hb dX4_putWithin_94 rfl (lv_at hl 1 rfl) ?_
      refine lv_iload_n hx hb dX4_putWithin_95 rfl (lv_at hl 2 rfl) ?_
      refine lv_iconst (v := 1) hx hb dX4_putWithin_96 lc_1 ?_
      refine lv_iload_n hx hb dX4_putWithin_97 rfl (lv_at hl 3 rfl) ?_
      obtain ⟨σ37, h36, h⟩ := zb_e h
      refine z_cVv (As := [.int x1, .int 1, .int x2]) (rest := []) hx hb hC (hml.trans hl.1.symm) hI (c_X4_putBranch l G  hd hrec h36) yyX4_putBranch q_ml_X4_89 (oX4 G) rfl ⟨by show _ ≤ (d + 2); omega, by show _ ≤ 100 * (d + 2); omega⟩ rfl rfl (Nat.le_of_ble_eq_true rfl) ⟨Nat.le_refl _, Nat.le_refl _⟩ dX4_putWithin_98 (fun H locs hI => ?_)
      refine lv_aload_n hx hb dX4_putWithin_101 rfl (lv_at hl 1 rfl) ?_
      refine lv_sipush (v := 401) hx hb dX4_putWithin_102 ls_401 ?_
      obtain ⟨σ39, h38, h⟩ := zb_e h
      refine z_cVv (As := [.int 401]) (rest := []) hx hb hC (hml.trans hl.1.symm) hI (c_X4_put l G  h38) yyX4_put q_ml_X4_80 (oX4 G) rfl ⟨by show _ ≤ (d + 2); omega, by show _ ≤ 100 * (d + 2); omega⟩ rfl rfl (Nat.le_of_ble_eq_true rfl) ⟨Nat.le_refl _, Nat.le_refl _⟩ dX4_putWithin_105 (fun H locs hI => ?_)
      refine lv_iconst (v := 1) hx hb dX4_putWithin_108 lc_1 ?_
      refine lv_istore (lv' := [(4, .int 1), (3, .int r18), (0, .ref (za G 13)), (1, .int x1), (2, .int x2)]) hx hb dX4_putWithin_109 hl (by decide) rfl (fun ls hl => ?_)
      obtain ⟨v40, σ41, h42, h⟩ := zb2_e h
      refine w_111 100 x1 x2 1 σ39 v40 σ41 h42 _ _ _ hI (lv_sub hl [2, 3, 4, 0] rfl) (fun H locs ls hI hl => ?_)
      exact hret (Option.some.inj h) hI dX4_putWithin_169
  · have h := zi_f hc h
    refine lv_aload_n hx hb dX4_putWithin_75 rfl (lv_at hl 1 rfl) ?_
    refine lv_iload_n hx hb dX4_putWithin_76 rfl (lv_at hl 2 rfl) ?_
    refine lv_iconst (v := 0) hx hb dX4_putWithin_77 lc_0 ?_
    refine lv_iload_n hx hb dX4_putWithin_78 rfl (lv_at hl 3 rfl) ?_
    obtain ⟨σ44, h43, h⟩ := zb_e h
    refine z_cVv (As := [.int x1, .int 0, .int x2]) (rest := []) hx hb hC (hml.trans hl.1.symm) hI (c_X4_putBranch l G  hd hrec h43) yyX4_putBranch q_ml_X4_89 (oX4 G) rfl ⟨by show _ ≤ (d + 2); omega, by show _ ≤ 100 * (d + 2); omega⟩ rfl rfl (Nat.le_of_ble_eq_true rfl) ⟨Nat.le_refl _, Nat.le_refl _⟩ dX4_putWithin_79 (fun H locs hI => ?_)
    refine lv_iload_n hx hb dX4_putWithin_82 rfl (lv_at hl 0 rfl) ?_
    refine lv_iconst (v := 2) hx hb dX4_putWithin_83 lc_2 ?_
    refine lv_icmp_ne (tgt := 108) hx hb dX4_putWithin_84 (by decide) (fun hc => ?_) (fun hc => ?_)
    · have h := zi_f hc h
      refine lv_iconst (v := 1) hx hb dX4_putWithin_108 lc_1 ?_
      refine lv_istore (lv' := [(4, .int 1), (3, .int r18), (0, .ref (za G 13)), (1, .int x1), (2, .int x2)]) hx hb dX4_putWithin_109 hl (by decide) rfl (fun ls hl => ?_)
      obtain ⟨v45, σ46, h47, h⟩ := zb2_e h
      refine w_111 100 x1 x2 1 σ44 v45 σ46 h47 _ _ _ hI (lv_sub hl [2, 3, 4, 0] rfl) (fun H locs ls hI hl => ?_)
      exact hret (Option.some.inj h) hI dX4_putWithin_169
    · have h := zi_t hc h
      refine lv_aload_n hx hb dX4_putWithin_87 rfl (lv_at hl 1 rfl) ?_
      refine lv_sipush (v := 400) hx hb dX4_putWithin_88 ls_400 ?_
      obtain ⟨σ49, h48, h⟩ := zb_e h
      refine z_cVv (As := [.int 400]) (rest := []) hx hb hC (hml.trans hl.1.symm) hI (c_X4_put l G  h48) yyX4_put q_ml_X4_80 (oX4 G) rfl ⟨by show _ ≤ (d + 2); omega, by show _ ≤ 100 * (d + 2); omega⟩ rfl rfl (Nat.le_of_ble_eq_true rfl) ⟨Nat.le_refl _, Nat.le_refl _⟩ dX4_putWithin_91 (fun H locs hI => ?_)
      refine lv_aload_n hx hb dX4_putWithin_94 rfl (lv_at hl 1 rfl) ?_
      refine lv_iload_n hx hb dX4_putWithin_95 rfl (lv_at hl 2 rfl) ?_
      refine lv_iconst (v := 1) hx hb dX4_putWithin_96 lc_1 ?_
      refine lv_iload_n hx hb dX4_putWithin_97 rfl (lv_at hl 3 rfl) ?_
      obtain ⟨σ51, h50, h⟩ := zb_e h
      refine z_cVv (As := [.int x1, .int 1, .int x2]) (rest := []) hx hb hC (hml.trans hl.1.symm) hI (c_X4_putBranch l G  hd hrec h50) yyX4_putBranch q_ml_X4_89 (oX4 G) rfl ⟨by show _ ≤ (d + 2); omega, by show _ ≤ 100 * (d + 2); omega⟩ rfl rfl (Nat.le_of_ble_eq_true rfl) ⟨Nat.le_refl _, Nat.le_refl _⟩ dX4_putWithin_98 (fun H locs hI => ?_)
      refine lv_aload_n hx hb dX4_putWithin_101 rfl (lv_at hl 1 rfl) ?_
      refine lv_sipush (v := 401) hx hb dX4_putWithin_102 ls_401 ?_
      obtain ⟨σ53, h52, h⟩ := zb_e h
      refine z_cVv (As := [.int 401]) (rest := []) hx hb hC (hml.trans hl.1.symm) hI (c_X4_put l G  h52) yyX4_put q_ml_X4_80 (oX4 G) rfl ⟨by show _ ≤ (d + 2); omega, by show _ ≤ 100 * (d + 2); omega⟩ rfl rfl (Nat.le_of_ble_eq_true rfl) ⟨Nat.le_refl _, Nat.le_refl _⟩ dX4_putWithin_105 (fun H locs hI => ?_)
      refine lv_iconst (v := 1) hx hb dX4_putWithin_108 lc_1 ?_
      refine lv_istore (lv' := [(4, .int 1), (3, .int r18), (0, .ref (za G 13)), (1, .int x1), (2, .int x2)]) hx hb dX4_putWithin_109 hl (by decide) rfl (fun ls hl => ?_)
      obtain ⟨v54, σ55, h56, h⟩ := zb2_e h
      refine w_111 100 x1 x2 1 σ53 v54 σ55 h56 _ _ _ hI (lv_sub hl [2, 3, 4, 0] rfl) (fun H locs ls hI hl => ?_)
      exact hret (Option.some.inj h) hI dX4_putWithin_169
set_option maxRecDepth 100000 in
set_option maxHeartbeats 4000000 in
theorem cb_X4_putTree (l : Launch) (G : zG)  {d : Nat} (hd : 8 ≤ d) {rec : SF → Int32 → Int32 → Option SF} (hrec : ∀ {σ : SF} {x1 x2 : Int32} {σ' : SF}, rec σ x1 x2 = some σ' → zMv l WF G yX4_putTree cX4_putTree 4 d [.ref (za G 13), .int x1, .int x2] σ σ') {σ σ' : SF} {x1 : Int32} {x2 : Int32} (h : B_X4_putTree rec σ  x1 x2 = some σ') : zMv l WF G yX4_putTree cX4_putTree 4 (d + 3) [.ref (za G 13), .int x1, .int x2] σ σ' := by
  refine zMv_of (by decide) (Nat.le_of_ble_eq_true rfl) (fun p e s m args below meth c ls Q hx hb hr hlk hml hC hI hl hret => ?_)
  have hl : lv_has ls 4 [(0, .ref (za G 13)), (1, .int x1), (2, .int x2)] := hl
  have hC : zC WF G RX4 args s m := hC
  unfold B_X4_putTree at h
  refine lv_aload_n hx hb dX4_putTree_0 rfl (lv_at hl 0 rfl) ?_
  refine gX4_0 hx hb hC hI q_fl_X4_18 dX4_putTree_1 ?_
  refine lv_iload_n hx hb dX4_putTree_4 rfl (lv_at hl 1 rfl) ?_
  obtain ⟨r2, h1, h⟩ := zb_e h
  refine z_cVi (As := [.int x1]) (rest := []) hx hb hC (hml.trans hl.1.symm) hI (c_X1_has l G isJ3 h1) yyX1_has q_ml_X4_52 (oX1 G isJ3) rfl ⟨by show _ ≤ (d + 3); omega, by show _ ≤ 100 * (d + 3); omega⟩ rfl rfl (Nat.le_of_ble_eq_true rfl) ⟨Nat.le_refl _, Nat.le_refl _⟩ dX4_putTree_5 (fun H locs hI => ?_)
  refine lv_if_eq (tgt := 17) hx hb dX4_putTree_8 (by decide) (fun hc => ?_) (fun hc => ?_)
  · have h := zi_t hc h
    exact hret (Option.some.inj h) hI dX4_putTree_17
  · have h := zi_f hc h
    refine lv_iload_n hx hb dX4_putTree_11 rfl (lv_at hl 2 rfl) ?_
    refine lv_bipush (v := 8) hx hb dX4_putTree_12 lb_8 ?_
    refine lv_icmp_lt (tgt := 18) hx hb dX4_putTree_14 (by decide) (fun hc => ?_) (fun hc => ?_)
    · have h := zi_t hc h
      refine lv_aload_n hx hb dX4_putTree_18 rfl (lv_at hl 0 rfl) ?_
      refine gX4_1 hx hb hC hI q_fl_X4_22 dX4_putTree_19 ?_
      refine lv_iload_n hx hb dX4_putTree_22 rfl (lv_at hl 1 rfl) ?_
      obtain ⟨r4, h3, h⟩ := zb_e h
      refine z_cVi (As := [.int x1]) (rest := []) hx hb hC (hml.trans hl.1.symm) hI (c_X0_isHead l G isF3 h3) yyX0_isHead q_ml_X4_58 (oX0 G isF3) rfl ⟨by show _ ≤ (d + 3); omega, by show _ ≤ 100 * (d + 3); omega⟩ rfl rfl (Nat.le_of_ble_eq_true rfl) ⟨Nat.le_refl _, Nat.le_refl _⟩ dX4_putTree_23 (fun H locs hI => ?_)
      refine lv_istore_n (lv' := [(3, .int r4), (0, .ref (za G 13)), (1, .int x1), (2, .int x2)]) hx hb dX4_putTree_26 rfl hl (by decide) rfl (fun ls hl => ?_)
      refine lv_iload_n hx hb dX4_putTree_27 rfl (lv_at hl 0 rfl) ?_
      refine lv_if_eq (tgt := 39) hx hb dX4_putTree_28 (by decide) (fun hc => ?_) (fun hc => ?_)
      · have h := zi_t hc h
        refine lv_aload_n hx hb dX4_putTree_39 rfl (lv_at hl 1 rfl) ?_
        refine lv_iload_n hx hb dX4_putTree_40 rfl (lv_at hl 2 rfl) ?_
        refine lv_iload_n hx hb dX4_putTree_41 rfl (lv_at hl 3 rfl) ?_
        obtain ⟨σ6, h5, h⟩ := zb_e h
        refine z_cVv (As := [.int x1, .int x2]) (rest := []) hx hb hC (hml.trans hl.1.symm) hI (c_X4_putWithin l G  hd hrec h5) yyX4_putWithin q_ml_X4_65 (oX4 G) rfl ⟨by show _ ≤ (d + 3); omega, by show _ ≤ 100 * (d + 3); omega⟩ rfl rfl (Nat.le_of_ble_eq_true rfl) ⟨Nat.le_refl _, Nat.le_refl _⟩ dX4_putTree_42 (fun H locs hI => ?_)
        refine lv_iload_n hx hb dX4_putTree_45 rfl (lv_at hl 0 rfl) ?_
        refine lv_if_eq (tgt := 56) hx hb dX4_putTree_46 (by decide) (fun hc => ?_) (fun hc => ?_)
        · have h := zi_t hc h
          exact hret (Option.some.inj h) hI dX4_putTree_56
        · have h := zi_f hc h
          refine lv_aload_n hx hb dX4_putTree_49 rfl (lv_at hl 1 rfl) ?_
          refine lv_sipush (v := 300) hx hb dX4_putTree_50 ls_300 ?_
          obtain ⟨σ8, h7, h⟩ := zb_e h
          refine z_cVv (As := [.int 300]) (rest := []) hx hb hC (hml.trans hl.1.symm) hI (c_X4_putClosing l G  h7) yyX4_putClosing q_ml_X4_68 (oX4 G) rfl ⟨by show _ ≤ (d + 3); omega, by show _ ≤ 100 * (d + 3); omega⟩ rfl rfl (Nat.le_of_ble_eq_true rfl) ⟨Nat.le_refl _, Nat.le_refl _⟩ dX4_putTree_53 (fun H locs hI => ?_)
          exact hret (Option.some.inj h) hI dX4_putTree_56
      · have h := zi_f hc h
        refine lv_aload_n hx hb dX4_putTree_31 rfl (lv_at hl 1 rfl) ?_
        refine lv_bipush (v := 100) hx hb dX4_putTree_32 lb_100 ?_
        refine lv_iload_n hx hb dX4_putTree_34 rfl (lv_at hl 2 rfl) ?_
        refine lv_iadd hx hb dX4_putTree_35 ?_
        obtain ⟨σ10, h9, h⟩ := zb_e h
        refine z_cVv (As := [.int ((100 : Int32) + x1)]) (rest := []) hx hb hC (hml.trans hl.1.symm) hI (c_X4_putOpening l G  h9) yyX4_putOpening q_ml_X4_61 (oX4 G) rfl ⟨by show _ ≤ (d + 3); omega, by show _ ≤ 100 * (d + 3); omega⟩ rfl rfl (Nat.le_of_ble_eq_true rfl) ⟨Nat.le_refl _, Nat.le_refl _⟩ dX4_putTree_36 (fun H locs hI => ?_)
        refine lv_aload_n hx hb dX4_putTree_39 rfl (lv_at hl 1 rfl) ?_
        refine lv_iload_n hx hb dX4_putTree_40 rfl (lv_at hl 2 rfl) ?_
        refine lv_iload_n hx hb dX4_putTree_41 rfl (lv_at hl 3 rfl) ?_
        obtain ⟨σ12, h11, h⟩ := zb_e h
        refine z_cVv (As := [.int x1, .int x2]) (rest := []) hx hb hC (hml.trans hl.1.symm) hI (c_X4_putWithin l G  hd hrec h11) yyX4_putWithin q_ml_X4_65 (oX4 G) rfl ⟨by show _ ≤ (d + 3); omega, by show _ ≤ 100 * (d + 3); omega⟩ rfl rfl (Nat.le_of_ble_eq_true rfl) ⟨Nat.le_refl _, Nat.le_refl _⟩ dX4_putTree_42 (fun H locs hI => ?_)
        refine lv_iload_n hx hb dX4_putTree_45 rfl (lv_at hl 0 rfl) ?_
        refine lv_if_eq (tgt := 56) hx hb dX4_putTree_46 (by decide) (fun hc => ?_) (fun hc => ?_)
        · have h := zi_t hc h
          exact hret (Option.some.inj h) hI dX4_putTree_56
        · have h := zi_f hc h
          refine lv_aload_n hx hb dX4_putTree_49 rfl (lv_at hl 1 rfl) ?_
          refine lv_sipush (v := 300) hx hb dX4_putTree_50 ls_300 ?_
          obtain ⟨σ14, h13, h⟩ := zb_e h
          refine z_cVv (As := [.int 300]) (rest := []) hx hb hC (hml.trans hl.1.symm) hI (c_X4_putClosing l G  h13) yyX4_putClosing q_ml_X4_68 (oX4 G) rfl ⟨by show _ ≤ (d + 3); omega, by show _ ≤ 100 * (d + 3); omega⟩ rfl rfl (Nat.le_of_ble_eq_true rfl) ⟨Nat.le_refl _, Nat.le_refl _⟩ dX4_putTree_53 (fun H locs hI => ?_)
          exact hret (Option.some.inj h) hI dX4_putTree_56
    · have h := zi_f hc h
      exact hret (Option.some.inj h) hI dX4_putTree_17
theorem c_X4_putTree (l : Launch) (G : zG)  : ∀ (n : Nat) {σ σ' : SF} {x1 : Int32} {x2 : Int32}, F_X4_putTree n σ  x1 x2 = some σ' → zMv l WF G yX4_putTree cX4_putTree 4 (8 + 3 * n) [.ref (za G 13), .int x1, .int x2] σ σ'
  | 0 => fun h => by cases h
  | n + 1 => fun h => cb_X4_putTree l G  (d := 8 + 3 * n) (by omega) (fun h => c_X4_putTree l G  n h) h
set_option maxRecDepth 100000 in
set_option maxHeartbeats 4000000 in
theorem c_X4_write (l : Launch) (G : zG)  {σ σ' : SF} (h : F_X4_write σ   = some σ') : zMv l WF G yX4_write cX4_write 1 36 [.ref (za G 13)] σ σ' := by
  refine zMv_of (by decide) (Nat.le_of_ble_eq_true rfl) (fun p e s m args below meth c ls Q hx hb hr hlk hml hC hI hl hret => ?_)
  have hl : lv_has ls 1 [(0, .ref (za G 13))] := hl
  have hC : zC WF G RX4 args s m := hC
  unfold F_X4_write at h
  refine lv_aload_n hx hb dX4_write_0 rfl (lv_at hl 0 rfl) ?_
  refine lv_iconst (v := 0) hx hb dX4_write_1 lc_0 ?_
  refine pX4_3 hx hb hC hI q_fl_X4_26 dX4_write_2 (fun σ1 H locs e_σ1 hI => ?_)
  have h := zl_e h e_σ1
  refine lv_aload_n hx hb dX4_write_5 rfl (lv_at hl 0 rfl) ?_
  refine lv_iconst (v := 0) hx hb dX4_write_6 lc_0 ?_
  refine pX4_4 hx hb hC hI q_fl_X4_30 dX4_write_7 (fun σ2 H locs e_σ2 hI => ?_)
  have h := zl_e h e_σ2
  refine lv_aload_n hx hb dX4_write_10 rfl (lv_at hl 0 rfl) ?_
  refine lv_iconst (v := 0) hx hb dX4_write_11 lc_0 ?_
  refine pX4_5 hx hb hC hI q_fl_X4_33 dX4_write_12 (fun σ3 H locs e_σ3 hI => ?_)
  have h := zl_e h e_σ3
  refine lv_aload_n hx hb dX4_write_15 rfl (lv_at hl 0 rfl) ?_
  refine lv_iconst (v := 0) hx hb dX4_write_16 lc_0 ?_
  refine pX4_6 hx hb hC hI q_fl_X4_36 dX4_write_17 (fun σ4 H locs e_σ4 hI => ?_)
  have h := zl_e h e_σ4
  refine lv_aload_n hx hb dX4_write_20 rfl (lv_at hl 0 rfl) ?_
  refine lv_iconst (v := 0) hx hb dX4_write_21 lc_0 ?_
  refine pX4_8 hx hb hC hI q_fl_X4_39 dX4_write_22 (fun σ5 H locs e_σ5 hI => ?_)
  have h := zl_e h e_σ5
  refine lv_aload_n hx hb dX4_write_25 rfl (lv_at hl 0 rfl) ?_
  refine gX4_1 hx hb hC hI q_fl_X4_22 dX4_write_26 ?_
  obtain ⟨r7, h6, h⟩ := zb_e h
  refine z_cVi (As := []) (rest := []) hx hb hC (hml.trans hl.1.symm) hI (c_X0_folds l G isF3 h6) yyX0_folds q_ml_X4_42 (oX0 G isF3) rfl ⟨Nat.le_of_ble_eq_true rfl, Nat.le_of_ble_eq_true rfl⟩ rfl rfl (Nat.le_of_ble_eq_true rfl) ⟨Nat.le_refl _, Nat.le_refl _⟩ dX4_write_29 (fun H locs hI => ?_)
  refine lv_if_eq (tgt := 41) hx hb dX4_write_32 (by decide) (fun hc => ?_) (fun hc => ?_)
  · have h := zi_t hc h
    exact hret (Option.some.inj h) hI dX4_write_41
  · have h := zi_f hc h
    refine lv_aload_n hx hb dX4_write_35 rfl (lv_at hl 0 rfl) ?_
    refine lv_iconst (v := 0) hx hb dX4_write_36 lc_0 ?_
    refine lv_iconst (v := 0) hx hb dX4_write_37 lc_0 ?_
    obtain ⟨σ9, h8, h⟩ := zb_e h
    refine z_cVv (As := [.int 0, .int 0]) (rest := []) hx hb hC (hml.trans hl.1.symm) hI (c_X4_putTree l G  9 h8) yyX4_putTree q_ml_X4_48 (oX4 G) rfl ⟨Nat.le_of_ble_eq_true rfl, Nat.le_of_ble_eq_true rfl⟩ rfl rfl (Nat.le_of_ble_eq_true rfl) ⟨Nat.le_refl _, Nat.le_refl _⟩ dX4_write_38 (fun H locs hI => ?_)
    exact hret (Option.some.inj h) hI dX4_write_41
set_option maxRecDepth 100000 in
set_option maxHeartbeats 4000000 in
theorem c_X5_go (l : Launch) (G : zG)  {σ σ' : SF} {x2 : Int32} (h : F_X5_go σ  x2 = some σ') : zMv l WF G yX5_go cX5_go 6 3 [.ref (za G 16), .ref (za G 3), .int x2] σ σ' := by
  refine zMv_of (by decide) (Nat.le_of_ble_eq_true rfl) (fun p e s m args below meth c ls Q hx hb hr hlk hml hC hI hl hret => ?_)
  have hl : lv_has ls 6 [(0, .ref (za G 16)), (1, .ref (za G 3)), (2, .int x2)] := hl
  have hC : zC WF G RX5 args s m := hC
  have w_18 : ∀ (n : Nat) (y3 : Int32) (y4 : Int32) (σ : SF) (y3o : Int32) (y4o : Int32) (σo : SF), L_X5_go_18 n y3 y4 σ = some (y3o, y4o, σo) → ∀ (H : Heap) (locs : List Loc) (ls : Array Slot), zI WF G s σ H locs → lv_has ls 6 [(0, .ref (za G 16)), (1, .ref (za G 3)), (3, .int y3), (4, .int y4)] → (∀ (H : Heap) (locs : List Loc) (ls : Array Slot), zI WF G s σo H locs → lv_has ls 6 [(0, .ref (za G 16)), (1, .ref (za G 3)), (3, .int y3o), (4, .int y4o)] → W p l e (zR 3) s m args below meth c H locs 0 0 Q (F0 m 131 ls [])) → W p l e (zR 3) s m args below meth c H locs 0 0 Q (F0 m 18 ls []) := by
    intro n
    induction n with
    | zero => intro y3 y4 σ y3o y4o σo h; cases h
    | succ n ih =>
      intro y3 y4 σ y3o y4o σo h H locs ls hI hl kE
      unfold L_X5_go_18 at h
      refine lv_aload_n hx hb dX5_go_18 rfl (lv_at hl 0 rfl) ?_
      refine gX5_1 hx hb hC hI q_fl_X5_24 dX5_go_19 ?_
      refine lv_aload_n hx hb dX5_go_22 rfl (lv_at hl 0 rfl) ?_
      refine gX5_0 hx hb hC hI q_fl_X5_9 dX5_go_23 ?_
      refine z_alen hx hb hC hI (vX5_0 G) (v := 30) rfl dX5_go_26 ?_
      refine lv_icmp_ge (tgt := 131) hx hb dX5_go_27 (by decide) (fun hc => ?_) (fun hc => ?_)
      · have h := zi_t hc h
        cases h
        exact kE _ _ _ hI (lv_sub hl [0, 1, 2, 3] rfl)
      · have h := zi_f hc h
        refine lv_aload_n hx hb dX5_go_30 rfl (lv_at hl 1 rfl) ?_
        refine lv_iload hx hb dX5_go_31 (lv_at hl 3 rfl) ?_
        obtain ⟨r5, h4, h⟩ := zb_e h
        refine z_cVi (As := [.int y4]) (rest := []) hx hb hC (hml.trans hl.1.symm) hI (c_X1_has l G isJ3 h4) yyX1_has q_ml_X5_28 (oX1 G isJ3) rfl ⟨Nat.le_of_ble_eq_true rfl, Nat.le_of_ble_eq_true rfl⟩ rfl rfl (Nat.le_of_ble_eq_true rfl) ⟨Nat.le_refl _, Nat.le_refl _⟩ dX5_go_33 (fun H locs hI => ?_)
        refine lv_if_eq (tgt := 131) hx hb dX5_go_36 (by decide) (fun hc => ?_) (fun hc => ?_)
        · have h := zi_t hc h
          cases h
          exact kE _ _ _ hI (lv_sub hl [0, 1, 2, 3] rfl)
        · have h := zi_f hc h
          refine lv_aload_n hx hb dX5_go_39 rfl (lv_at hl 0 rfl) ?_
          refine gX5_0 hx hb hC hI q_fl_X5_9 dX5_go_40 ?_
          refine lv_aload_n hx hb dX5_go_43 rfl (lv_at hl 0 rfl) ?_
          refine gX5_1 hx hb hC hI q_fl_X5_24 dX5_go_44 ?_
          refine lv_iload hx hb dX5_go_47 (lv_at hl 3 rfl) ?_
          obtain ⟨hg, h⟩ := zg_e h
          refine z_iast hx hb hC hI (vX5_0 G) hg dX5_go_49 (fun σ6 H locs e_σ6 hI => ?_)
          have h := zl_e h e_σ6
          refine lv_aload_n hx hb dX5_go_50 rfl (lv_at hl 0 rfl) ?_
          refine lv_dup hx hb dX5_go_51 rfl ?_
          refine gX5_1 hx hb hC hI q_fl_X5_24 dX5_go_52 ?_
          refine lv_iconst (v := 1) hx hb dX5_go_55 lc_1 ?_
          refine lv_iadd hx hb dX5_go_56 ?_
          refine pX5_1 hx hb hC hI q_fl_X5_24 dX5_go_57 (fun σ7 H locs e_σ7 hI => ?_)
          have h := zl_e h e_σ7
          refine lv_aload_n hx hb dX5_go_60 rfl (lv_at hl 0 rfl) ?_
          refine gX5_2 hx hb hC hI q_fl_X5_15 dX5_go_61 ?_
          refine lv_iload hx hb dX5_go_64 (lv_at hl 3 rfl) ?_
          refine lv_dup2_11 hx hb dX5_go_66 rfl rfl ?_
          obtain ⟨hg, h⟩ := zg_e h
          refine z_iald hx hb hC hI (vX5_2 G) hg dX5_go_67 ?_
          refine lv_iconst (v := 1) hx hb dX5_go_68 lc_1 ?_
          refine lv_iadd hx hb dX5_go_69 ?_
          obtain ⟨hg, h⟩ := zg_e h
          refine z_iast hx hb hC hI (vX5_2 G) hg dX5_go_70 (fun σ8 H locs e_σ8 hI => ?_)
          have h := zl_e h e_σ8
          refine lv_aload_n hx hb dX5_go_71 rfl (lv_at hl 1 rfl) ?_
          refine gX1_1 isJ3 hx hb hC hI q_fl_X5_34 dX5_go_72 ?_
          refine lv_iload hx hb dX5_go_75 (lv_at hl 3 rfl) ?_
          obtain ⟨hg, h⟩ := zg_e h
          refine z_iald hx hb hC hI (vX1_1 G isJ3) hg dX5_go_77 ?_
          refine lv_aload_n hx hb dX5_go_78 rfl (lv_at hl 0 rfl) ?_
          refine gX5_2 hx hb hC hI q_fl_X5_15 dX5_go_79 ?_
          refine lv_iload hx hb dX5_go_82 (lv_at hl 3 rfl) ?_
          obtain ⟨hg, h⟩ := zg_e h
          refine z_iald hx hb hC hI (vX5_2 G) hg dX5_go_84 ?_
          refine lv_iload_n hx hb dX5_go_85 rfl (lv_at hl 2 rfl) ?_
          refine lv_iconst (v := 1) hx hb dX5_go_86 lc_1 ?_
          refine lv_iand hx hb dX5_go_87 ?_
          obtain ⟨r10, h9, h⟩ := zb_e h
          refine z_cNi (As := [.int (σ8 (3 + 1) (y4 : Int32).toNatClampNeg), .int (σ8 18 (y4 : Int32).toNatClampNeg), .int (y3 &&& 1)]) (rest := []) hx hb hC (hml.trans hl.1.symm) hI (c_X6_doesAt l G  (σ := σ8) h9) yyX6_doesAt q_nl_X5_37 ⟨Nat.le_of_ble_eq_true rfl, Nat.le_of_ble_eq_true rfl⟩ rfl rfl (Nat.le_of_ble_eq_true rfl) ⟨Nat.le_refl _, Nat.le_refl _⟩ dX5_go_88 (fun H locs hI => ?_)
          refine lv_istore (lv' := [(5, .int r10), (0, .ref (za G 16)), (1, .ref (za G 3)), (3, .int y3), (4, .int y4)]) hx hb dX5_go_91 hl (by decide) rfl (fun ls hl => ?_)
          refine lv_aload_n hx hb dX5_go_93 rfl (lv_at hl 2 rfl) ?_
          refine gX1_1 isJ3 hx hb hC hI q_fl_X5_34 dX5_go_94 ?_
          refine lv_iload hx hb dX5_go_97 (lv_at hl 4 rfl) ?_
          obtain ⟨hg, h⟩ := zg_e h
          refine z_iald hx hb hC hI (vX1_1 G isJ3) hg dX5_go_99 ?_
          refine lv_iconst (v := 1) hx hb dX5_go_100 lc_1 ?_
          refine lv_icmp_ne (tgt := 108) hx hb dX5_go_101 (by decide) (fun hc => ?_) (fun hc => ?_)
          · have h := zi_f hc h
            refine lv_iload hx hb dX5_go_108 (lv_at hl 0 rfl) ?_
            refine lv_iconst (v := 2) hx hb dX5_go_110 lc_2 ?_
            refine lv_icmp_ne (tgt := 118) hx hb dX5_go_111 (by decide) (fun hc => ?_) (fun hc => ?_)
            · have h := zi_f hc h
              refine lv_aload_n hx hb dX5_go_118 rfl (lv_at hl 2 rfl) ?_
              refine lv_iload hx hb dX5_go_119 (lv_at hl 4 rfl) ?_
              refine lv_iload hx hb dX5_go_121 (lv_at hl 0 rfl) ?_
              obtain ⟨r12, h11, h⟩ := zb_e h
              refine z_cVi (As := [.int y4, .int r10]) (rest := []) hx hb hC (hml.trans hl.1.symm) hI (c_X1_target l G isJ3 h11) yyX1_target q_ml_X5_41 (oX1 G isJ3) rfl ⟨Nat.le_of_ble_eq_true rfl, Nat.le_of_ble_eq_true rfl⟩ rfl rfl (Nat.le_of_ble_eq_true rfl) ⟨Nat.le_refl _, Nat.le_refl _⟩ dX5_go_123 (fun H locs hI => ?_)
              refine lv_istore (lv' := [(4, .int r12), (5, .int r10), (0, .ref (za G 16)), (1, .ref (za G 3)), (3, .int y3)]) hx hb dX5_go_126 hl (by decide) rfl (fun ls hl => ?_)
              refine lv_goto (tgt := 18) hx hb dX5_go_128 (by decide) ?_
              exact ih y3 r12 σ8 y3o y4o σo h _ _ _ hI (lv_sub hl [2, 3, 4, 0] rfl) kE
            · have h := zi_t hc h
              refine lv_iconst (v := (-1)) hx hb dX5_go_114 lc_m1 ?_
              refine lv_goto (tgt := 126) hx hb dX5_go_115 (by decide) ?_
              refine lv_istore (lv' := [(4, .int (-1)), (5, .int r10), (0, .ref (za G 16)), (1, .ref (za G 3)), (3, .int y3)]) hx hb dX5_go_126 hl (by decide) rfl (fun ls hl => ?_)
              refine lv_goto (tgt := 18) hx hb dX5_go_128 (by decide) ?_
              exact ih y3 (-1) σ8 y3o y4o σo h _ _ _ hI (lv_sub hl [2, 3, 4, 0] rfl) kE
          · have h := zi_t hc h
            refine lv_iload_n hx hb dX5_go_104 rfl (lv_at hl 3 rfl) ?_
            refine lv_iconst (v := 1) hx hb dX5_go_105 lc_1 ?_
            refine lv_ishr hx hb dX5_go_106 ?_
            refine lv_topi (fun v13 e_v13 => ?_)
            have h := zl_e h e_v13
            refine lv_istore_n (lv' := [(3, .int v13), (5, .int r10), (0, .ref (za G 16)), (1, .ref (za G 3)), (4, .int y4)]) hx hb dX5_go_107 rfl hl (by decide) rfl (fun ls hl => ?_)
            refine lv_iload hx hb dX5_go_108 (lv_at hl 1 rfl) ?_
            refine lv_iconst (v := 2) hx hb dX5_go_110 lc_2 ?_
            refine lv_icmp_ne (tgt := 118) hx hb dX5_go_111 (by decide) (fun hc => ?_) (fun hc => ?_)
            · have h := zi_f hc h
              refine lv_aload_n hx hb dX5_go_118 rfl (lv_at hl 3 rfl) ?_
              refine lv_iload hx hb dX5_go_119 (lv_at hl 4 rfl) ?_
              refine lv_iload hx hb dX5_go_121 (lv_at hl 1 rfl) ?_
              obtain ⟨r15, h14, h⟩ := zb_e h
              refine z_cVi (As := [.int y4, .int r10]) (rest := []) hx hb hC (hml.trans hl.1.symm) hI (c_X1_target l G isJ3 h14) yyX1_target q_ml_X5_41 (oX1 G isJ3) rfl ⟨Nat.le_of_ble_eq_true rfl, Nat.le_of_ble_eq_true rfl⟩ rfl rfl (Nat.le_of_ble_eq_true rfl) ⟨Nat.le_refl _, Nat.le_refl _⟩ dX5_go_123 (fun H locs hI => ?_)
              refine lv_istore (lv' := [(4, .int r15), (3, .int v13), (5, .int r10), (0, .ref (za G 16)), (1, .ref (za G 3))]) hx hb dX5_go_126 hl (by decide) rfl (fun ls hl => ?_)
              refine lv_goto (tgt := 18) hx hb dX5_go_128 (by decide) ?_
              exact ih v13 r15 σ8 y3o y4o σo h _ _ _ hI (lv_sub hl [3, 4, 1, 0] rfl) kE
            · have h := zi_t hc h
              refine lv_iconst (v := (-1)) hx hb dX5_go_114 lc_m1 ?_
              refine lv_goto (tgt := 126) hx hb dX5_go_115 (by decide) ?_
              refine lv_istore (lv' := [(4, .int (-1)), (3, .int v13), (5, .int r10), (0, .ref (za G 16)), (1, .ref (za G 3))]) hx hb dX5_go_126 hl (by decide) rfl (fun ls hl => ?_)
              refine lv_goto (tgt := 18) hx hb dX5_go_128 (by decide) ?_
              exact ih v13 (-1) σ8 y3o y4o σo h _ _ _ hI (lv_sub hl [3, 4, 1, 0] rfl) kE
  unfold F_X5_go at h
  refine lv_aload_n hx hb dX5_go_0 rfl (lv_at hl 0 rfl) ?_
  refine gX5_2 hx hb hC hI q_fl_X5_15 dX5_go_1 ?_
  refine lv_iconst (v := 0) hx hb dX5_go_4 lc_0 ?_
  obtain ⟨σ2, h1, h⟩ := zb_e h
  refine z_cSv (As := [.ref (za G 18), .int 0]) (rest := []) hx hb hC (hml.trans hl.1.symm) hI (c_J7_fill_53178 l G (vX5_2 G) h1) yyJ7_fill_53178 q_ml_X5_18 ⟨Nat.le_of_ble_eq_true rfl, Nat.le_of_ble_eq_true rfl⟩ rfl rfl (Nat.le_of_ble_eq_true rfl) ⟨Nat.le_refl _, Nat.le_refl _⟩ dX5_go_5 (fun H locs hI => ?_)
  refine lv_aload_n hx hb dX5_go_8 rfl (lv_at hl 0 rfl) ?_
  refine lv_iconst (v := 0) hx hb dX5_go_9 lc_0 ?_
  refine pX5_1 hx hb hC hI q_fl_X5_24 dX5_go_10 (fun σ3 H locs e_σ3 hI => ?_)
  have h := zl_e h e_σ3
  refine lv_iload_n hx hb dX5_go_13 rfl (lv_at hl 2 rfl) ?_
  refine lv_istore_n (lv' := [(3, .int x2), (0, .ref (za G 16)), (1, .ref (za G 3)), (2, .int x2)]) hx hb dX5_go_14 rfl hl (by decide) rfl (fun ls hl => ?_)
  refine lv_iconst (v := 0) hx hb dX5_go_15 lc_0 ?_
  refine lv_istore (lv' := [(4, .int 0), (3, .int x2), (0, .ref (za G 16)), (1, .ref (za G 3)), (2, .int x2)]) hx hb dX5_go_16 hl (by decide) rfl (fun ls hl => ?_)
  obtain ⟨v16, v17, σ18, h19, h⟩ := zb3_e h
  refine w_18 100 x2 0 σ3 v16 v17 σ18 h19 _ _ _ hI (lv_sub hl [2, 3, 1, 0] rfl) (fun H locs ls hI hl => ?_)
  exact hret (Option.some.inj h) hI dX5_go_131
set_option maxRecDepth 100000 in
set_option maxHeartbeats 4000000 in
theorem c_X6_letter (l : Launch) (G : zG)  {σ σ' : SF} {r : Int32} {x1 : Int32} (h : F_X6_letter σ  x1 = some (r, σ')) : zMi l WF G yX6_letter cX6_letter 2 .int 2 [.ref (za G 0), .int x1] σ r σ' := by
  refine zMi_of (by decide) (Nat.le_of_ble_eq_true rfl) (fun p e s m args below meth c ls Q hx hb hr hlk hml hC hI hl hret => ?_)
  have hl : lv_has ls 2 [(0, .ref (za G 0)), (1, .int x1)] := hl
  have hC : zC WF G RX6 args s m := hC
  unfold F_X6_letter at h
  refine lv_iload_n hx hb dX6_letter_0 rfl (lv_at hl 1 rfl) ?_
  refine lv_bipush (v := 32) hx hb dX6_letter_1 lb_32 ?_
  refine lv_icmp_lt (tgt := 12) hx hb dX6_letter_3 (by decide) (fun hc => ?_) (fun hc => ?_)
  · have h := zi_t hc h
    refine lv_bipush (v := (-102)) hx hb dX6_letter_12 lb_m102 ?_
    exact hret ⟨congrArg Prod.fst (Option.some.inj h), congrArg Prod.snd (Option.some.inj h)⟩ hI rfl dX6_letter_14
  · have h := zi_f hc h
    refine lv_iload_n hx hb dX6_letter_6 rfl (lv_at hl 1 rfl) ?_
    refine lv_bipush (v := 126) hx hb dX6_letter_7 lb_126 ?_
    refine lv_icmp_le (tgt := 15) hx hb dX6_letter_9 (by decide) (fun hc => ?_) (fun hc => ?_)
    · have h := zi_t hc h
      refine lv_aload_n hx hb dX6_letter_15 rfl (lv_at hl 0 rfl) ?_
      refine gX6_0 hx hb hC hI q_fl_X6_12 dX6_letter_16 ?_
      refine lv_iload_n hx hb dX6_letter_19 rfl (lv_at hl 1 rfl) ?_
      obtain ⟨r3, σ2, h1, h⟩ := zb2_e h
      refine z_cVi (As := [.int x1]) (rest := []) hx hb hC (hml.trans hl.1.symm) hI (c_X2_add l G  h1) yyX2_add q_ml_X6_67 (oX2 G) rfl ⟨Nat.le_of_ble_eq_true rfl, Nat.le_of_ble_eq_true rfl⟩ rfl rfl (Nat.le_of_ble_eq_true rfl) ⟨Nat.le_refl _, Nat.le_refl _⟩ dX6_letter_20 (fun H locs hI => ?_)
      refine lv_if_eq (tgt := 36) hx hb dX6_letter_23 (by decide) (fun hc => ?_) (fun hc => ?_)
      · have h := zi_t hc h
        refine lv_bipush (v := (-104)) hx hb dX6_letter_36 lb_m104 ?_
        exact hret ⟨congrArg Prod.fst (Option.some.inj h), congrArg Prod.snd (Option.some.inj h)⟩ hI rfl dX6_letter_38
      · have h := zi_f hc h
        refine lv_aload_n hx hb dX6_letter_26 rfl (lv_at hl 0 rfl) ?_
        refine gX6_0 hx hb hC hI q_fl_X6_12 dX6_letter_27 ?_
        refine gX2_1 hx hb hC hI q_fl_X6_71 dX6_letter_30 ?_
        refine lv_goto (tgt := 38) hx hb dX6_letter_33 (by decide) ?_
        exact hret ⟨congrArg Prod.fst (Option.some.inj h), congrArg Prod.snd (Option.some.inj h)⟩ hI rfl dX6_letter_38
    · have h := zi_f hc h
      refine lv_bipush (v := (-102)) hx hb dX6_letter_12 lb_m102 ?_
      exact hret ⟨congrArg Prod.fst (Option.some.inj h), congrArg Prod.snd (Option.some.inj h)⟩ hI rfl dX6_letter_14
set_option maxRecDepth 100000 in
set_option maxHeartbeats 4000000 in
theorem c_X6_blank (l : Launch) (G : zG)  {σ σ' : SF} {r : Int32} (h : F_X6_blank σ   = some (r, σ')) : zMi l WF G yX6_blank cX6_blank 2 .int 1 [.ref (za G 0)] σ r σ' := by
  refine zMi_of (by decide) (Nat.le_of_ble_eq_true rfl) (fun p e s m args below meth c ls Q hx hb hr hlk hml hC hI hl hret => ?_)
  have hl : lv_has ls 2 [(0, .ref (za G 0))] := hl
  have hC : zC WF G RX6 args s m := hC
  unfold F_X6_blank at h
  refine lv_aload_n hx hb dX6_blank_0 rfl (lv_at hl 0 rfl) ?_
  refine gX6_0 hx hb hC hI q_fl_X6_12 dX6_blank_1 ?_
  refine gX2_1 hx hb hC hI q_fl_X6_71 dX6_blank_4 ?_
  refine lv_topi (fun v1 e_v1 => ?_)
  have h := zl_e h e_v1
  refine lv_istore_n (lv' := [(1, .int v1), (0, .ref (za G 0))]) hx hb dX6_blank_7 rfl hl (by decide) rfl (fun ls hl => ?_)
  refine lv_aload_n hx hb dX6_blank_8 rfl (lv_at hl 1 rfl) ?_
  refine gX6_0 hx hb hC hI q_fl_X6_12 dX6_blank_9 ?_
  refine lv_iconst (v := 0) hx hb dX6_blank_12 lc_0 ?_
  refine pX2_1 hx hb hC hI q_fl_X6_71 dX6_blank_13 (fun σ2 H locs e_σ2 hI => ?_)
  have h := zl_e h e_σ2
  refine lv_iload_n hx hb dX6_blank_16 rfl (lv_at hl 0 rfl) ?_
  exact hret ⟨congrArg Prod.fst (Option.some.inj h), congrArg Prod.snd (Option.some.inj h)⟩ hI rfl dX6_blank_17
set_option maxRecDepth 100000 in
set_option maxHeartbeats 4000000 in
theorem c_X6_lookAnew (l : Launch) (G : zG)  {σ σ' : SF} (h : F_X6_lookAnew σ   = some σ') : zMv l WF G yX6_lookAnew cX6_lookAnew 1 37 [.ref (za G 0)] σ σ' := by
  refine zMv_of (by decide) (Nat.le_of_ble_eq_true rfl) (fun p e s m args below meth c ls Q hx hb hr hlk hml hC hI hl hret => ?_)
  have hl : lv_has ls 1 [(0, .ref (za G 0))] := hl
  have hC : zC WF G RX6 args s m := hC
  unfold F_X6_lookAnew at h
  refine lv_aload_n hx hb dX6_lookAnew_0 rfl (lv_at hl 0 rfl) ?_
  refine gX6_2 hx hb hC hI q_fl_X6_28 dX6_lookAnew_1 ?_
  refine lv_iconst (v := 0) hx hb dX6_lookAnew_4 lc_0 ?_
  obtain ⟨σ2, h1, h⟩ := zb_e h
  refine z_cVv (As := [.int 0]) (rest := []) hx hb hC (hml.trans hl.1.symm) hI (c_X0_look l G isF3 h1) yyX0_look q_ml_X6_199 (oX0 G isF3) rfl ⟨Nat.le_of_ble_eq_true rfl, Nat.le_of_ble_eq_true rfl⟩ rfl rfl (Nat.le_of_ble_eq_true rfl) ⟨Nat.le_refl _, Nat.le_refl _⟩ dX6_lookAnew_5 (fun H locs hI => ?_)
  refine lv_aload_n hx hb dX6_lookAnew_8 rfl (lv_at hl 0 rfl) ?_
  refine gX6_3 hx hb hC hI q_fl_X6_37 dX6_lookAnew_9 ?_
  obtain ⟨σ4, h3, h⟩ := zb_e h
  refine z_cVv (As := []) (rest := []) hx hb hC (hml.trans hl.1.symm) hI (c_X4_write l G  h3) yyX4_write q_ml_X6_245 (oX4 G) rfl ⟨Nat.le_of_ble_eq_true rfl, Nat.le_of_ble_eq_true rfl⟩ rfl rfl (Nat.le_of_ble_eq_true rfl) ⟨Nat.le_refl _, Nat.le_refl _⟩ dX6_lookAnew_12 (fun H locs hI => ?_)
  exact hret (Option.some.inj h) hI dX6_lookAnew_15
set_option maxRecDepth 100000 in
set_option maxHeartbeats 4000000 in
theorem c_X6_node (l : Launch) (G : zG)  {σ : SF} {r : Int32} {x1 : Int32} {x2 : Int32} (h : F_X6_node σ  x1 x2 = some r) : zMi l WF G yX6_node cX6_node 3 .int 5 [.ref (za G 0), .int x1, .int x2] σ r σ := by
  refine zMi_of (by decide) (Nat.le_of_ble_eq_true rfl) (fun p e s m args below meth c ls Q hx hb hr hlk hml hC hI hl hret => ?_)
  have hl : lv_has ls 3 [(0, .ref (za G 0)), (1, .int x1), (2, .int x2)] := hl
  have hC : zC WF G RX6 args s m := hC
  unfold F_X6_node at h
  refine lv_aload_n hx hb dX6_node_0 rfl (lv_at hl 0 rfl) ?_
  refine gX6_1 hx hb hC hI q_fl_X6_19 dX6_node_1 ?_
  refine lv_iload_n hx hb dX6_node_4 rfl (lv_at hl 1 rfl) ?_
  obtain ⟨r2, h1, h⟩ := zb_e h
  refine z_cVi (As := [.int x1]) (rest := []) hx hb hC (hml.trans hl.1.symm) hI (c_X1_has l G isJ3 h1) yyX1_has q_ml_X6_103 (oX1 G isJ3) rfl ⟨Nat.le_of_ble_eq_true rfl, Nat.le_of_ble_eq_true rfl⟩ rfl rfl (Nat.le_of_ble_eq_true rfl) ⟨Nat.le_refl _, Nat.le_refl _⟩ dX6_node_5 (fun H locs hI => ?_)
  refine lv_if_ne (tgt := 14) hx hb dX6_node_8 (by decide) (fun hc => ?_) (fun hc => ?_)
  · have h := zi_f hc h
    refine lv_iload_n hx hb dX6_node_14 rfl (lv_at hl 2 rfl) ?_
    by_cases n_15_0 : x2 = 0
    · have h := zi_t n_15_0 h
      refine lv_tableIn (tgt := 68) hx hb dX6_node_15 (by rw [n_15_0]; decide) (by rw [n_15_0]; decide) (by rw [n_15_0]; rfl) (by decide) ?_
      refine lv_aload_n hx hb dX6_node_68 rfl (lv_at hl 0 rfl) ?_
      refine gX6_1 hx hb hC hI q_fl_X6_19 dX6_node_69 ?_
      refine gX1_1 isJ3 hx hb hC hI q_fl_X6_106 dX6_node_72 ?_
      refine lv_iload_n hx hb dX6_node_75 rfl (lv_at hl 1 rfl) ?_
      obtain ⟨hg, h⟩ := zg_e h
      refine z_iald hx hb hC hI (vX1_1 G isJ3) hg dX6_node_76 ?_
      exact hret ⟨(Option.some.inj h), rfl⟩ hI rfl dX6_node_77
    have h := zi_f n_15_0 h
    by_cases n_15_1 : x2 = 1
    · have h := zi_t n_15_1 h
      refine lv_tableIn (tgt := 78) hx hb dX6_node_15 (by rw [n_15_1]; decide) (by rw [n_15_1]; decide) (by rw [n_15_1]; rfl) (by decide) ?_
      refine lv_aload_n hx hb dX6_node_78 rfl (lv_at hl 0 rfl) ?_
      refine gX6_1 hx hb hC hI q_fl_X6_19 dX6_node_79 ?_
      refine gX1_2 isJ3 hx hb hC hI q_fl_X6_110 dX6_node_82 ?_
      refine lv_iload_n hx hb dX6_node_85 rfl (lv_at hl 1 rfl) ?_
      obtain ⟨hg, h⟩ := zg_e h
      refine z_iald hx hb hC hI (vX1_2 G isJ3) hg dX6_node_86 ?_
      exact hret ⟨(Option.some.inj h), rfl⟩ hI rfl dX6_node_87
    have h := zi_f n_15_1 h
    by_cases n_15_2 : x2 = 2
    · have h := zi_t n_15_2 h
      refine lv_tableIn (tgt := 88) hx hb dX6_node_15 (by rw [n_15_2]; decide) (by rw [n_15_2]; decide) (by rw [n_15_2]; rfl) (by decide) ?_
      refine lv_aload_n hx hb dX6_node_88 rfl (lv_at hl 0 rfl) ?_
      refine gX6_1 hx hb hC hI q_fl_X6_19 dX6_node_89 ?_
      refine gX1_3 isJ3 hx hb hC hI q_fl_X6_113 dX6_node_92 ?_
      refine lv_iload_n hx hb dX6_node_95 rfl (lv_at hl 1 rfl) ?_
      obtain ⟨hg, h⟩ := zg_e h
      refine z_iald hx hb hC hI (vX1_3 G isJ3) hg dX6_node_96 ?_
      exact hret ⟨(Option.some.inj h), rfl⟩ hI rfl dX6_node_97
    have h := zi_f n_15_2 h
    by_cases n_15_3 : x2 = 3
    · have h := zi_t n_15_3 h
      refine lv_tableIn (tgt := 98) hx hb dX6_node_15 (by rw [n_15_3]; decide) (by rw [n_15_3]; decide) (by rw [n_15_3]; rfl) (by decide) ?_
      refine lv_aload_n hx hb dX6_node_98 rfl (lv_at hl 0 rfl) ?_
      refine gX6_2 hx hb hC hI q_fl_X6_28 dX6_node_99 ?_
      refine lv_iload_n hx hb dX6_node_102 rfl (lv_at hl 1 rfl) ?_
      obtain ⟨r4, h3, h⟩ := zb_e h
      refine z_cVi (As := [.int x1]) (rest := []) hx hb hC (hml.trans hl.1.symm) hI (c_X0_placeOf l G isF3 h3) yyX0_placeOf q_ml_X6_116 (oX0 G isF3) rfl ⟨Nat.le_of_ble_eq_true rfl, Nat.le_of_ble_eq_true rfl⟩ rfl rfl (Nat.le_of_ble_eq_true rfl) ⟨Nat.le_refl _, Nat.le_refl _⟩ dX6_node_103 (fun H locs hI => ?_)
      exact hret ⟨(Option.some.inj h), rfl⟩ hI rfl dX6_node_106
    have h := zi_f n_15_3 h
    by_cases n_15_4 : x2 = 4
    · have h := zi_t n_15_4 h
      refine lv_tableIn (tgt := 107) hx hb dX6_node_15 (by rw [n_15_4]; decide) (by rw [n_15_4]; decide) (by rw [n_15_4]; rfl) (by decide) ?_
      refine lv_aload_n hx hb dX6_node_107 rfl (lv_at hl 0 rfl) ?_
      refine gX6_2 hx hb hC hI q_fl_X6_28 dX6_node_108 ?_
      refine lv_iload_n hx hb dX6_node_111 rfl (lv_at hl 1 rfl) ?_
      obtain ⟨r6, h5, h⟩ := zb_e h
      refine z_cVi (As := [.int x1]) (rest := []) hx hb hC (hml.trans hl.1.symm) hI (c_X0_lordOf l G isF3 h5) yyX0_lordOf q_ml_X6_120 (oX0 G isF3) rfl ⟨Nat.le_of_ble_eq_true rfl, Nat.le_of_ble_eq_true rfl⟩ rfl rfl (Nat.le_of_ble_eq_true rfl) ⟨Nat.le_refl _, Nat.le_refl _⟩ dX6_node_112 (fun H locs hI => ?_)
      exact hret ⟨(Option.some.inj h), rfl⟩ hI rfl dX6_node_115
    have h := zi_f n_15_4 h
    by_cases n_15_5 : x2 = 5
    · have h := zi_t n_15_5 h
      refine lv_tableIn (tgt := 116) hx hb dX6_node_15 (by rw [n_15_5]; decide) (by rw [n_15_5]; decide) (by rw [n_15_5]; rfl) (by decide) ?_
      refine lv_aload_n hx hb dX6_node_116 rfl (lv_at hl 0 rfl) ?_
      refine gX6_2 hx hb hC hI q_fl_X6_28 dX6_node_117 ?_
      refine lv_iload_n hx hb dX6_node_120 rfl (lv_at hl 1 rfl) ?_
      obtain ⟨r8, h7, h⟩ := zb_e h
      refine z_cVi (As := [.int x1]) (rest := []) hx hb hC (hml.trans hl.1.symm) hI (c_X0_isHead l G isF3 h7) yyX0_isHead q_ml_X6_123 (oX0 G isF3) rfl ⟨Nat.le_of_ble_eq_true rfl, Nat.le_of_ble_eq_true rfl⟩ rfl rfl (Nat.le_of_ble_eq_true rfl) ⟨Nat.le_refl _, Nat.le_refl _⟩ dX6_node_121 (fun H locs hI => ?_)
      refine lv_if_eq (tgt := 131) hx hb dX6_node_124 (by decide) (fun hc => ?_) (fun hc => ?_)
      · have h := zi_t hc h
        refine lv_iconst (v := 0) hx hb dX6_node_131 lc_0 ?_
        exact hret ⟨(Option.some.inj h), rfl⟩ hI rfl dX6_node_132
      · have h := zi_f hc h
        refine lv_iconst (v := 1) hx hb dX6_node_127 lc_1 ?_
        refine lv_goto (tgt := 132) hx hb dX6_node_128 (by decide) ?_
        exact hret ⟨(Option.some.inj h), rfl⟩ hI rfl dX6_node_132
    have h := zi_f n_15_5 h
    by_cases n_15_6 : x2 = 6
    · have h := zi_t n_15_6 h
      refine lv_tableIn (tgt := 133) hx hb dX6_node_15 (by rw [n_15_6]; decide) (by rw [n_15_6]; decide) (by rw [n_15_6]; rfl) (by decide) ?_
      refine lv_aload_n hx hb dX6_node_133 rfl (lv_at hl 0 rfl) ?_
      refine gX6_2 hx hb hC hI q_fl_X6_28 dX6_node_134 ?_
      refine lv_iload_n hx hb dX6_node_137 rfl (lv_at hl 1 rfl) ?_
      obtain ⟨r10, h9, h⟩ := zb_e h
      refine z_cVi (As := [.int x1]) (rest := []) hx hb hC (hml.trans hl.1.symm) hI (c_X0_isMerge l G isF3 h9) yyX0_isMerge q_ml_X6_126 (oX0 G isF3) rfl ⟨Nat.le_of_ble_eq_true rfl, Nat.le_of_ble_eq_true rfl⟩ rfl rfl (Nat.le_of_ble_eq_true rfl) ⟨Nat.le_refl _, Nat.le_refl _⟩ dX6_node_138 (fun H locs hI => ?_)
      refine lv_if_eq (tgt := 148) hx hb dX6_node_141 (by decide) (fun hc => ?_) (fun hc => ?_)
      · have h := zi_t hc h
        refine lv_iconst (v := 0) hx hb dX6_node_148 lc_0 ?_
        exact hret ⟨(Option.some.inj h), rfl⟩ hI rfl dX6_node_149
      · have h := zi_f hc h
        refine lv_iconst (v := 1) hx hb dX6_node_144 lc_1 ?_
        refine lv_goto (tgt := 149) hx hb dX6_node_145 (by decide) ?_
        exact hret ⟨(Option.some.inj h), rfl⟩ hI rfl dX6_node_149
    have h := zi_f n_15_6 h
    by_cases n_15_7 : x2 = 7
    · have h := zi_t n_15_7 h
      refine lv_tableIn (tgt := 150) hx hb dX6_node_15 (by rw [n_15_7]; decide) (by rw [n_15_7]; decide) (by rw [n_15_7]; rfl) (by decide) ?_
      refine lv_aload_n hx hb dX6_node_150 rfl (lv_at hl 0 rfl) ?_
      refine gX6_2 hx hb hC hI q_fl_X6_28 dX6_node_151 ?_
      refine lv_iload_n hx hb dX6_node_154 rfl (lv_at hl 1 rfl) ?_
      obtain ⟨r12, h11, h⟩ := zb_e h
      refine z_cVi (As := [.int x1]) (rest := []) hx hb hC (hml.trans hl.1.symm) hI (c_X0_ruledBy l G isF3 h11) yyX0_ruledBy q_ml_X6_129 (oX0 G isF3) rfl ⟨Nat.le_of_ble_eq_true rfl, Nat.le_of_ble_eq_true rfl⟩ rfl rfl (Nat.le_of_ble_eq_true rfl) ⟨Nat.le_refl _, Nat.le_refl _⟩ dX6_node_155 (fun H locs hI => ?_)
      exact hret ⟨(Option.some.inj h), rfl⟩ hI rfl dX6_node_158
    have h := zi_f n_15_7 h
    by_cases n_15_8 : x2 = 8
    · have h := zi_t n_15_8 h
      refine lv_tableIn (tgt := 159) hx hb dX6_node_15 (by rw [n_15_8]; decide) (by rw [n_15_8]; decide) (by rw [n_15_8]; rfl) (by decide) ?_
      refine lv_aload_n hx hb dX6_node_159 rfl (lv_at hl 0 rfl) ?_
      refine gX6_5 hx hb hC hI q_fl_X6_51 dX6_node_160 ?_
      refine lv_iload_n hx hb dX6_node_163 rfl (lv_at hl 1 rfl) ?_
      obtain ⟨r14, h13, h⟩ := zb_e h
      refine z_cVi (As := [.int x1]) (rest := []) hx hb hC (hml.trans hl.1.symm) hI (c_X3_sortsOf l G isS19 h13) yyX3_sortsOf q_ml_X6_132 (oX3 G isS19) rfl ⟨Nat.le_of_ble_eq_true rfl, Nat.le_of_ble_eq_true rfl⟩ rfl rfl (Nat.le_of_ble_eq_true rfl) ⟨Nat.le_refl _, Nat.le_refl _⟩ dX6_node_164 (fun H locs hI => ?_)
      exact hret ⟨(Option.some.inj h), rfl⟩ hI rfl dX6_node_167
    have h := zi_f n_15_8 h
    by_cases n_15_9 : x2 = 9
    · have h := zi_t n_15_9 h
      refine lv_tableIn (tgt := 168) hx hb dX6_node_15 (by rw [n_15_9]; decide) (by rw [n_15_9]; decide) (by rw [n_15_9]; rfl) (by decide) ?_
      refine lv_aload_n hx hb dX6_node_168 rfl (lv_at hl 0 rfl) ?_
      refine gX6_5 hx hb hC hI q_fl_X6_51 dX6_node_169 ?_
      refine lv_iload_n hx hb dX6_node_172 rfl (lv_at hl 1 rfl) ?_
      obtain ⟨r16, h15, h⟩ := zb_e h
      refine z_cVi (As := [.int x1]) (rest := []) hx hb hC (hml.trans hl.1.symm) hI (c_X3_askFor l G isS19 h15) yyX3_askFor q_ml_X6_135 (oX3 G isS19) rfl ⟨Nat.le_of_ble_eq_true rfl, Nat.le_of_ble_eq_true rfl⟩ rfl rfl (Nat.le_of_ble_eq_true rfl) ⟨Nat.le_refl _, Nat.le_refl _⟩ dX6_node_173 (fun H locs hI => ?_)
      exact hret ⟨(Option.some.inj h), rfl⟩ hI rfl dX6_node_176
    have h := zi_f n_15_9 h
    have t_15 : (x2 : Int32).toInt ≠ 0 ∧ (x2 : Int32).toInt ≠ 1 ∧ (x2 : Int32).toInt ≠ 2 ∧ (x2 : Int32).toInt ≠ 3 ∧ (x2 : Int32).toInt ≠ 4 ∧ (x2 : Int32).toInt ≠ 5 ∧ (x2 : Int32).toInt ≠ 6 ∧ (x2 : Int32).toInt ≠ 7 ∧ (x2 : Int32).toInt ≠ 8 ∧ (x2 : Int32).toInt ≠ 9 := by
      exact ⟨zne_toInt n_15_0, zne_toInt n_15_1, zne_toInt n_15_2, zne_toInt n_15_3, zne_toInt n_15_4, zne_toInt n_15_5, zne_toInt n_15_6, zne_toInt n_15_7, zne_toInt n_15_8, zne_toInt n_15_9⟩
    refine lv_tableOut (tgt := 177) hx hb dX6_node_15 (by omega) (by decide) ?_
    refine lv_bipush (v := (-102)) hx hb dX6_node_177 lb_m102 ?_
    exact hret ⟨(Option.some.inj h), rfl⟩ hI rfl dX6_node_179
  · have h := zi_t hc h
    refine lv_bipush (v := (-101)) hx hb dX6_node_11 lb_m101 ?_
    exact hret ⟨(Option.some.inj h), rfl⟩ hI rfl dX6_node_13
set_option maxRecDepth 100000 in
set_option maxHeartbeats 4000000 in
theorem c_X6_as (l : Launch) (G : zG)  {σ : SF} {r : Int32} {x1 : Int32} {x2 : Int32} (h : F_X6_as σ  x1 x2 = some r) : zMi l WF G yX6_as cX6_as 5 .int 2 [.ref (za G 0), .int x1, .int x2] σ r σ := by
  refine zMi_of (by decide) (Nat.le_of_ble_eq_true rfl) (fun p e s m args below meth c ls Q hx hb hr hlk hml hC hI hl hret => ?_)
  have hl : lv_has ls 5 [(0, .ref (za G 0)), (1, .int x1), (2, .int x2)] := hl
  have hC : zC WF G RX6 args s m := hC
  unfold F_X6_as at h
  refine lv_aload_n hx hb dX6_as_0 rfl (lv_at hl 0 rfl) ?_
  refine gX6_1 hx hb hC hI q_fl_X6_19 dX6_as_1 ?_
  refine lv_iload_n hx hb dX6_as_4 rfl (lv_at hl 1 rfl) ?_
  obtain ⟨r2, h1, h⟩ := zb_e h
  refine z_cVi (As := [.int x1]) (rest := []) hx hb hC (hml.trans hl.1.symm) hI (c_X1_has l G isJ3 h1) yyX1_has q_ml_X6_103 (oX1 G isJ3) rfl ⟨Nat.le_of_ble_eq_true rfl, Nat.le_of_ble_eq_true rfl⟩ rfl rfl (Nat.le_of_ble_eq_true rfl) ⟨Nat.le_refl _, Nat.le_refl _⟩ dX6_as_5 (fun H locs hI => ?_)
  refine lv_if_ne (tgt := 14) hx hb dX6_as_8 (by decide) (fun hc => ?_) (fun hc => ?_)
  · have h := zi_f hc h
    refine lv_iload_n hx hb dX6_as_14 rfl (lv_at hl 2 rfl) ?_
    obtain ⟨r4, h3, h⟩ := zb_e h
    refine z_cSi (As := [.int x2]) (rest := []) hx hb hC (hml.trans hl.1.symm) hI (c_X6_isKind l G  (σ := σ) h3) yyX6_isKind q_ml_X6_138 ⟨Nat.le_of_ble_eq_true rfl, Nat.le_of_ble_eq_true rfl⟩ rfl rfl (Nat.le_of_ble_eq_true rfl) ⟨Nat.le_refl _, Nat.le_refl _⟩ dX6_as_15 (fun H locs hI => ?_)
    refine lv_if_ne (tgt := 24) hx hb dX6_as_18 (by decide) (fun hc => ?_) (fun hc => ?_)
    · have h := zi_f hc h
      refine lv_aload_n hx hb dX6_as_24 rfl (lv_at hl 0 rfl) ?_
      refine gX6_1 hx hb hC hI q_fl_X6_19 dX6_as_25 ?_
      refine gX1_1 isJ3 hx hb hC hI q_fl_X6_106 dX6_as_28 ?_
      refine lv_iload_n hx hb dX6_as_31 rfl (lv_at hl 1 rfl) ?_
      obtain ⟨hg, h⟩ := zg_e h
      refine z_iald hx hb hC hI (vX1_1 G isJ3) hg dX6_as_32 ?_
      refine lv_topi (fun v5 e_v5 => ?_)
      have h := zl_e h e_v5
      refine lv_istore_n (lv' := [(3, .int v5), (0, .ref (za G 0)), (1, .int x1), (2, .int x2)]) hx hb dX6_as_33 rfl hl (by decide) rfl (fun ls hl => ?_)
      refine lv_iload_n hx hb dX6_as_34 rfl (lv_at hl 3 rfl) ?_
      refine lv_iload_n hx hb dX6_as_35 rfl (lv_at hl 0 rfl) ?_
      refine lv_icmp_eq (tgt := 53) hx hb dX6_as_36 (by decide) (fun hc => ?_) (fun hc => ?_)
      · have h := zi_t hc h
        refine lv_iconst (v := 1) hx hb dX6_as_53 lc_1 ?_
        refine lv_goto (tgt := 58) hx hb dX6_as_54 (by decide) ?_
        refine lv_istore (lv' := [(4, .int 1), (3, .int v5), (0, .ref (za G 0)), (1, .int x1), (2, .int x2)]) hx hb dX6_as_58 hl (by decide) rfl (fun ls hl => ?_)
        refine lv_iload hx hb dX6_as_60 (lv_at hl 0 rfl) ?_
        refine lv_if_eq (tgt := 69) hx hb dX6_as_62 (by decide) (fun hc => absurd hc (by decide)) (fun _ => ?_)
        refine lv_iload_n hx hb dX6_as_65 rfl (lv_at hl 3 rfl) ?_
        refine lv_goto (tgt := 70) hx hb dX6_as_66 (by decide) ?_
        exact hret ⟨(Option.some.inj h), rfl⟩ hI rfl dX6_as_70
      · have h := zi_f hc h
        refine lv_iload_n hx hb dX6_as_39 rfl (lv_at hl 3 rfl) ?_
        refine lv_if_eq (tgt := 53) hx hb dX6_as_40 (by decide) (fun hc => ?_) (fun hc => ?_)
        · have h := zi_t hc h
          refine lv_iconst (v := 1) hx hb dX6_as_53 lc_1 ?_
          refine lv_goto (tgt := 58) hx hb dX6_as_54 (by decide) ?_
          refine lv_istore (lv' := [(4, .int 1), (3, .int v5), (0, .ref (za G 0)), (1, .int x1), (2, .int x2)]) hx hb dX6_as_58 hl (by decide) rfl (fun ls hl => ?_)
          refine lv_iload hx hb dX6_as_60 (lv_at hl 0 rfl) ?_
          refine lv_if_eq (tgt := 69) hx hb dX6_as_62 (by decide) (fun hc => absurd hc (by decide)) (fun _ => ?_)
          refine lv_iload_n hx hb dX6_as_65 rfl (lv_at hl 3 rfl) ?_
          refine lv_goto (tgt := 70) hx hb dX6_as_66 (by decide) ?_
          exact hret ⟨(Option.some.inj h), rfl⟩ hI rfl dX6_as_70
        · have h := zi_f hc h
          refine lv_iload_n hx hb dX6_as_43 rfl (lv_at hl 3 rfl) ?_
          refine lv_iconst (v := 3) hx hb dX6_as_44 lc_3 ?_
          refine lv_icmp_ne (tgt := 57) hx hb dX6_as_45 (by decide) (fun hc => ?_) (fun hc => ?_)
          · have h := zi_f hc h
            refine lv_iconst (v := 0) hx hb dX6_as_57 lc_0 ?_
            refine lv_istore (lv' := [(4, .int 0), (3, .int v5), (0, .ref (za G 0)), (1, .int x1), (2, .int x2)]) hx hb dX6_as_58 hl (by decide) rfl (fun ls hl => ?_)
            refine lv_iload hx hb dX6_as_60 (lv_at hl 0 rfl) ?_
            refine lv_if_eq (tgt := 69) hx hb dX6_as_62 (by decide) (fun _ => ?_) (fun hc => absurd hc (by decide))
            refine lv_iconst (v := (-1)) hx hb dX6_as_69 lc_m1 ?_
            exact hret ⟨(Option.some.inj h), rfl⟩ hI rfl dX6_as_70
          · have h := zi_t hc h
            refine lv_iload_n hx hb dX6_as_48 rfl (lv_at hl 0 rfl) ?_
            refine lv_iconst (v := 4) hx hb dX6_as_49 lc_4 ?_
            refine lv_icmp_ne (tgt := 57) hx hb dX6_as_50 (by decide) (fun hc => ?_) (fun hc => ?_)
            · have h := zi_f hc h
              refine lv_iconst (v := 0) hx hb dX6_as_57 lc_0 ?_
              refine lv_istore (lv' := [(4, .int 0), (3, .int v5), (0, .ref (za G 0)), (1, .int x1), (2, .int x2)]) hx hb dX6_as_58 hl (by decide) rfl (fun ls hl => ?_)
              refine lv_iload hx hb dX6_as_60 (lv_at hl 0 rfl) ?_
              refine lv_if_eq (tgt := 69) hx hb dX6_as_62 (by decide) (fun _ => ?_) (fun hc => absurd hc (by decide))
              refine lv_iconst (v := (-1)) hx hb dX6_as_69 lc_m1 ?_
              exact hret ⟨(Option.some.inj h), rfl⟩ hI rfl dX6_as_70
            · have h := zi_t hc h
              refine lv_iconst (v := 1) hx hb dX6_as_53 lc_1 ?_
              refine lv_goto (tgt := 58) hx hb dX6_as_54 (by decide) ?_
              refine lv_istore (lv' := [(4, .int 1), (3, .int v5), (0, .ref (za G 0)), (1, .int x1), (2, .int x2)]) hx hb dX6_as_58 hl (by decide) rfl (fun ls hl => ?_)
              refine lv_iload hx hb dX6_as_60 (lv_at hl 0 rfl) ?_
              refine lv_if_eq (tgt := 69) hx hb dX6_as_62 (by decide) (fun hc => absurd hc (by decide)) (fun _ => ?_)
              refine lv_iload_n hx hb dX6_as_65 rfl (lv_at hl 3 rfl) ?_
              refine lv_goto (tgt := 70) hx hb dX6_as_66 (by decide) ?_
              exact hret ⟨(Option.some.inj h), rfl⟩ hI rfl dX6_as_70
    · have h := zi_t hc h
      refine lv_bipush (v := (-102)) hx hb dX6_as_21 lb_m102 ?_
      exact hret ⟨(Option.some.inj h), rfl⟩ hI rfl dX6_as_23
  · have h := zi_t hc h
    refine lv_bipush (v := (-101)) hx hb dX6_as_11 lb_m101 ?_
    exact hret ⟨(Option.some.inj h), rfl⟩ hI rfl dX6_as_13
set_option maxRecDepth 100000 in
set_option maxHeartbeats 4000000 in
theorem c_X6_dominates (l : Launch) (G : zG)  {σ : SF} {r : Int32} {x1 : Int32} {x2 : Int32} (h : F_X6_dominates σ  x1 x2 = some r) : zMi l WF G yX6_dominates cX6_dominates 3 .int 3 [.ref (za G 0), .int x1, .int x2] σ r σ := by
  refine zMi_of (by decide) (Nat.le_of_ble_eq_true rfl) (fun p e s m args below meth c ls Q hx hb hr hlk hml hC hI hl hret => ?_)
  have hl : lv_has ls 3 [(0, .ref (za G 0)), (1, .int x1), (2, .int x2)] := hl
  have hC : zC WF G RX6 args s m := hC
  unfold F_X6_dominates at h
  refine lv_aload_n hx hb dX6_dominates_0 rfl (lv_at hl 0 rfl) ?_
  refine gX6_1 hx hb hC hI q_fl_X6_19 dX6_dominates_1 ?_
  refine lv_iload_n hx hb dX6_dominates_4 rfl (lv_at hl 1 rfl) ?_
  obtain ⟨r2, h1, h⟩ := zb_e h
  refine z_cVi (As := [.int x1]) (rest := []) hx hb hC (hml.trans hl.1.symm) hI (c_X1_has l G isJ3 h1) yyX1_has q_ml_X6_103 (oX1 G isJ3) rfl ⟨Nat.le_of_ble_eq_true rfl, Nat.le_of_ble_eq_true rfl⟩ rfl rfl (Nat.le_of_ble_eq_true rfl) ⟨Nat.le_refl _, Nat.le_refl _⟩ dX6_dominates_5 (fun H locs hI => ?_)
  refine lv_if_eq (tgt := 22) hx hb dX6_dominates_8 (by decide) (fun hc => ?_) (fun hc => ?_)
  · have h := zi_t hc h
    refine lv_bipush (v := (-101)) hx hb dX6_dominates_22 lb_m101 ?_
    exact hret ⟨(Option.some.inj h), rfl⟩ hI rfl dX6_dominates_24
  · have h := zi_f hc h
    refine lv_aload_n hx hb dX6_dominates_11 rfl (lv_at hl 0 rfl) ?_
    refine gX6_1 hx hb hC hI q_fl_X6_19 dX6_dominates_12 ?_
    refine lv_iload_n hx hb dX6_dominates_15 rfl (lv_at hl 2 rfl) ?_
    obtain ⟨r4, h3, h⟩ := zb_e h
    refine z_cVi (As := [.int x2]) (rest := []) hx hb hC (hml.trans hl.1.symm) hI (c_X1_has l G isJ3 h3) yyX1_has q_ml_X6_103 (oX1 G isJ3) rfl ⟨Nat.le_of_ble_eq_true rfl, Nat.le_of_ble_eq_true rfl⟩ rfl rfl (Nat.le_of_ble_eq_true rfl) ⟨Nat.le_refl _, Nat.le_refl _⟩ dX6_dominates_16 (fun H locs hI => ?_)
    refine lv_if_ne (tgt := 25) hx hb dX6_dominates_19 (by decide) (fun hc => ?_) (fun hc => ?_)
    · have h := zi_f hc h
      refine lv_aload_n hx hb dX6_dominates_25 rfl (lv_at hl 0 rfl) ?_
      refine gX6_2 hx hb hC hI q_fl_X6_28 dX6_dominates_26 ?_
      refine lv_iload_n hx hb dX6_dominates_29 rfl (lv_at hl 1 rfl) ?_
      refine lv_iload_n hx hb dX6_dominates_30 rfl (lv_at hl 2 rfl) ?_
      obtain ⟨r6, h5, h⟩ := zb_e h
      refine z_cVi (As := [.int x1, .int x2]) (rest := []) hx hb hC (hml.trans hl.1.symm) hI (c_X0_rules l G isF3 h5) yyX0_rules q_ml_X6_141 (oX0 G isF3) rfl ⟨Nat.le_of_ble_eq_true rfl, Nat.le_of_ble_eq_true rfl⟩ rfl rfl (Nat.le_of_ble_eq_true rfl) ⟨Nat.le_refl _, Nat.le_refl _⟩ dX6_dominates_31 (fun H locs hI => ?_)
      refine lv_if_eq (tgt := 41) hx hb dX6_dominates_34 (by decide) (fun hc => ?_) (fun hc => ?_)
      · have h := zi_t hc h
        refine lv_iconst (v := 0) hx hb dX6_dominates_41 lc_0 ?_
        exact hret ⟨(Option.some.inj h), rfl⟩ hI rfl dX6_dominates_42
      · have h := zi_f hc h
        refine lv_iconst (v := 1) hx hb dX6_dominates_37 lc_1 ?_
        refine lv_goto (tgt := 42) hx hb dX6_dominates_38 (by decide) ?_
        exact hret ⟨(Option.some.inj h), rfl⟩ hI rfl dX6_dominates_42
    · have h := zi_t hc h
      refine lv_bipush (v := (-101)) hx hb dX6_dominates_22 lb_m101 ?_
      exact hret ⟨(Option.some.inj h), rfl⟩ hI rfl dX6_dominates_24
set_option maxRecDepth 100000 in
set_option maxHeartbeats 4000000 in
theorem c_X6_edge (l : Launch) (G : zG)  {σ : SF} {r : Int32} {x1 : Int32} {x2 : Int32} (h : F_X6_edge σ  x1 x2 = some r) : zMi l WF G yX6_edge cX6_edge 3 .int 3 [.ref (za G 0), .int x1, .int x2] σ r σ := by
  refine zMi_of (by decide) (Nat.le_of_ble_eq_true rfl) (fun p e s m args below meth c ls Q hx hb hr hlk hml hC hI hl hret => ?_)
  have hl : lv_has ls 3 [(0, .ref (za G 0)), (1, .int x1), (2, .int x2)] := hl
  have hC : zC WF G RX6 args s m := hC
  unfold F_X6_edge at h
  refine lv_aload_n hx hb dX6_edge_0 rfl (lv_at hl 0 rfl) ?_
  refine gX6_1 hx hb hC hI q_fl_X6_19 dX6_edge_1 ?_
  refine lv_iload_n hx hb dX6_edge_4 rfl (lv_at hl 1 rfl) ?_
  obtain ⟨r2, h1, h⟩ := zb_e h
  refine z_cVi (As := [.int x1]) (rest := []) hx hb hC (hml.trans hl.1.symm) hI (c_X1_has l G isJ3 h1) yyX1_has q_ml_X6_103 (oX1 G isJ3) rfl ⟨Nat.le_of_ble_eq_true rfl, Nat.le_of_ble_eq_true rfl⟩ rfl rfl (Nat.le_of_ble_eq_true rfl) ⟨Nat.le_refl _, Nat.le_refl _⟩ dX6_edge_5 (fun H locs hI => ?_)
  refine lv_if_ne (tgt := 14) hx hb dX6_edge_8 (by decide) (fun hc => ?_) (fun hc => ?_)
  · have h := zi_f hc h
    refine lv_iload_n hx hb dX6_edge_14 rfl (lv_at hl 2 rfl) ?_
    obtain ⟨r4, h3, h⟩ := zb_e h
    refine z_cSi (As := [.int x2]) (rest := []) hx hb hC (hml.trans hl.1.symm) hI (c_X6_isEnd l G  (σ := σ) h3) yyX6_isEnd q_ml_X6_145 ⟨Nat.le_of_ble_eq_true rfl, Nat.le_of_ble_eq_true rfl⟩ rfl rfl (Nat.le_of_ble_eq_true rfl) ⟨Nat.le_refl _, Nat.le_refl _⟩ dX6_edge_15 (fun H locs hI => ?_)
    refine lv_if_ne (tgt := 24) hx hb dX6_edge_18 (by decide) (fun hc => ?_) (fun hc => ?_)
    · have h := zi_f hc h
      refine lv_aload_n hx hb dX6_edge_24 rfl (lv_at hl 0 rfl) ?_
      refine gX6_2 hx hb hC hI q_fl_X6_28 dX6_edge_25 ?_
      refine lv_iload_n hx hb dX6_edge_28 rfl (lv_at hl 1 rfl) ?_
      refine lv_iload_n hx hb dX6_edge_29 rfl (lv_at hl 2 rfl) ?_
      obtain ⟨r6, h5, h⟩ := zb_e h
      refine z_cVi (As := [.int x1, .int x2]) (rest := []) hx hb hC (hml.trans hl.1.symm) hI (c_X0_stateOf l G isF3 h5) yyX0_stateOf q_ml_X6_148 (oX0 G isF3) rfl ⟨Nat.le_of_ble_eq_true rfl, Nat.le_of_ble_eq_true rfl⟩ rfl rfl (Nat.le_of_ble_eq_true rfl) ⟨Nat.le_refl _, Nat.le_refl _⟩ dX6_edge_30 (fun H locs hI => ?_)
      exact hret ⟨(Option.some.inj h), rfl⟩ hI rfl dX6_edge_33
    · have h := zi_t hc h
      refine lv_bipush (v := (-102)) hx hb dX6_edge_21 lb_m102 ?_
      exact hret ⟨(Option.some.inj h), rfl⟩ hI rfl dX6_edge_23
  · have h := zi_t hc h
    refine lv_bipush (v := (-101)) hx hb dX6_edge_11 lb_m101 ?_
    exact hret ⟨(Option.some.inj h), rfl⟩ hI rfl dX6_edge_13
set_option maxRecDepth 100000 in
set_option maxHeartbeats 4000000 in
theorem c_X6_aim (l : Launch) (G : zG)  {σ σ' : SF} {r : Int32} {x1 : Int32} {x2 : Int32} {x3 : Int32} (h : F_X6_aim σ  x1 x2 x3 = some (r, σ')) : zMi l WF G yX6_aim cX6_aim 5 .int 38 [.ref (za G 0), .int x1, .int x2, .int x3] σ r σ' := by
  refine zMi_of (by decide) (Nat.le_of_ble_eq_true rfl) (fun p e s m args below meth c ls Q hx hb hr hlk hml hC hI hl hret => ?_)
  have hl : lv_has ls 5 [(0, .ref (za G 0)), (1, .int x1), (2, .int x2), (3, .int x3)] := hl
  have hC : zC WF G RX6 args s m := hC
  unfold F_X6_aim at h
  refine lv_aload_n hx hb dX6_aim_0 rfl (lv_at hl 0 rfl) ?_
  refine gX6_1 hx hb hC hI q_fl_X6_19 dX6_aim_1 ?_
  refine lv_iload_n hx hb dX6_aim_4 rfl (lv_at hl 1 rfl) ?_
  obtain ⟨r2, h1, h⟩ := zb_e h
  refine z_cVi (As := [.int x1]) (rest := []) hx hb hC (hml.trans hl.1.symm) hI (c_X1_has l G isJ3 h1) yyX1_has q_ml_X6_103 (oX1 G isJ3) rfl ⟨Nat.le_of_ble_eq_true rfl, Nat.le_of_ble_eq_true rfl⟩ rfl rfl (Nat.le_of_ble_eq_true rfl) ⟨Nat.le_refl _, Nat.le_refl _⟩ dX6_aim_5 (fun H locs hI => ?_)
  refine lv_if_eq (tgt := 22) hx hb dX6_aim_8 (by decide) (fun hc => ?_) (fun hc => ?_)
  · have h := zi_t hc h
    refine lv_bipush (v := (-101)) hx hb dX6_aim_22 lb_m101 ?_
    exact hret ⟨congrArg Prod.fst (Option.some.inj h), congrArg Prod.snd (Option.some.inj h)⟩ hI rfl dX6_aim_24
  · have h := zi_f hc h
    refine lv_aload_n hx hb dX6_aim_11 rfl (lv_at hl 0 rfl) ?_
    refine gX6_1 hx hb hC hI q_fl_X6_19 dX6_aim_12 ?_
    refine lv_iload_n hx hb dX6_aim_15 rfl (lv_at hl 3 rfl) ?_
    obtain ⟨r4, h3, h⟩ := zb_e h
    refine z_cVi (As := [.int x3]) (rest := []) hx hb hC (hml.trans hl.1.symm) hI (c_X1_has l G isJ3 h3) yyX1_has q_ml_X6_103 (oX1 G isJ3) rfl ⟨Nat.le_of_ble_eq_true rfl, Nat.le_of_ble_eq_true rfl⟩ rfl rfl (Nat.le_of_ble_eq_true rfl) ⟨Nat.le_refl _, Nat.le_refl _⟩ dX6_aim_16 (fun H locs hI => ?_)
    refine lv_if_ne (tgt := 25) hx hb dX6_aim_19 (by decide) (fun hc => ?_) (fun hc => ?_)
    · have h := zi_f hc h
      refine lv_iload_n hx hb dX6_aim_25 rfl (lv_at hl 2 rfl) ?_
      obtain ⟨r6, h5, h⟩ := zb_e h
      refine z_cSi (As := [.int x2]) (rest := []) hx hb hC (hml.trans hl.1.symm) hI (c_X6_isEnd l G  (σ := σ) h5) yyX6_isEnd q_ml_X6_145 ⟨Nat.le_of_ble_eq_true rfl, Nat.le_of_ble_eq_true rfl⟩ rfl rfl (Nat.le_of_ble_eq_true rfl) ⟨Nat.le_refl _, Nat.le_refl _⟩ dX6_aim_26 (fun H locs hI => ?_)
      refine lv_if_ne (tgt := 35) hx hb dX6_aim_29 (by decide) (fun hc => ?_) (fun hc => ?_)
      · have h := zi_f hc h
        refine lv_aload_n hx hb dX6_aim_35 rfl (lv_at hl 0 rfl) ?_
        refine gX6_1 hx hb hC hI q_fl_X6_19 dX6_aim_36 ?_
        refine lv_iload_n hx hb dX6_aim_39 rfl (lv_at hl 1 rfl) ?_
        refine lv_iload_n hx hb dX6_aim_40 rfl (lv_at hl 2 rfl) ?_
        obtain ⟨r8, h7, h⟩ := zb_e h
        refine z_cVi (As := [.int x1, .int x2]) (rest := []) hx hb hC (hml.trans hl.1.symm) hI (c_X1_target l G isJ3 h7) yyX1_target q_ml_X6_152 (oX1 G isJ3) rfl ⟨Nat.le_of_ble_eq_true rfl, Nat.le_of_ble_eq_true rfl⟩ rfl rfl (Nat.le_of_ble_eq_true rfl) ⟨Nat.le_refl _, Nat.le_refl _⟩ dX6_aim_41 (fun H locs hI => ?_)
        refine lv_istore (lv' := [(4, .int r8), (0, .ref (za G 0)), (1, .int x1), (2, .int x2), (3, .int x3)]) hx hb dX6_aim_44 hl (by decide) rfl (fun ls hl => ?_)
        refine lv_aload_n hx hb dX6_aim_46 rfl (lv_at hl 1 rfl) ?_
        refine gX6_1 hx hb hC hI q_fl_X6_19 dX6_aim_47 ?_
        refine lv_iload_n hx hb dX6_aim_50 rfl (lv_at hl 2 rfl) ?_
        refine lv_iload_n hx hb dX6_aim_51 rfl (lv_at hl 3 rfl) ?_
        refine lv_iload_n hx hb dX6_aim_52 rfl (lv_at hl 4 rfl) ?_
        obtain ⟨σ10, h9, h⟩ := zb_e h
        refine z_cVv (As := [.int x1, .int x2, .int x3]) (rest := []) hx hb hC (hml.trans hl.1.symm) hI (c_X1_put l G isJ3 h9) yyX1_put q_ml_X6_155 (oX1 G isJ3) rfl ⟨Nat.le_of_ble_eq_true rfl, Nat.le_of_ble_eq_true rfl⟩ rfl rfl (Nat.le_of_ble_eq_true rfl) ⟨Nat.le_refl _, Nat.le_refl _⟩ dX6_aim_53 (fun H locs hI => ?_)
        refine lv_aload_n hx hb dX6_aim_56 rfl (lv_at hl 1 rfl) ?_
        obtain ⟨σ12, h11, h⟩ := zb_e h
        refine z_cVv (As := []) (rest := []) hx hb hC (hml.trans hl.1.symm) hI (c_X6_lookAnew l G  h11) yyX6_lookAnew q_ml_X6_100 (oX6 G) rfl ⟨Nat.le_of_ble_eq_true rfl, Nat.le_of_ble_eq_true rfl⟩ rfl rfl (Nat.le_of_ble_eq_true rfl) ⟨Nat.le_refl _, Nat.le_refl _⟩ dX6_aim_57 (fun H locs hI => ?_)
        refine lv_iload hx hb dX6_aim_60 (lv_at hl 0 rfl) ?_
        exact hret ⟨congrArg Prod.fst (Option.some.inj h), congrArg Prod.snd (Option.some.inj h)⟩ hI rfl dX6_aim_62
      · have h := zi_t hc h
        refine lv_bipush (v := (-102)) hx hb dX6_aim_32 lb_m102 ?_
        exact hret ⟨congrArg Prod.fst (Option.some.inj h), congrArg Prod.snd (Option.some.inj h)⟩ hI rfl dX6_aim_34
    · have h := zi_t hc h
      refine lv_bipush (v := (-101)) hx hb dX6_aim_22 lb_m101 ?_
      exact hret ⟨congrArg Prod.fst (Option.some.inj h), congrArg Prod.snd (Option.some.inj h)⟩ hI rfl dX6_aim_24
set_option maxRecDepth 100000 in
set_option maxHeartbeats 4000000 in
theorem c_X6_be (l : Launch) (G : zG)  {σ σ' : SF} {r : Int32} {x1 : Int32} {x2 : Int32} (h : F_X6_be σ  x1 x2 = some (r, σ')) : zMi l WF G yX6_be cX6_be 4 .int 38 [.ref (za G 0), .int x1, .int x2] σ r σ' := by
  refine zMi_of (by decide) (Nat.le_of_ble_eq_true rfl) (fun p e s m args below meth c ls Q hx hb hr hlk hml hC hI hl hret => ?_)
  have hl : lv_has ls 4 [(0, .ref (za G 0)), (1, .int x1), (2, .int x2)] := hl
  have hC : zC WF G RX6 args s m := hC
  unfold F_X6_be at h
  refine lv_aload_n hx hb dX6_be_0 rfl (lv_at hl 0 rfl) ?_
  refine gX6_1 hx hb hC hI q_fl_X6_19 dX6_be_1 ?_
  refine lv_iload_n hx hb dX6_be_4 rfl (lv_at hl 1 rfl) ?_
  obtain ⟨r2, h1, h⟩ := zb_e h
  refine z_cVi (As := [.int x1]) (rest := []) hx hb hC (hml.trans hl.1.symm) hI (c_X1_has l G isJ3 h1) yyX1_has q_ml_X6_103 (oX1 G isJ3) rfl ⟨Nat.le_of_ble_eq_true rfl, Nat.le_of_ble_eq_true rfl⟩ rfl rfl (Nat.le_of_ble_eq_true rfl) ⟨Nat.le_refl _, Nat.le_refl _⟩ dX6_be_5 (fun H locs hI => ?_)
  refine lv_if_ne (tgt := 14) hx hb dX6_be_8 (by decide) (fun hc => ?_) (fun hc => ?_)
  · have h := zi_f hc h
    refine lv_iload_n hx hb dX6_be_14 rfl (lv_at hl 2 rfl) ?_
    obtain ⟨r4, h3, h⟩ := zb_e h
    refine z_cSi (As := [.int x2]) (rest := []) hx hb hC (hml.trans hl.1.symm) hI (c_X6_isKind l G  (σ := σ) h3) yyX6_isKind q_ml_X6_138 ⟨Nat.le_of_ble_eq_true rfl, Nat.le_of_ble_eq_true rfl⟩ rfl rfl (Nat.le_of_ble_eq_true rfl) ⟨Nat.le_refl _, Nat.le_refl _⟩ dX6_be_15 (fun H locs hI => ?_)
    refine lv_if_ne (tgt := 24) hx hb dX6_be_18 (by decide) (fun hc => ?_) (fun hc => ?_)
    · have h := zi_f hc h
      refine lv_aload_n hx hb dX6_be_24 rfl (lv_at hl 0 rfl) ?_
      refine gX6_1 hx hb hC hI q_fl_X6_19 dX6_be_25 ?_
      refine gX1_1 isJ3 hx hb hC hI q_fl_X6_106 dX6_be_28 ?_
      refine lv_iload_n hx hb dX6_be_31 rfl (lv_at hl 1 rfl) ?_
      obtain ⟨hg, h⟩ := zg_e h
      refine z_iald hx hb hC hI (vX1_1 G isJ3) hg dX6_be_32 ?_
      refine lv_topi (fun v5 e_v5 => ?_)
      have h := zl_e h e_v5
      refine lv_istore_n (lv' := [(3, .int v5), (0, .ref (za G 0)), (1, .int x1), (2, .int x2)]) hx hb dX6_be_33 rfl hl (by decide) rfl (fun ls hl => ?_)
      refine lv_aload_n hx hb dX6_be_34 rfl (lv_at hl 1 rfl) ?_
      refine gX6_1 hx hb hC hI q_fl_X6_19 dX6_be_35 ?_
      refine gX1_1 isJ3 hx hb hC hI q_fl_X6_106 dX6_be_38 ?_
      refine lv_iload_n hx hb dX6_be_41 rfl (lv_at hl 2 rfl) ?_
      refine lv_iload_n hx hb dX6_be_42 rfl (lv_at hl 3 rfl) ?_
      obtain ⟨hg, h⟩ := zg_e h
      refine z_iast hx hb hC hI (vX1_1 G isJ3) hg dX6_be_43 (fun σ6 H locs e_σ6 hI => ?_)
      have h := zl_e h e_σ6
      refine lv_aload_n hx hb dX6_be_44 rfl (lv_at hl 1 rfl) ?_
      obtain ⟨σ8, h7, h⟩ := zb_e h
      refine z_cVv (As := []) (rest := []) hx hb hC (hml.trans hl.1.symm) hI (c_X6_lookAnew l G  h7) yyX6_lookAnew q_ml_X6_100 (oX6 G) rfl ⟨Nat.le_of_ble_eq_true rfl, Nat.le_of_ble_eq_true rfl⟩ rfl rfl (Nat.le_of_ble_eq_true rfl) ⟨Nat.le_refl _, Nat.le_refl _⟩ dX6_be_45 (fun H locs hI => ?_)
      refine lv_iload_n hx hb dX6_be_48 rfl (lv_at hl 0 rfl) ?_
      exact hret ⟨congrArg Prod.fst (Option.some.inj h), congrArg Prod.snd (Option.some.inj h)⟩ hI rfl dX6_be_49
    · have h := zi_t hc h
      refine lv_bipush (v := (-102)) hx hb dX6_be_21 lb_m102 ?_
      exact hret ⟨congrArg Prod.fst (Option.some.inj h), congrArg Prod.snd (Option.some.inj h)⟩ hI rfl dX6_be_23
  · have h := zi_t hc h
    refine lv_bipush (v := (-101)) hx hb dX6_be_11 lb_m101 ?_
    exact hret ⟨congrArg Prod.fst (Option.some.inj h), congrArg Prod.snd (Option.some.inj h)⟩ hI rfl dX6_be_13
set_option maxRecDepth 100000 in
set_option maxHeartbeats 4000000 in
theorem c_X6_walk (l : Launch) (G : zG)  {σ σ' : SF} {r : Int32} {x1 : Int32} (h : F_X6_walk σ  x1 = some (r, σ')) : zMi l WF G yX6_walk cX6_walk 2 .int 4 [.ref (za G 0), .int x1] σ r σ' := by
  refine zMi_of (by decide) (Nat.le_of_ble_eq_true rfl) (fun p e s m args below meth c ls Q hx hb hr hlk hml hC hI hl hret => ?_)
  have hl : lv_has ls 2 [(0, .ref (za G 0)), (1, .int x1)] := hl
  have hC : zC WF G RX6 args s m := hC
  unfold F_X6_walk at h
  refine lv_iload_n hx hb dX6_walk_0 rfl (lv_at hl 1 rfl) ?_
  refine lv_if_ge (tgt := 7) hx hb dX6_walk_1 (by decide) (fun hc => ?_) (fun hc => ?_)
  · have h := zi_t hc h
    refine lv_aload_n hx hb dX6_walk_7 rfl (lv_at hl 0 rfl) ?_
    refine gX6_1 hx hb hC hI q_fl_X6_19 dX6_walk_8 ?_
    refine gX1_0 isJ3 hx hb hC hI q_fl_X6_86 dX6_walk_11 ?_
    refine lv_if_ne (tgt := 20) hx hb dX6_walk_14 (by decide) (fun hc => ?_) (fun hc => ?_)
    · have h := zi_f hc h
      refine lv_aload_n hx hb dX6_walk_20 rfl (lv_at hl 0 rfl) ?_
      refine gX6_4 hx hb hC hI q_fl_X6_44 dX6_walk_21 ?_
      refine lv_aload_n hx hb dX6_walk_24 rfl (lv_at hl 0 rfl) ?_
      refine gX6_1 hx hb hC hI q_fl_X6_19 dX6_walk_25 ?_
      refine lv_iload_n hx hb dX6_walk_28 rfl (lv_at hl 1 rfl) ?_
      obtain ⟨σ2, h1, h⟩ := zb_e h
      refine z_cVv (As := [.ref (za G 3), .int x1]) (rest := []) hx hb hC (hml.trans hl.1.symm) hI (c_X5_go l G  h1) yyX5_go q_ml_X6_159 (oX5 G) rfl ⟨Nat.le_of_ble_eq_true rfl, Nat.le_of_ble_eq_true rfl⟩ rfl rfl (Nat.le_of_ble_eq_true rfl) ⟨Nat.le_refl _, Nat.le_refl _⟩ dX6_walk_29 (fun H locs hI => ?_)
      refine lv_aload_n hx hb dX6_walk_32 rfl (lv_at hl 0 rfl) ?_
      refine gX6_4 hx hb hC hI q_fl_X6_44 dX6_walk_33 ?_
      refine gX5_1 hx hb hC hI q_fl_X6_95 dX6_walk_36 ?_
      exact hret ⟨congrArg Prod.fst (Option.some.inj h), congrArg Prod.snd (Option.some.inj h)⟩ hI rfl dX6_walk_39
    · have h := zi_t hc h
      refine lv_bipush (v := (-103)) hx hb dX6_walk_17 lb_m103 ?_
      exact hret ⟨congrArg Prod.fst (Option.some.inj h), congrArg Prod.snd (Option.some.inj h)⟩ hI rfl dX6_walk_19
  · have h := zi_f hc h
    refine lv_bipush (v := (-102)) hx hb dX6_walk_4 lb_m102 ?_
    exact hret ⟨congrArg Prod.fst (Option.some.inj h), congrArg Prod.snd (Option.some.inj h)⟩ hI rfl dX6_walk_6
set_option maxRecDepth 100000 in
set_option maxHeartbeats 4000000 in
theorem c_X6_visit (l : Launch) (G : zG)  {σ : SF} {r : Int32} {x1 : Int32} (h : F_X6_visit σ  x1 = some r) : zMi l WF G yX6_visit cX6_visit 2 .int 1 [.ref (za G 0), .int x1] σ r σ := by
  refine zMi_of (by decide) (Nat.le_of_ble_eq_true rfl) (fun p e s m args below meth c ls Q hx hb hr hlk hml hC hI hl hret => ?_)
  have hl : lv_has ls 2 [(0, .ref (za G 0)), (1, .int x1)] := hl
  have hC : zC WF G RX6 args s m := hC
  unfold F_X6_visit at h
  refine lv_iload_n hx hb dX6_visit_0 rfl (lv_at hl 1 rfl) ?_
  refine lv_if_lt (tgt := 27) hx hb dX6_visit_1 (by decide) (fun hc => ?_) (fun hc => ?_)
  · have h := zi_t hc h
    refine lv_bipush (v := (-101)) hx hb dX6_visit_27 lb_m101 ?_
    exact hret ⟨(Option.some.inj h), rfl⟩ hI rfl dX6_visit_29
  · have h := zi_f hc h
    refine lv_iload_n hx hb dX6_visit_4 rfl (lv_at hl 1 rfl) ?_
    refine lv_aload_n hx hb dX6_visit_5 rfl (lv_at hl 0 rfl) ?_
    refine gX6_4 hx hb hC hI q_fl_X6_44 dX6_visit_6 ?_
    refine gX5_1 hx hb hC hI q_fl_X6_95 dX6_visit_9 ?_
    refine lv_icmp_ge (tgt := 27) hx hb dX6_visit_12 (by decide) (fun hc => ?_) (fun hc => ?_)
    · have h := zi_t hc h
      refine lv_bipush (v := (-101)) hx hb dX6_visit_27 lb_m101 ?_
      exact hret ⟨(Option.some.inj h), rfl⟩ hI rfl dX6_visit_29
    · have h := zi_f hc h
      refine lv_aload_n hx hb dX6_visit_15 rfl (lv_at hl 0 rfl) ?_
      refine gX6_4 hx hb hC hI q_fl_X6_44 dX6_visit_16 ?_
      refine gX5_0 hx hb hC hI q_fl_X6_163 dX6_visit_19 ?_
      refine lv_iload_n hx hb dX6_visit_22 rfl (lv_at hl 1 rfl) ?_
      obtain ⟨hg, h⟩ := zg_e h
      refine z_iald hx hb hC hI (vX5_0 G) hg dX6_visit_23 ?_
      refine lv_goto (tgt := 29) hx hb dX6_visit_24 (by decide) ?_
      exact hret ⟨(Option.some.inj h), rfl⟩ hI rfl dX6_visit_29
set_option maxRecDepth 100000 in
set_option maxHeartbeats 4000000 in
theorem c_X6_sign (l : Launch) (G : zG)  {σ : SF} {r : Int32} {x1 : Int32} (h : F_X6_sign σ  x1 = some r) : zMi l WF G yX6_sign cX6_sign 2 .int 1 [.ref (za G 0), .int x1] σ r σ := by
  refine zMi_of (by decide) (Nat.le_of_ble_eq_true rfl) (fun p e s m args below meth c ls Q hx hb hr hlk hml hC hI hl hret => ?_)
  have hl : lv_has ls 2 [(0, .ref (za G 0)), (1, .int x1)] := hl
  have hC : zC WF G RX6 args s m := hC
  unfold F_X6_sign at h
  refine lv_iload_n hx hb dX6_sign_0 rfl (lv_at hl 1 rfl) ?_
  refine lv_if_lt (tgt := 27) hx hb dX6_sign_1 (by decide) (fun hc => ?_) (fun hc => ?_)
  · have h := zi_t hc h
    refine lv_bipush (v := (-101)) hx hb dX6_sign_27 lb_m101 ?_
    exact hret ⟨(Option.some.inj h), rfl⟩ hI rfl dX6_sign_29
  · have h := zi_f hc h
    refine lv_iload_n hx hb dX6_sign_4 rfl (lv_at hl 1 rfl) ?_
    refine lv_aload_n hx hb dX6_sign_5 rfl (lv_at hl 0 rfl) ?_
    refine gX6_3 hx hb hC hI q_fl_X6_37 dX6_sign_6 ?_
    refine gX4_3 hx hb hC hI q_fl_X6_166 dX6_sign_9 ?_
    refine lv_icmp_ge (tgt := 27) hx hb dX6_sign_12 (by decide) (fun hc => ?_) (fun hc => ?_)
    · have h := zi_t hc h
      refine lv_bipush (v := (-101)) hx hb dX6_sign_27 lb_m101 ?_
      exact hret ⟨(Option.some.inj h), rfl⟩ hI rfl dX6_sign_29
    · have h := zi_f hc h
      refine lv_aload_n hx hb dX6_sign_15 rfl (lv_at hl 0 rfl) ?_
      refine gX6_3 hx hb hC hI q_fl_X6_37 dX6_sign_16 ?_
      refine gX4_2 hx hb hC hI q_fl_X6_167 dX6_sign_19 ?_
      refine lv_iload_n hx hb dX6_sign_22 rfl (lv_at hl 1 rfl) ?_
      obtain ⟨hg, h⟩ := zg_e h
      refine z_iald hx hb hC hI (vX4_2 G) hg dX6_sign_23 ?_
      refine lv_goto (tgt := 29) hx hb dX6_sign_24 (by decide) ?_
      exact hret ⟨(Option.some.inj h), rfl⟩ hI rfl dX6_sign_29
set_option maxRecDepth 100000 in
set_option maxHeartbeats 4000000 in
theorem c_X6_fold (l : Launch) (G : zG)  {σ : SF} {r : Int32} {x1 : Int32} (h : F_X6_fold σ  x1 = some r) : zMi l WF G yX6_fold cX6_fold 2 .int 2 [.ref (za G 0), .int x1] σ r σ := by
  refine zMi_of (by decide) (Nat.le_of_ble_eq_true rfl) (fun p e s m args below meth c ls Q hx hb hr hlk hml hC hI hl hret => ?_)
  have hl : lv_has ls 2 [(0, .ref (za G 0)), (1, .int x1)] := hl
  have hC : zC WF G RX6 args s m := hC
  unfold F_X6_fold at h
  refine lv_iload_n hx hb dX6_fold_0 rfl (lv_at hl 1 rfl) ?_
  refine lv_if_lt (tgt := 9) hx hb dX6_fold_1 (by decide) (fun hc => ?_) (fun hc => ?_)
  · have h := zi_t hc h
    refine lv_bipush (v := (-102)) hx hb dX6_fold_9 lb_m102 ?_
    exact hret ⟨(Option.some.inj h), rfl⟩ hI rfl dX6_fold_11
  · have h := zi_f hc h
    refine lv_iload_n hx hb dX6_fold_4 rfl (lv_at hl 1 rfl) ?_
    refine lv_iconst (v := 4) hx hb dX6_fold_5 lc_4 ?_
    refine lv_icmp_lt (tgt := 12) hx hb dX6_fold_6 (by decide) (fun hc => ?_) (fun hc => ?_)
    · have h := zi_t hc h
      refine lv_aload_n hx hb dX6_fold_12 rfl (lv_at hl 0 rfl) ?_
      refine gX6_1 hx hb hC hI q_fl_X6_19 dX6_fold_13 ?_
      refine gX1_0 isJ3 hx hb hC hI q_fl_X6_86 dX6_fold_16 ?_
      refine lv_if_ne (tgt := 25) hx hb dX6_fold_19 (by decide) (fun hc => ?_) (fun hc => ?_)
      · have h := zi_f hc h
        refine lv_aload_n hx hb dX6_fold_25 rfl (lv_at hl 0 rfl) ?_
        refine gX6_2 hx hb hC hI q_fl_X6_28 dX6_fold_26 ?_
        obtain ⟨r2, h1, h⟩ := zb_e h
        refine z_cVi (As := []) (rest := []) hx hb hC (hml.trans hl.1.symm) hI (c_X0_folds l G isF3 h1) yyX0_folds q_ml_X6_168 (oX0 G isF3) rfl ⟨Nat.le_of_ble_eq_true rfl, Nat.le_of_ble_eq_true rfl⟩ rfl rfl (Nat.le_of_ble_eq_true rfl) ⟨Nat.le_refl _, Nat.le_refl _⟩ dX6_fold_29 (fun H locs hI => ?_)
        refine lv_if_ne (tgt := 37) hx hb dX6_fold_32 (by decide) (fun hc => ?_) (fun hc => ?_)
        · have h := zi_f hc h
          refine lv_iload_n hx hb dX6_fold_37 rfl (lv_at hl 1 rfl) ?_
          by_cases n_38_0 : x1 = 0
          · have h := zi_t n_38_0 h
            refine lv_tableIn (tgt := 64) hx hb dX6_fold_38 (by rw [n_38_0]; decide) (by rw [n_38_0]; decide) (by rw [n_38_0]; rfl) (by decide) ?_
            refine lv_aload_n hx hb dX6_fold_64 rfl (lv_at hl 0 rfl) ?_
            refine gX6_3 hx hb hC hI q_fl_X6_37 dX6_fold_65 ?_
            refine gX4_3 hx hb hC hI q_fl_X6_166 dX6_fold_68 ?_
            exact hret ⟨(Option.some.inj h), rfl⟩ hI rfl dX6_fold_71
          have h := zi_f n_38_0 h
          by_cases n_38_1 : x1 = 1
          · have h := zi_t n_38_1 h
            refine lv_tableIn (tgt := 72) hx hb dX6_fold_38 (by rw [n_38_1]; decide) (by rw [n_38_1]; decide) (by rw [n_38_1]; rfl) (by decide) ?_
            refine lv_aload_n hx hb dX6_fold_72 rfl (lv_at hl 0 rfl) ?_
            refine gX6_3 hx hb hC hI q_fl_X6_37 dX6_fold_73 ?_
            refine gX4_4 hx hb hC hI q_fl_X6_172 dX6_fold_76 ?_
            exact hret ⟨(Option.some.inj h), rfl⟩ hI rfl dX6_fold_79
          have h := zi_f n_38_1 h
          by_cases n_38_2 : x1 = 2
          · have h := zi_t n_38_2 h
            refine lv_tableIn (tgt := 80) hx hb dX6_fold_38 (by rw [n_38_2]; decide) (by rw [n_38_2]; decide) (by rw [n_38_2]; rfl) (by decide) ?_
            refine lv_aload_n hx hb dX6_fold_80 rfl (lv_at hl 0 rfl) ?_
            refine gX6_3 hx hb hC hI q_fl_X6_37 dX6_fold_81 ?_
            refine gX4_5 hx hb hC hI q_fl_X6_175 dX6_fold_84 ?_
            exact hret ⟨(Option.some.inj h), rfl⟩ hI rfl dX6_fold_87
          have h := zi_f n_38_2 h
          have t_38 : (x1 : Int32).toInt ≠ 0 ∧ (x1 : Int32).toInt ≠ 1 ∧ (x1 : Int32).toInt ≠ 2 := by
            exact ⟨zne_toInt n_38_0, zne_toInt n_38_1, zne_toInt n_38_2⟩
          refine lv_tableOut (tgt := 88) hx hb dX6_fold_38 (by omega) (by decide) ?_
          refine lv_aload_n hx hb dX6_fold_88 rfl (lv_at hl 0 rfl) ?_
          refine gX6_3 hx hb hC hI q_fl_X6_37 dX6_fold_89 ?_
          refine gX4_6 hx hb hC hI q_fl_X6_178 dX6_fold_92 ?_
          exact hret ⟨(Option.some.inj h), rfl⟩ hI rfl dX6_fold_95
        · have h := zi_t hc h
          refine lv_iconst (v := (-1)) hx hb dX6_fold_35 lc_m1 ?_
          exact hret ⟨(Option.some.inj h), rfl⟩ hI rfl dX6_fold_36
      · have h := zi_t hc h
        refine lv_bipush (v := (-103)) hx hb dX6_fold_22 lb_m103 ?_
        exact hret ⟨(Option.some.inj h), rfl⟩ hI rfl dX6_fold_24
    · have h := zi_f hc h
      refine lv_bipush (v := (-102)) hx hb dX6_fold_9 lb_m102 ?_
      exact hret ⟨(Option.some.inj h), rfl⟩ hI rfl dX6_fold_11
set_option maxRecDepth 100000 in
set_option maxHeartbeats 4000000 in
theorem cb_X6_leastLeftOut (l : Launch) (G : zG)  {d : Nat} (hd : 30 ≤ d) {rec : SF → Int32 → Int32 → Int32 → Option (Int32 × SF)} (hrec : ∀ {σ : SF} {x1 x2 x3 : Int32} {r : Int32} {σ' : SF}, rec σ x1 x2 x3 = some (r, σ') → zMi l WF G yX6_leastLeftOut cX6_leastLeftOut 6 .int d [.ref (za G 0), .int x1, .int x2, .int x3] σ r σ') {σ σ' : SF} {r : Int32} {x1 : Int32} {x2 : Int32} {x3 : Int32} (h : B_X6_leastLeftOut rec σ  x1 x2 x3 = some (r, σ')) : zMi l WF G yX6_leastLeftOut cX6_leastLeftOut 6 .int (d + 1) [.ref (za G 0), .int x1, .int x2, .int x3] σ r σ' := by
  refine zMi_of (by decide) (Nat.le_of_ble_eq_true rfl) (fun p e s m args below meth c ls Q hx hb hr hlk hml hC hI hl hret => ?_)
  have hl : lv_has ls 6 [(0, .ref (za G 0)), (1, .int x1), (2, .int x2), (3, .int x3)] := hl
  have hC : zC WF G RX6 args s m := hC
  have w_33 : ∀ (n : Nat) (y1 : Int32) (y2 : Int32) (y3 : Int32) (y4 : Int32) (σ : SF) (u : (Int32 × SF) ⊕ (Int32 × SF)), L_X6_leastLeftOut_33 rec y1 y2 y3 n y4 σ = some u → ∀ (H : Heap) (locs : List Loc) (ls : Array Slot), zI WF G s σ H locs → lv_has ls 6 [(0, .ref (za G 0)), (1, .int y1), (2, .int y2), (3, .int y3), (4, .int y4)] → (∀ ρ, u = .inl ρ → ρ = (r, σ')) → (∀ (y4o : Int32) (σo : SF), u = .inr (y4o, σo) → ∀ (H : Heap) (locs : List Loc) (ls : Array Slot), zI WF G s σo H locs → lv_has ls 6 [(0, .ref (za G 0)), (1, .int y1), (2, .int y2), (3, .int y3), (4, .int y4o)] → W p l e (zR (d + 1)) s m args below meth c H locs 0 0 Q (F0 m 90 ls [])) → W p l e (zR (d + 1)) s m args below meth c H locs 0 0 Q (F0 m 33 ls []) := by
    intro n
    induction n with
    | zero => intro y1 y2 y3 y4 σ u h; cases h
    | succ n ih =>
      intro y1 y2 y3 y4 σ u h H locs ls hI hl kR kE
      unfold L_X6_leastLeftOut_33 at h
      refine lv_iload hx hb dX6_leastLeftOut_33 (lv_at hl 4 rfl) ?_
      refine lv_iload_n hx hb dX6_leastLeftOut_35 rfl (lv_at hl 2 rfl) ?_
      refine lv_icmp_ge (tgt := 90) hx hb dX6_leastLeftOut_36 (by decide) (fun hc => ?_) (fun hc => ?_)
      · have h := zi_t hc h
        exact kE _ _ (Option.some.inj h).symm _ _ _ hI (lv_sub hl [0, 1, 2, 3, 4] rfl)
      · have h := zi_f hc h
        refine lv_aload_n hx hb dX6_leastLeftOut_39 rfl (lv_at hl 0 rfl) ?_
        refine gX6_2 hx hb hC hI q_fl_X6_28 dX6_leastLeftOut_40 ?_
        refine lv_iload hx hb dX6_leastLeftOut_43 (lv_at hl 4 rfl) ?_
        refine lv_iconst (v := 2) hx hb dX6_leastLeftOut_45 lc_2 ?_
        refine lv_idiv hx hb dX6_leastLeftOut_46 (by decide) ?_
        refine lv_iload hx hb dX6_leastLeftOut_47 (lv_at hl 4 rfl) ?_
        refine lv_iconst (v := 2) hx hb dX6_leastLeftOut_49 lc_2 ?_
        refine lv_irem hx hb dX6_leastLeftOut_50 (by decide) ?_
        obtain ⟨r3, h2, h⟩ := zb_e h
        refine z_cVi (As := [.int (y4 / 2), .int (y4 - y4 / 2 * 2)]) (rest := []) hx hb hC (hml.trans hl.1.symm) hI (c_X0_stateOf l G isF3 h2) yyX0_stateOf q_ml_X6_148 (oX0 G isF3) rfl ⟨by show _ ≤ (d + 1); omega, by show _ ≤ 100 * (d + 1); omega⟩ rfl rfl (Nat.le_of_ble_eq_true rfl) ⟨Nat.le_refl _, Nat.le_refl _⟩ dX6_leastLeftOut_51 (fun H locs hI => ?_)
        refine lv_iconst (v := (-1)) hx hb dX6_leastLeftOut_54 lc_m1 ?_
        refine lv_icmp_eq (tgt := 84) hx hb dX6_leastLeftOut_55 (by decide) (fun hc => ?_) (fun hc => ?_)
        · have h := zi_t hc h
          obtain ⟨v4, e_v4⟩ : ∃ y : Int32, y = y4 + 1 := ⟨_, rfl⟩
          have h := zl_e h e_v4
          refine lv_iinc (v := v4) (lv' := [(4, .int v4), (0, .ref (za G 0)), (1, .int y1), (2, .int y2), (3, .int y3)]) hx hb dX6_leastLeftOut_84 hl (k := 4) rfl (by rw [lc_1]; exact e_v4.symm) (by decide) rfl (fun ls hl => ?_)
          refine lv_goto (tgt := 33) hx hb dX6_leastLeftOut_87 (by decide) ?_
          exact ih y1 y2 y3 v4 σ u h _ _ _ hI (lv_sub hl [1, 2, 3, 4, 0] rfl) kR kE
        · have h := zi_f hc h
          refine lv_aload_n hx hb dX6_leastLeftOut_58 rfl (lv_at hl 0 rfl) ?_
          refine lv_iload_n hx hb dX6_leastLeftOut_59 rfl (lv_at hl 1 rfl) ?_
          refine lv_iconst (v := 1) hx hb dX6_leastLeftOut_60 lc_1 ?_
          refine lv_isub hx hb dX6_leastLeftOut_61 ?_
          refine lv_iload hx hb dX6_leastLeftOut_62 (lv_at hl 4 rfl) ?_
          refine lv_iload_n hx hb dX6_leastLeftOut_64 rfl (lv_at hl 3 rfl) ?_
          refine lv_iconst (v := 1) hx hb dX6_leastLeftOut_65 lc_1 ?_
          refine lv_iload hx hb dX6_leastLeftOut_66 (lv_at hl 4 rfl) ?_
          refine lv_ishl hx hb dX6_leastLeftOut_68 ?_
          refine lv_ior hx hb dX6_leastLeftOut_69 ?_
          obtain ⟨r7, σ6, h5, h⟩ := zb2_e h
          refine z_cVi (As := [.int (y1 - 1), .int y4, .int (y3 ||| ((1 : Int32) <<< (y4 &&& 31)))]) (rest := []) hx hb hC (hml.trans hl.1.symm) hI (hrec h5) yyX6_leastLeftOut q_ml_X6_248 (oX6 G) rfl ⟨by show _ ≤ (d + 1); omega, by show _ ≤ 100 * (d + 1); omega⟩ rfl rfl (Nat.le_of_ble_eq_true rfl) ⟨Nat.le_refl _, Nat.le_refl _⟩ dX6_leastLeftOut_70 (fun H locs hI => ?_)
          refine lv_istore (lv' := [(5, .int r7), (0, .ref (za G 0)), (1, .int y1), (2, .int y2), (3, .int y3), (4, .int y4)]) hx hb dX6_leastLeftOut_73 hl (by decide) rfl (fun ls hl => ?_)
          refine lv_iload hx hb dX6_leastLeftOut_75 (lv_at hl 0 rfl) ?_
          refine lv_iconst (v := (-1)) hx hb dX6_leastLeftOut_77 lc_m1 ?_
          refine lv_icmp_eq (tgt := 84) hx hb dX6_leastLeftOut_78 (by decide) (fun hc => ?_) (fun hc => ?_)
          · have h := zi_t hc h
            obtain ⟨v8, e_v8⟩ : ∃ y : Int32, y = y4 + 1 := ⟨_, rfl⟩
            have h := zl_e h e_v8
            refine lv_iinc (v := v8) (lv' := [(4, .int v8), (5, .int r7), (0, .ref (za G 0)), (1, .int y1), (2, .int y2), (3, .int y3)]) hx hb dX6_leastLeftOut_84 hl (k := 5) rfl (by rw [lc_1]; exact e_v8.symm) (by decide) rfl (fun ls hl => ?_)
            refine lv_goto (tgt := 33) hx hb dX6_leastLeftOut_87 (by decide) ?_
            exact ih y1 y2 y3 v8 σ6 u h _ _ _ hI (lv_sub hl [2, 3, 4, 5, 0] rfl) kR kE
          · have h := zi_f hc h
            refine lv_iload hx hb dX6_leastLeftOut_81 (lv_at hl 0 rfl) ?_
            exact hret ⟨congrArg Prod.fst (kR _ (Option.some.inj h).symm), congrArg Prod.snd (kR _ (Option.some.inj h).symm)⟩ hI rfl dX6_leastLeftOut_83
  unfold B_X6_leastLeftOut at h
  refine lv_iload_n hx hb dX6_leastLeftOut_0 rfl (lv_at hl 1 rfl) ?_
  refine lv_if_gt (tgt := 28) hx hb dX6_leastLeftOut_1 (by decide) (fun hc => ?_) (fun hc => ?_)
  · have h := zi_t hc h
    refine lv_iload_n hx hb dX6_leastLeftOut_28 rfl (lv_at hl 1 rfl) ?_
    refine lv_iconst (v := 1) hx hb dX6_leastLeftOut_29 lc_1 ?_
    refine lv_isub hx hb dX6_leastLeftOut_30 ?_
    refine lv_topi (fun v1 e_v1 => ?_)
    have h := zl_e h e_v1
    refine lv_istore (lv' := [(4, .int v1), (0, .ref (za G 0)), (1, .int x1), (2, .int x2), (3, .int x3)]) hx hb dX6_leastLeftOut_31 hl (by decide) rfl (fun ls hl => ?_)
    obtain ⟨u12, h11, hR, hE⟩ := zs_e h
    refine w_33 100 x1 x2 x3 v1 σ u12 h11 _ _ _ hI (lv_sub hl [1, 2, 3, 4, 0] rfl) (fun ρ eρ => Option.some.inj (hR ρ eρ)) (fun v9 σ10 e_h11 H locs ls hI hl => ?_)
    have h := zb2_s (hE _ e_h11)
    refine lv_iconst (v := (-1)) hx hb dX6_leastLeftOut_90 lc_m1 ?_
    exact hret ⟨congrArg Prod.fst (Option.some.inj h), congrArg Prod.snd (Option.some.inj h)⟩ hI rfl dX6_leastLeftOut_91
  · have h := zi_f hc h
    refine lv_aload_n hx hb dX6_leastLeftOut_4 rfl (lv_at hl 0 rfl) ?_
    refine gX6_9 hx hb hC hI q_fl_X6_64 dX6_leastLeftOut_5 ?_
    refine lv_iload_n hx hb dX6_leastLeftOut_8 rfl (lv_at hl 3 rfl) ?_
    obtain ⟨σ15, h14, h⟩ := zb_e h
    refine z_cVv (As := [.int x3]) (rest := []) hx hb hC (hml.trans hl.1.symm) hI (c_X0_look l G isF31 h14) yyX0_look q_ml_X6_199 (oX0 G isF31) rfl ⟨by show _ ≤ (d + 1); omega, by show _ ≤ 100 * (d + 1); omega⟩ rfl rfl (Nat.le_of_ble_eq_true rfl) ⟨Nat.le_refl _, Nat.le_refl _⟩ dX6_leastLeftOut_9 (fun H locs hI => ?_)
    refine lv_aload_n hx hb dX6_leastLeftOut_12 rfl (lv_at hl 0 rfl) ?_
    refine gX6_9 hx hb hC hI q_fl_X6_64 dX6_leastLeftOut_13 ?_
    obtain ⟨r17, h16, h⟩ := zb_e h
    refine z_cVi (As := []) (rest := []) hx hb hC (hml.trans hl.1.symm) hI (c_X0_folds l G isF31 h16) yyX0_folds q_ml_X6_168 (oX0 G isF31) rfl ⟨by show _ ≤ (d + 1); omega, by show _ ≤ 100 * (d + 1); omega⟩ rfl rfl (Nat.le_of_ble_eq_true rfl) ⟨Nat.le_refl _, Nat.le_refl _⟩ dX6_leastLeftOut_16 (fun H locs hI => ?_)
    refine lv_if_eq (tgt := 26) hx hb dX6_leastLeftOut_19 (by decide) (fun hc => ?_) (fun hc => ?_)
    · have h := zi_t hc h
      refine lv_iconst (v := (-1)) hx hb dX6_leastLeftOut_26 lc_m1 ?_
      exact hret ⟨congrArg Prod.fst (Option.some.inj h), congrArg Prod.snd (Option.some.inj h)⟩ hI rfl dX6_leastLeftOut_27
    · have h := zi_f hc h
      refine lv_iload_n hx hb dX6_leastLeftOut_22 rfl (lv_at hl 3 rfl) ?_
      refine lv_goto (tgt := 27) hx hb dX6_leastLeftOut_23 (by decide) ?_
      exact hret ⟨congrArg Prod.fst (Option.some.inj h), congrArg Prod.snd (Option.some.inj h)⟩ hI rfl dX6_leastLeftOut_27
theorem c_X6_leastLeftOut (l : Launch) (G : zG)  : ∀ (n : Nat) {σ σ' : SF} {r : Int32} {x1 : Int32} {x2 : Int32} {x3 : Int32}, F_X6_leastLeftOut n σ  x1 x2 x3 = some (r, σ') → zMi l WF G yX6_leastLeftOut cX6_leastLeftOut 6 .int (30 + 1 * n) [.ref (za G 0), .int x1, .int x2, .int x3] σ r σ'
  | 0 => fun h => by cases h
  | n + 1 => fun h => cb_X6_leastLeftOut l G  (d := 30 + 1 * n) (by omega) (fun h => c_X6_leastLeftOut l G  n h) h
set_option maxRecDepth 100000 in
set_option maxHeartbeats 4000000 in
theorem c_X6_fewestLeftOut (l : Launch) (G : zG)  {σ σ' : SF} {r : Int32} (h : F_X6_fewestLeftOut σ   = some (r, σ')) : zMi l WF G yX6_fewestLeftOut cX6_fewestLeftOut 3 .int 36 [.ref (za G 0)] σ r σ' := by
  refine zMi_of (by decide) (Nat.le_of_ble_eq_true rfl) (fun p e s m args below meth c ls Q hx hb hr hlk hml hC hI hl hret => ?_)
  have hl : lv_has ls 3 [(0, .ref (za G 0))] := hl
  have hC : zC WF G RX6 args s m := hC
  have w_15 : ∀ (n : Nat) (y1 : Int32) (y2 : Int32) (σ : SF) (y1o : Int32) (y2o : Int32) (σo : SF), L_X6_fewestLeftOut_15 n y1 y2 σ = some (y1o, y2o, σo) → ∀ (H : Heap) (locs : List Loc) (ls : Array Slot), zI WF G s σ H locs → lv_has ls 3 [(0, .ref (za G 0)), (1, .int y1), (2, .int y2)] → (∀ (H : Heap) (locs : List Loc) (ls : Array Slot), zI WF G s σo H locs → lv_has ls 3 [(0, .ref (za G 0)), (1, .int y1o), (2, .int y2o)] → W p l e (zR 36) s m args below meth c H locs 0 0 Q (F0 m 40 ls [])) → W p l e (zR 36) s m args below meth c H locs 0 0 Q (F0 m 15 ls []) := by
    intro n
    induction n with
    | zero => intro y1 y2 σ y1o y2o σo h; cases h
    | succ n ih =>
      intro y1 y2 σ y1o y2o σo h H locs ls hI hl kE
      unfold L_X6_fewestLeftOut_15 at h
      refine lv_iload_n hx hb dX6_fewestLeftOut_15 rfl (lv_at hl 2 rfl) ?_
      refine lv_iconst (v := 3) hx hb dX6_fewestLeftOut_16 lc_3 ?_
      refine lv_icmp_gt (tgt := 40) hx hb dX6_fewestLeftOut_17 (by decide) (fun hc => ?_) (fun hc => ?_)
      · have h := zi_t hc h
        cases h
        exact kE _ _ _ hI (lv_sub hl [0, 1, 2] rfl)
      · have h := zi_f hc h
        refine lv_iload_n hx hb dX6_fewestLeftOut_20 rfl (lv_at hl 1 rfl) ?_
        refine lv_iconst (v := (-1)) hx hb dX6_fewestLeftOut_21 lc_m1 ?_
        refine lv_icmp_ne (tgt := 40) hx hb dX6_fewestLeftOut_22 (by decide) (fun hc => ?_) (fun hc => ?_)
        · have h := zi_f hc h
          cases h
          exact kE _ _ _ hI (lv_sub hl [0, 1, 2] rfl)
        · have h := zi_t hc h
          refine lv_aload_n hx hb dX6_fewestLeftOut_25 rfl (lv_at hl 0 rfl) ?_
          refine lv_iload_n hx hb dX6_fewestLeftOut_26 rfl (lv_at hl 2 rfl) ?_
          refine lv_bipush (v := 16) hx hb dX6_fewestLeftOut_27 lb_16 ?_
          refine lv_iconst (v := 0) hx hb dX6_fewestLeftOut_29 lc_0 ?_
          obtain ⟨r5, σ4, h3, h⟩ := zb2_e h
          refine z_cVi (As := [.int y2, .int 16, .int 0]) (rest := []) hx hb hC (hml.trans hl.1.symm) hI (c_X6_leastLeftOut l G  5 h3) yyX6_leastLeftOut q_ml_X6_248 (oX6 G) rfl ⟨Nat.le_of_ble_eq_true rfl, Nat.le_of_ble_eq_true rfl⟩ rfl rfl (Nat.le_of_ble_eq_true rfl) ⟨Nat.le_refl _, Nat.le_refl _⟩ dX6_fewestLeftOut_30 (fun H locs hI => ?_)
          refine lv_istore_n (lv' := [(1, .int r5), (0, .ref (za G 0)), (2, .int y2)]) hx hb dX6_fewestLeftOut_33 rfl hl (by decide) rfl (fun ls hl => ?_)
          obtain ⟨v6, e_v6⟩ : ∃ y : Int32, y = y2 + 1 := ⟨_, rfl⟩
          have h := zl_e h e_v6
          refine lv_iinc (v := v6) (lv' := [(2, .int v6), (1, .int r5), (0, .ref (za G 0))]) hx hb dX6_fewestLeftOut_34 hl (k := 2) rfl (by rw [lc_1]; exact e_v6.symm) (by decide) rfl (fun ls hl => ?_)
          refine lv_goto (tgt := 15) hx hb dX6_fewestLeftOut_37 (by decide) ?_
          exact ih r5 v6 σ4 y1o y2o σo h _ _ _ hI (lv_sub hl [2, 1, 0] rfl) kE
  unfold F_X6_fewestLeftOut at h
  refine lv_aload_n hx hb dX6_fewestLeftOut_0 rfl (lv_at hl 0 rfl) ?_
  refine gX6_8 hx hb hC hI q_fl_X6_61 dX6_fewestLeftOut_1 ?_
  refine lv_aload_n hx hb dX6_fewestLeftOut_4 rfl (lv_at hl 0 rfl) ?_
  refine gX6_1 hx hb hC hI q_fl_X6_19 dX6_fewestLeftOut_5 ?_
  obtain ⟨σ2, h1, h⟩ := zb_e h
  refine z_cVv (As := [.ref (za G 3)]) (rest := []) hx hb hC (hml.trans hl.1.symm) hI (c_X1_copyFrom l G isJ31 isJ3 h1) yyX1_copyFrom q_ml_X6_97 (oX1 G isJ31) rfl ⟨Nat.le_of_ble_eq_true rfl, Nat.le_of_ble_eq_true rfl⟩ rfl rfl (Nat.le_of_ble_eq_true rfl) ⟨Nat.le_refl _, Nat.le_refl _⟩ dX6_fewestLeftOut_8 (fun H locs hI => ?_)
  refine lv_iconst (v := (-1)) hx hb dX6_fewestLeftOut_11 lc_m1 ?_
  refine lv_istore_n (lv' := [(1, .int (-1)), (0, .ref (za G 0))]) hx hb dX6_fewestLeftOut_12 rfl hl (by decide) rfl (fun ls hl => ?_)
  refine lv_iconst (v := 0) hx hb dX6_fewestLeftOut_13 lc_0 ?_
  refine lv_istore_n (lv' := [(2, .int 0), (1, .int (-1)), (0, .ref (za G 0))]) hx hb dX6_fewestLeftOut_14 rfl hl (by decide) rfl (fun ls hl => ?_)
  obtain ⟨v7, v8, σ9, h10, h⟩ := zb3_e h
  refine w_15 100 (-1) 0 σ2 v7 v8 σ9 h10 _ _ _ hI (lv_sub hl [2, 1, 0] rfl) (fun H locs ls hI hl => ?_)
  refine lv_iload_n hx hb dX6_fewestLeftOut_40 rfl (lv_at hl 1 rfl) ?_
  exact hret ⟨congrArg Prod.fst (Option.some.inj h), congrArg Prod.snd (Option.some.inj h)⟩ hI rfl dX6_fewestLeftOut_41
set_option maxRecDepth 100000 in
set_option maxHeartbeats 4000000 in
theorem c_X6_mend (l : Launch) (G : zG)  {σ σ' : SF} {r : Int32} {x1 : Int32} (h : F_X6_mend σ  x1 = some (r, σ')) : zMi l WF G yX6_mend cX6_mend 3 .int 37 [.ref (za G 0), .int x1] σ r σ' := by
  refine zMi_of (by decide) (Nat.le_of_ble_eq_true rfl) (fun p e s m args below meth c ls Q hx hb hr hlk hml hC hI hl hret => ?_)
  have hl : lv_has ls 3 [(0, .ref (za G 0)), (1, .int x1)] := hl
  have hC : zC WF G RX6 args s m := hC
  unfold F_X6_mend at h
  refine lv_iload_n hx hb dX6_mend_0 rfl (lv_at hl 1 rfl) ?_
  refine lv_if_lt (tgt := 9) hx hb dX6_mend_1 (by decide) (fun hc => ?_) (fun hc => ?_)
  · have h := zi_t hc h
    refine lv_bipush (v := (-102)) hx hb dX6_mend_9 lb_m102 ?_
    exact hret ⟨congrArg Prod.fst (Option.some.inj h), congrArg Prod.snd (Option.some.inj h)⟩ hI rfl dX6_mend_11
  · have h := zi_f hc h
    refine lv_iload_n hx hb dX6_mend_4 rfl (lv_at hl 1 rfl) ?_
    refine lv_iconst (v := 1) hx hb dX6_mend_5 lc_1 ?_
    refine lv_icmp_le (tgt := 12) hx hb dX6_mend_6 (by decide) (fun hc => ?_) (fun hc => ?_)
    · have h := zi_t hc h
      refine lv_aload_n hx hb dX6_mend_12 rfl (lv_at hl 0 rfl) ?_
      refine gX6_1 hx hb hC hI q_fl_X6_19 dX6_mend_13 ?_
      refine gX1_0 isJ3 hx hb hC hI q_fl_X6_86 dX6_mend_16 ?_
      refine lv_if_eq (tgt := 30) hx hb dX6_mend_19 (by decide) (fun hc => ?_) (fun hc => ?_)
      · have h := zi_t hc h
        refine lv_bipush (v := (-103)) hx hb dX6_mend_30 lb_m103 ?_
        exact hret ⟨congrArg Prod.fst (Option.some.inj h), congrArg Prod.snd (Option.some.inj h)⟩ hI rfl dX6_mend_32
      · have h := zi_f hc h
        refine lv_aload_n hx hb dX6_mend_22 rfl (lv_at hl 0 rfl) ?_
        refine gX6_12 hx hb hC hI q_fl_X6_181 dX6_mend_23 ?_
        refine lv_iconst (v := 5) hx hb dX6_mend_26 lc_5 ?_
        refine lv_icmp_lt (tgt := 33) hx hb dX6_mend_27 (by decide) (fun hc => ?_) (fun hc => ?_)
        · have h := zi_t hc h
          refine lv_aload_n hx hb dX6_mend_33 rfl (lv_at hl 0 rfl) ?_
          refine lv_dup hx hb dX6_mend_34 rfl ?_
          refine gX6_12 hx hb hC hI q_fl_X6_181 dX6_mend_35 ?_
          refine lv_iconst (v := 1) hx hb dX6_mend_38 lc_1 ?_
          refine lv_iadd hx hb dX6_mend_39 ?_
          refine pX6_12 hx hb hC hI q_fl_X6_181 dX6_mend_40 (fun σ1 H locs e_σ1 hI => ?_)
          have h := zl_e h e_σ1
          refine lv_aload_n hx hb dX6_mend_43 rfl (lv_at hl 0 rfl) ?_
          obtain ⟨r4, σ3, h2, h⟩ := zb2_e h
          refine z_cVi (As := []) (rest := []) hx hb hC (hml.trans hl.1.symm) hI (c_X6_fewestLeftOut l G  h2) yyX6_fewestLeftOut q_ml_X6_184 (oX6 G) rfl ⟨Nat.le_of_ble_eq_true rfl, Nat.le_of_ble_eq_true rfl⟩ rfl rfl (Nat.le_of_ble_eq_true rfl) ⟨Nat.le_refl _, Nat.le_refl _⟩ dX6_mend_44 (fun H locs hI => ?_)
          refine lv_istore_n (lv' := [(2, .int r4), (0, .ref (za G 0)), (1, .int x1)]) hx hb dX6_mend_47 rfl hl (by decide) rfl (fun ls hl => ?_)
          refine lv_iload_n hx hb dX6_mend_48 rfl (lv_at hl 2 rfl) ?_
          refine lv_iconst (v := 1) hx hb dX6_mend_49 lc_1 ?_
          refine lv_icmp_eq (tgt := 58) hx hb dX6_mend_50 (by decide) (fun hc => ?_) (fun hc => ?_)
          · have h := zi_t hc h
            refine lv_iload_n hx hb dX6_mend_58 rfl (lv_at hl 0 rfl) ?_
            refine lv_goto (tgt := 66) hx hb dX6_mend_59 (by decide) ?_
            exact hret ⟨congrArg Prod.fst (Option.some.inj h), congrArg Prod.snd (Option.some.inj h)⟩ hI rfl dX6_mend_66
          · have h := zi_f hc h
            refine lv_iload_n hx hb dX6_mend_53 rfl (lv_at hl 0 rfl) ?_
            refine lv_iconst (v := (-1)) hx hb dX6_mend_54 lc_m1 ?_
            refine lv_icmp_ne (tgt := 62) hx hb dX6_mend_55 (by decide) (fun hc => ?_) (fun hc => ?_)
            · have h := zi_f hc h
              refine lv_iload_n hx hb dX6_mend_62 rfl (lv_at hl 0 rfl) ?_
              obtain ⟨r6, h5, h⟩ := zb_e h
              refine z_cSi (As := [.int r4]) (rest := []) hx hb hC (hml.trans hl.1.symm) hI (c_J6_bitCount_0f7a4 l G  (σ := σ3) h5) yyJ6_bitCount_0f7a4 q_ml_X6_188 ⟨Nat.le_of_ble_eq_true rfl, Nat.le_of_ble_eq_true rfl⟩ rfl rfl (Nat.le_of_ble_eq_true rfl) ⟨Nat.le_refl _, Nat.le_refl _⟩ dX6_mend_63 (fun H locs hI => ?_)
              exact hret ⟨congrArg Prod.fst (Option.some.inj h), congrArg Prod.snd (Option.some.inj h)⟩ hI rfl dX6_mend_66
            · have h := zi_t hc h
              refine lv_iload_n hx hb dX6_mend_58 rfl (lv_at hl 0 rfl) ?_
              refine lv_goto (tgt := 66) hx hb dX6_mend_59 (by decide) ?_
              exact hret ⟨congrArg Prod.fst (Option.some.inj h), congrArg Prod.snd (Option.some.inj h)⟩ hI rfl dX6_mend_66
        · have h := zi_f hc h
          refine lv_bipush (v := (-103)) hx hb dX6_mend_30 lb_m103 ?_
          exact hret ⟨congrArg Prod.fst (Option.some.inj h), congrArg Prod.snd (Option.some.inj h)⟩ hI rfl dX6_mend_32
    · have h := zi_f hc h
      refine lv_bipush (v := (-102)) hx hb dX6_mend_9 lb_m102 ?_
      exact hret ⟨congrArg Prod.fst (Option.some.inj h), congrArg Prod.snd (Option.some.inj h)⟩ hI rfl dX6_mend_11
set_option maxRecDepth 100000 in
set_option maxHeartbeats 4000000 in
theorem c_X6_see (l : Launch) (G : zG)  {σ σ' : SF} {r : Int32} {x1 : Int32} {x2 : Int32} {x3 : Int32} (h : F_X6_see σ  x1 x2 x3 = some (r, σ')) : zMi l WF G yX6_see cX6_see 4 .int 2 [.ref (za G 0), .int x1, .int x2, .int x3] σ r σ' := by
  refine zMi_of (by decide) (Nat.le_of_ble_eq_true rfl) (fun p e s m args below meth c ls Q hx hb hr hlk hml hC hI hl hret => ?_)
  have hl : lv_has ls 4 [(0, .ref (za G 0)), (1, .int x1), (2, .int x2), (3, .int x3)] := hl
  have hC : zC WF G RX6 args s m := hC
  unfold F_X6_see at h
  refine lv_aload_n hx hb dX6_see_0 rfl (lv_at hl 0 rfl) ?_
  refine gX6_1 hx hb hC hI q_fl_X6_19 dX6_see_1 ?_
  refine lv_iload_n hx hb dX6_see_4 rfl (lv_at hl 1 rfl) ?_
  obtain ⟨r2, h1, h⟩ := zb_e h
  refine z_cVi (As := [.int x1]) (rest := []) hx hb hC (hml.trans hl.1.symm) hI (c_X1_has l G isJ3 h1) yyX1_has q_ml_X6_103 (oX1 G isJ3) rfl ⟨Nat.le_of_ble_eq_true rfl, Nat.le_of_ble_eq_true rfl⟩ rfl rfl (Nat.le_of_ble_eq_true rfl) ⟨Nat.le_refl _, Nat.le_refl _⟩ dX6_see_5 (fun H locs hI => ?_)
  refine lv_if_ne (tgt := 14) hx hb dX6_see_8 (by decide) (fun hc => ?_) (fun hc => ?_)
  · have h := zi_f hc h
    refine lv_iload_n hx hb dX6_see_14 rfl (lv_at hl 2 rfl) ?_
    refine lv_iconst (v := 1) hx hb dX6_see_15 lc_1 ?_
    refine lv_icmp_lt (tgt := 33) hx hb dX6_see_16 (by decide) (fun hc => ?_) (fun hc => ?_)
    · have h := zi_t hc h
      refine lv_bipush (v := (-102)) hx hb dX6_see_33 lb_m102 ?_
      exact hret ⟨congrArg Prod.fst (Option.some.inj h), congrArg Prod.snd (Option.some.inj h)⟩ hI rfl dX6_see_35
    · have h := zi_f hc h
      refine lv_iload_n hx hb dX6_see_19 rfl (lv_at hl 2 rfl) ?_
      refine lv_iconst (v := 3) hx hb dX6_see_20 lc_3 ?_
      refine lv_icmp_gt (tgt := 33) hx hb dX6_see_21 (by decide) (fun hc => ?_) (fun hc => ?_)
      · have h := zi_t hc h
        refine lv_bipush (v := (-102)) hx hb dX6_see_33 lb_m102 ?_
        exact hret ⟨congrArg Prod.fst (Option.some.inj h), congrArg Prod.snd (Option.some.inj h)⟩ hI rfl dX6_see_35
      · have h := zi_f hc h
        refine lv_iload_n hx hb dX6_see_24 rfl (lv_at hl 3 rfl) ?_
        refine lv_if_lt (tgt := 33) hx hb dX6_see_25 (by decide) (fun hc => ?_) (fun hc => ?_)
        · have h := zi_t hc h
          refine lv_bipush (v := (-102)) hx hb dX6_see_33 lb_m102 ?_
          exact hret ⟨congrArg Prod.fst (Option.some.inj h), congrArg Prod.snd (Option.some.inj h)⟩ hI rfl dX6_see_35
        · have h := zi_f hc h
          refine lv_iload_n hx hb dX6_see_28 rfl (lv_at hl 3 rfl) ?_
          refine lv_iconst (v := 2) hx hb dX6_see_29 lc_2 ?_
          refine lv_icmp_le (tgt := 36) hx hb dX6_see_30 (by decide) (fun hc => ?_) (fun hc => ?_)
          · have h := zi_t hc h
            refine lv_aload_n hx hb dX6_see_36 rfl (lv_at hl 0 rfl) ?_
            refine gX6_5 hx hb hC hI q_fl_X6_51 dX6_see_37 ?_
            refine lv_iload_n hx hb dX6_see_40 rfl (lv_at hl 1 rfl) ?_
            refine lv_iload_n hx hb dX6_see_41 rfl (lv_at hl 2 rfl) ?_
            refine lv_iload_n hx hb dX6_see_42 rfl (lv_at hl 3 rfl) ?_
            obtain ⟨r5, σ4, h3, h⟩ := zb2_e h
            refine z_cVi (As := [.int x1, .int x2, .int x3]) (rest := []) hx hb hC (hml.trans hl.1.symm) hI (c_X3_add l G isS19 h3) yyX3_add q_ml_X6_193 (oX3 G isS19) rfl ⟨Nat.le_of_ble_eq_true rfl, Nat.le_of_ble_eq_true rfl⟩ rfl rfl (Nat.le_of_ble_eq_true rfl) ⟨Nat.le_refl _, Nat.le_refl _⟩ dX6_see_43 (fun H locs hI => ?_)
            refine lv_if_eq (tgt := 59) hx hb dX6_see_46 (by decide) (fun hc => ?_) (fun hc => ?_)
            · have h := zi_t hc h
              refine lv_bipush (v := (-104)) hx hb dX6_see_59 lb_m104 ?_
              exact hret ⟨congrArg Prod.fst (Option.some.inj h), congrArg Prod.snd (Option.some.inj h)⟩ hI rfl dX6_see_61
            · have h := zi_f hc h
              refine lv_aload_n hx hb dX6_see_49 rfl (lv_at hl 0 rfl) ?_
              refine gX6_5 hx hb hC hI q_fl_X6_51 dX6_see_50 ?_
              refine gX3_0 isS19 hx hb hC hI q_fl_X6_96 dX6_see_53 ?_
              refine lv_goto (tgt := 61) hx hb dX6_see_56 (by decide) ?_
              exact hret ⟨congrArg Prod.fst (Option.some.inj h), congrArg Prod.snd (Option.some.inj h)⟩ hI rfl dX6_see_61
          · have h := zi_f hc h
            refine lv_bipush (v := (-102)) hx hb dX6_see_33 lb_m102 ?_
            exact hret ⟨congrArg Prod.fst (Option.some.inj h), congrArg Prod.snd (Option.some.inj h)⟩ hI rfl dX6_see_35
  · have h := zi_t hc h
    refine lv_bipush (v := (-101)) hx hb dX6_see_11 lb_m101 ?_
    exact hret ⟨congrArg Prod.fst (Option.some.inj h), congrArg Prod.snd (Option.some.inj h)⟩ hI rfl dX6_see_13
set_option maxRecDepth 100000 in
set_option maxHeartbeats 4000000 in
theorem c_X6_forget (l : Launch) (G : zG)  {σ σ' : SF} {r : Int32} (h : F_X6_forget σ   = some (r, σ')) : zMi l WF G yX6_forget cX6_forget 2 .int 1 [.ref (za G 0)] σ r σ' := by
  refine zMi_of (by decide) (Nat.le_of_ble_eq_true rfl) (fun p e s m args below meth c ls Q hx hb hr hlk hml hC hI hl hret => ?_)
  have hl : lv_has ls 2 [(0, .ref (za G 0))] := hl
  have hC : zC WF G RX6 args s m := hC
  unfold F_X6_forget at h
  refine lv_aload_n hx hb dX6_forget_0 rfl (lv_at hl 0 rfl) ?_
  refine gX6_5 hx hb hC hI q_fl_X6_51 dX6_forget_1 ?_
  refine gX3_0 isS19 hx hb hC hI q_fl_X6_96 dX6_forget_4 ?_
  refine lv_topi (fun v1 e_v1 => ?_)
  have h := zl_e h e_v1
  refine lv_istore_n (lv' := [(1, .int v1), (0, .ref (za G 0))]) hx hb dX6_forget_7 rfl hl (by decide) rfl (fun ls hl => ?_)
  refine lv_aload_n hx hb dX6_forget_8 rfl (lv_at hl 1 rfl) ?_
  refine gX6_5 hx hb hC hI q_fl_X6_51 dX6_forget_9 ?_
  refine lv_iconst (v := 0) hx hb dX6_forget_12 lc_0 ?_
  refine pX3_0 isS19 hx hb hC hI q_fl_X6_96 dX6_forget_13 (fun σ2 H locs e_σ2 hI => ?_)
  have h := zl_e h e_σ2
  refine lv_iload_n hx hb dX6_forget_16 rfl (lv_at hl 0 rfl) ?_
  exact hret ⟨congrArg Prod.fst (Option.some.inj h), congrArg Prod.snd (Option.some.inj h)⟩ hI rfl dX6_forget_17
set_option maxRecDepth 100000 in
set_option maxHeartbeats 4000000 in
theorem c_X6_nextSeed (l : Launch) (G : zG)  {σ : SF} {r : Int32} {x0 : Int32} (h : F_X6_nextSeed   x0 = some r) : zMi l WF G yX6_nextSeed cX6_nextSeed 1 .int 1 [.int x0] σ r σ := by
  refine zMi_of (by decide) (Nat.le_of_ble_eq_true rfl) (fun p e s m args below meth c ls Q hx hb hr hlk hml hC hI hl hret => ?_)
  have hl : lv_has ls 1 [(0, .int x0)] := hl
  have hC : zC WF G RX6 args s m := hC
  unfold F_X6_nextSeed at h
  refine lv_ldc2 hx hb hC.1 (hC.ts q_ct_X6_258) dX6_nextSeed_0 ?_
  refine lv_iload_n hx hb dX6_nextSeed_3 rfl (lv_at hl 0 rfl) ?_
  refine lv_i2l hx hb dX6_nextSeed_4 rfl ?_
  refine lv_lmul hx hb dX6_nextSeed_5 ?_
  refine lv_ldc2 hx hb hC.1 (hC.ts q_ct_X6_260) dX6_nextSeed_6 ?_
  refine lv_ladd hx hb dX6_nextSeed_9 ?_
  refine lv_ldc2 hx hb hC.1 (hC.ts q_ct_X6_262) dX6_nextSeed_10 ?_
  refine lv_land hx hb dX6_nextSeed_13 ?_
  refine lv_l2i hx hb dX6_nextSeed_14 rfl ?_
  exact hret ⟨(Option.some.inj h), rfl⟩ hI rfl dX6_nextSeed_15
set_option maxRecDepth 100000 in
set_option maxHeartbeats 4000000 in
theorem c_X6_drawBy (l : Launch) (G : zG)  {σ : SF} {r : Int32} {x0 : Int32} {x1 : Int32} (h : F_X6_drawBy   x0 x1 = some r) : zMi l WF G yX6_drawBy cX6_drawBy 2 .int 1 [.int x0, .int x1] σ r σ := by
  refine zMi_of (by decide) (Nat.le_of_ble_eq_true rfl) (fun p e s m args below meth c ls Q hx hb hr hlk hml hC hI hl hret => ?_)
  have hl : lv_has ls 2 [(0, .int x0), (1, .int x1)] := hl
  have hC : zC WF G RX6 args s m := hC
  unfold F_X6_drawBy at h
  refine lv_iload_n hx hb dX6_drawBy_0 rfl (lv_at hl 1 rfl) ?_
  refine lv_if_le (tgt := 13) hx hb dX6_drawBy_1 (by decide) (fun hc => ?_) (fun hc => ?_)
  · have h := zi_t hc h
    refine lv_iconst (v := 0) hx hb dX6_drawBy_13 lc_0 ?_
    exact hret ⟨(Option.some.inj h), rfl⟩ hI rfl dX6_drawBy_14
  · have h := zi_f hc h
    refine lv_iload_n hx hb dX6_drawBy_4 rfl (lv_at hl 0 rfl) ?_
    refine lv_bipush (v := 16) hx hb dX6_drawBy_5 lb_16 ?_
    refine lv_iushr hx hb dX6_drawBy_7 rfl ?_
    refine lv_iload_n hx hb dX6_drawBy_8 rfl (lv_at hl 1 rfl) ?_
    obtain ⟨hg, h⟩ := zg_e h
    refine lv_irem hx hb dX6_drawBy_9 (znz_p hg) ?_
    refine lv_goto (tgt := 14) hx hb dX6_drawBy_10 (by decide) ?_
    exact hret ⟨(Option.some.inj h), rfl⟩ hI rfl dX6_drawBy_14
set_option maxRecDepth 100000 in
set_option maxHeartbeats 4000000 in
theorem c_X6_drawDraft (l : Launch) (G : zG)  {σ σ' : SF} {r : Int32} {x1 : Int32} (h : F_X6_drawDraft σ  x1 = some (r, σ')) : zMi l WF G yX6_drawDraft cX6_drawDraft 4 .int 2 [.ref (za G 0), .int x1] σ r σ' := by
  refine zMi_of (by decide) (Nat.le_of_ble_eq_true rfl) (fun p e s m args below meth c ls Q hx hb hr hlk hml hC hI hl hret => ?_)
  have hl : lv_has ls 4 [(0, .ref (za G 0)), (1, .int x1)] := hl
  have hC : zC WF G RX6 args s m := hC
  have w_12 : ∀ (n : Nat) (y2 : Int32) (y3 : Int32) (σ : SF) (y2o : Int32) (y3o : Int32) (σo : SF), L_X6_drawDraft_12 n y2 y3 σ = some (y2o, y3o, σo) → ∀ (H : Heap) (locs : List Loc) (ls : Array Slot), zI WF G s σ H locs → lv_has ls 4 [(0, .ref (za G 0)), (2, .int y2), (3, .int y3)] → (∀ (H : Heap) (locs : List Loc) (ls : Array Slot), zI WF G s σo H locs → lv_has ls 4 [(0, .ref (za G 0)), (2, .int y2o), (3, .int y3o)] → W p l e (zR 2) s m args below meth c H locs 0 0 Q (F0 m 80 ls [])) → W p l e (zR 2) s m args below meth c H locs 0 0 Q (F0 m 12 ls []) := by
    intro n
    induction n with
    | zero => intro y2 y3 σ y2o y3o σo h; cases h
    | succ n ih =>
      intro y2 y3 σ y2o y3o σo h H locs ls hI hl kE
      unfold L_X6_drawDraft_12 at h
      refine lv_iload_n hx hb dX6_drawDraft_12 rfl (lv_at hl 2 rfl) ?_
      refine lv_iconst (v := 5) hx hb dX6_drawDraft_13 lc_5 ?_
      refine lv_icmp_ge (tgt := 80) hx hb dX6_drawDraft_14 (by decide) (fun hc => ?_) (fun hc => ?_)
      · have h := zi_t hc h
        cases h
        exact kE _ _ _ hI (lv_sub hl [0, 1, 2] rfl)
      · have h := zi_f hc h
        refine lv_iload_n hx hb dX6_drawDraft_17 rfl (lv_at hl 1 rfl) ?_
        obtain ⟨r3, h2, h⟩ := zb_e h
        refine z_cSi (As := [.int y2]) (rest := []) hx hb hC (hml.trans hl.1.symm) hI (c_X6_nextSeed l G  (σ := σ) h2) yyX6_nextSeed q_ml_X6_252 ⟨Nat.le_of_ble_eq_true rfl, Nat.le_of_ble_eq_true rfl⟩ rfl rfl (Nat.le_of_ble_eq_true rfl) ⟨Nat.le_refl _, Nat.le_refl _⟩ dX6_drawDraft_18 (fun H locs hI => ?_)
        refine lv_istore_n (lv' := [(2, .int r3), (0, .ref (za G 0)), (3, .int y3)]) hx hb dX6_drawDraft_21 rfl hl (by decide) rfl (fun ls hl => ?_)
        refine lv_aload_n hx hb dX6_drawDraft_22 rfl (lv_at hl 1 rfl) ?_
        refine gX6_8 hx hb hC hI q_fl_X6_61 dX6_drawDraft_23 ?_
        refine gX1_1 isJ31 hx hb hC hI q_fl_X6_106 dX6_drawDraft_26 ?_
        refine lv_iload_n hx hb dX6_drawDraft_29 rfl (lv_at hl 2 rfl) ?_
        refine lv_iload_n hx hb dX6_drawDraft_30 rfl (lv_at hl 0 rfl) ?_
        refine lv_iconst (v := 5) hx hb dX6_drawDraft_31 lc_5 ?_
        obtain ⟨r5, h4, h⟩ := zb_e h
        refine z_cSi (As := [.int r3, .int 5]) (rest := [.int y3, .ref (za G (31 + 1))]) hx hb hC (hml.trans hl.1.symm) hI (c_X6_drawBy l G  (σ := σ) h4) yyX6_drawBy q_ml_X6_255 ⟨Nat.le_of_ble_eq_true rfl, Nat.le_of_ble_eq_true rfl⟩ rfl rfl (Nat.le_of_ble_eq_true rfl) ⟨Nat.le_refl _, Nat.le_refl _⟩ dX6_drawDraft_32 (fun H locs hI => ?_)
        obtain ⟨hg, h⟩ := zg_e h
        refine z_iast hx hb hC hI (vX1_1 G isJ31) hg dX6_drawDraft_35 (fun σ6 H locs e_σ6 hI => ?_)
        have h := zl_e h e_σ6
        refine lv_iload_n hx hb dX6_drawDraft_36 rfl (lv_at hl 0 rfl) ?_
        obtain ⟨r8, h7, h⟩ := zb_e h
        refine z_cSi (As := [.int r3]) (rest := []) hx hb hC (hml.trans hl.1.symm) hI (c_X6_nextSeed l G  (σ := σ6) h7) yyX6_nextSeed q_ml_X6_252 ⟨Nat.le_of_ble_eq_true rfl, Nat.le_of_ble_eq_true rfl⟩ rfl rfl (Nat.le_of_ble_eq_true rfl) ⟨Nat.le_refl _, Nat.le_refl _⟩ dX6_drawDraft_37 (fun H locs hI => ?_)
        refine lv_istore_n (lv' := [(2, .int r8), (0, .ref (za G 0)), (3, .int y3)]) hx hb dX6_drawDraft_40 rfl hl (by decide) rfl (fun ls hl => ?_)
        refine lv_aload_n hx hb dX6_drawDraft_41 rfl (lv_at hl 1 rfl) ?_
        refine gX6_8 hx hb hC hI q_fl_X6_61 dX6_drawDraft_42 ?_
        refine gX1_2 isJ31 hx hb hC hI q_fl_X6_110 dX6_drawDraft_45 ?_
        refine lv_iload_n hx hb dX6_drawDraft_48 rfl (lv_at hl 2 rfl) ?_
        refine lv_iload_n hx hb dX6_drawDraft_49 rfl (lv_at hl 0 rfl) ?_
        refine lv_iconst (v := 5) hx hb dX6_drawDraft_50 lc_5 ?_
        obtain ⟨r10, h9, h⟩ := zb_e h
        refine z_cSi (As := [.int r8, .int 5]) (rest := [.int y3, .ref (za G (31 + 2))]) hx hb hC (hml.trans hl.1.symm) hI (c_X6_drawBy l G  (σ := σ6) h9) yyX6_drawBy q_ml_X6_255 ⟨Nat.le_of_ble_eq_true rfl, Nat.le_of_ble_eq_true rfl⟩ rfl rfl (Nat.le_of_ble_eq_true rfl) ⟨Nat.le_refl _, Nat.le_refl _⟩ dX6_drawDraft_51 (fun H locs hI => ?_)
        obtain ⟨hg, h⟩ := zg_e h
        refine z_iast hx hb hC hI (vX1_2 G isJ31) hg dX6_drawDraft_54 (fun σ11 H locs e_σ11 hI => ?_)
        have h := zl_e h e_σ11
        refine lv_iload_n hx hb dX6_drawDraft_55 rfl (lv_at hl 0 rfl) ?_
        obtain ⟨r13, h12, h⟩ := zb_e h
        refine z_cSi (As := [.int r8]) (rest := []) hx hb hC (hml.trans hl.1.symm) hI (c_X6_nextSeed l G  (σ := σ11) h12) yyX6_nextSeed q_ml_X6_252 ⟨Nat.le_of_ble_eq_true rfl, Nat.le_of_ble_eq_true rfl⟩ rfl rfl (Nat.le_of_ble_eq_true rfl) ⟨Nat.le_refl _, Nat.le_refl _⟩ dX6_drawDraft_56 (fun H locs hI => ?_)
        refine lv_istore_n (lv' := [(2, .int r13), (0, .ref (za G 0)), (3, .int y3)]) hx hb dX6_drawDraft_59 rfl hl (by decide) rfl (fun ls hl => ?_)
        refine lv_aload_n hx hb dX6_drawDraft_60 rfl (lv_at hl 1 rfl) ?_
        refine gX6_8 hx hb hC hI q_fl_X6_61 dX6_drawDraft_61 ?_
        refine gX1_3 isJ31 hx hb hC hI q_fl_X6_113 dX6_drawDraft_64 ?_
        refine lv_iload_n hx hb dX6_drawDraft_67 rfl (lv_at hl 2 rfl) ?_
        refine lv_iload_n hx hb dX6_drawDraft_68 rfl (lv_at hl 0 rfl) ?_
        refine lv_iconst (v := 5) hx hb dX6_drawDraft_69 lc_5 ?_
        obtain ⟨r15, h14, h⟩ := zb_e h
        refine z_cSi (As := [.int r13, .int 5]) (rest := [.int y3, .ref (za G (31 + 3))]) hx hb hC (hml.trans hl.1.symm) hI (c_X6_drawBy l G  (σ := σ11) h14) yyX6_drawBy q_ml_X6_255 ⟨Nat.le_of_ble_eq_true rfl, Nat.le_of_ble_eq_true rfl⟩ rfl rfl (Nat.le_of_ble_eq_true rfl) ⟨Nat.le_refl _, Nat.le_refl _⟩ dX6_drawDraft_70 (fun H locs hI => ?_)
        obtain ⟨hg, h⟩ := zg_e h
        refine z_iast hx hb hC hI (vX1_3 G isJ31) hg dX6_drawDraft_73 (fun σ16 H locs e_σ16 hI => ?_)
        have h := zl_e h e_σ16
        obtain ⟨v17, e_v17⟩ : ∃ y : Int32, y = y3 + 1 := ⟨_, rfl⟩
        have h := zl_e h e_v17
        refine lv_iinc (v := v17) (lv' := [(3, .int v17), (2, .int r13), (0, .ref (za G 0))]) hx hb dX6_drawDraft_74 hl (k := 2) rfl (by rw [lc_1]; exact e_v17.symm) (by decide) rfl (fun ls hl => ?_)
        refine lv_goto (tgt := 12) hx hb dX6_drawDraft_77 (by decide) ?_
        exact ih r13 v17 σ16 y2o y3o σo h _ _ _ hI (lv_sub hl [2, 1, 0] rfl) kE
  unfold F_X6_drawDraft at h
  refine lv_iload_n hx hb dX6_drawDraft_0 rfl (lv_at hl 1 rfl) ?_
  refine lv_istore_n (lv' := [(2, .int x1), (0, .ref (za G 0)), (1, .int x1)]) hx hb dX6_drawDraft_1 rfl hl (by decide) rfl (fun ls hl => ?_)
  refine lv_aload_n hx hb dX6_drawDraft_2 rfl (lv_at hl 1 rfl) ?_
  refine gX6_8 hx hb hC hI q_fl_X6_61 dX6_drawDraft_3 ?_
  refine lv_iconst (v := 5) hx hb dX6_drawDraft_6 lc_5 ?_
  refine pX1_0 isJ31 hx hb hC hI q_fl_X6_86 dX6_drawDraft_7 (fun σ1 H locs e_σ1 hI => ?_)
  have h := zl_e h e_σ1
  refine lv_iconst (v := 0) hx hb dX6_drawDraft_10 lc_0 ?_
  refine lv_istore_n (lv' := [(3, .int 0), (2, .int x1), (0, .ref (za G 0)), (1, .int x1)]) hx hb dX6_drawDraft_11 rfl hl (by decide) rfl (fun ls hl => ?_)
  obtain ⟨v18, v19, σ20, h21, h⟩ := zb3_e h
  refine w_12 100 x1 0 σ1 v18 v19 σ20 h21 _ _ _ hI (lv_sub hl [2, 1, 0] rfl) (fun H locs ls hI hl => ?_)
  refine lv_iload_n hx hb dX6_drawDraft_80 rfl (lv_at hl 1 rfl) ?_
  exact hret ⟨congrArg Prod.fst (Option.some.inj h), congrArg Prod.snd (Option.some.inj h)⟩ hI rfl dX6_drawDraft_81
set_option maxRecDepth 100000 in
set_option maxHeartbeats 4000000 in
theorem c_X6_drawn (l : Launch) (G : zG)  {σ σ' : SF} {r : Int32} {x1 : Int32} {x2 : Int32} {x3 : Int32} (h : F_X6_drawn σ  x1 x2 x3 = some (r, σ')) : zMi l WF G yX6_drawn cX6_drawn 8 .int 15 [.ref (za G 0), .int x1, .int x2, .int x3] σ r σ' := by
  refine zMi_of (by decide) (Nat.le_of_ble_eq_true rfl) (fun p e s m args below meth c ls Q hx hb hr hlk hml hC hI hl hret => ?_)
  have hl : lv_has ls 8 [(0, .ref (za G 0)), (1, .int x1), (2, .int x2), (3, .int x3)] := hl
  have hC : zC WF G RX6 args s m := hC
  have w_39 : ∀ (n : Nat) (y1 : Int32) (y3 : Int32) (y4 : Int32) (y5 : Int32) (y6 : Int32) (y7 : Int32) (σ : SF) (y4o : Int32) (y5o : Int32) (y6o : Int32) (y7o : Int32) (σo : SF), L_X6_drawn_39 y1 y3 n y4 y5 y6 y7 σ = some (y4o, y5o, y6o, y7o, σo) → ∀ (H : Heap) (locs : List Loc) (ls : Array Slot), zI WF G s σ H locs → lv_has ls 8 [(0, .ref (za G 0)), (1, .int y1), (3, .int y3), (4, .int y4), (5, .int y5), (6, .int y6), (7, .int y7)] → (∀ (H : Heap) (locs : List Loc) (ls : Array Slot), zI WF G s σo H locs → lv_has ls 8 [(0, .ref (za G 0)), (1, .int y1), (3, .int y3), (4, .int y4o), (5, .int y5o), (6, .int y6o), (7, .int y7o)] → W p l e (zR 15) s m args below meth c H locs 0 0 Q (F0 m 102 ls [])) → W p l e (zR 15) s m args below meth c H locs 0 0 Q (F0 m 39 ls []) := by
    intro n
    induction n with
    | zero => intro y1 y3 y4 y5 y6 y7 σ y4o y5o y6o y7o σo h; cases h
    | succ n ih =>
      intro y1 y3 y4 y5 y6 y7 σ y4o y5o y6o y7o σo h H locs ls hI hl kE
      unfold L_X6_drawn_39 at h
      refine lv_iload hx hb dX6_drawn_39 (lv_at hl 6 rfl) ?_
      refine lv_iload_n hx hb dX6_drawn_41 rfl (lv_at hl 1 rfl) ?_
      refine lv_icmp_ge (tgt := 102) hx hb dX6_drawn_42 (by decide) (fun hc => ?_) (fun hc => ?_)
      · have h := zi_t hc h
        cases h
        exact kE _ _ _ hI (lv_sub hl [0, 1, 2, 3, 4, 5, 6] rfl)
      · have h := zi_f hc h
        refine lv_aload_n hx hb dX6_drawn_45 rfl (lv_at hl 0 rfl) ?_
        refine lv_iload hx hb dX6_drawn_46 (lv_at hl 5 rfl) ?_
        obtain ⟨r3, σ2, h1, h⟩ := zb2_e h
        refine z_cVi (As := [.int y6]) (rest := []) hx hb hC (hml.trans hl.1.symm) hI (c_X6_drawDraft l G  h1) yyX6_drawDraft q_ml_X6_196 (oX6 G) rfl ⟨Nat.le_of_ble_eq_true rfl, Nat.le_of_ble_eq_true rfl⟩ rfl rfl (Nat.le_of_ble_eq_true rfl) ⟨Nat.le_refl _, Nat.le_refl _⟩ dX6_drawn_48 (fun H locs hI => ?_)
        refine lv_istore (lv' := [(6, .int r3), (0, .ref (za G 0)), (1, .int y1), (3, .int y3), (4, .int y4), (5, .int y5), (7, .int y7)]) hx hb dX6_drawn_51 hl (by decide) rfl (fun ls hl => ?_)
        refine lv_aload_n hx hb dX6_drawn_53 rfl (lv_at hl 1 rfl) ?_
        refine gX6_9 hx hb hC hI q_fl_X6_64 dX6_drawn_54 ?_
        refine lv_iconst (v := 0) hx hb dX6_drawn_57 lc_0 ?_
        obtain ⟨σ5, h4, h⟩ := zb_e h
        refine z_cVv (As := [.int 0]) (rest := []) hx hb hC (hml.trans hl.1.symm) hI (c_X0_look l G isF31 h4) yyX0_look q_ml_X6_199 (oX0 G isF31) rfl ⟨Nat.le_of_ble_eq_true rfl, Nat.le_of_ble_eq_true rfl⟩ rfl rfl (Nat.le_of_ble_eq_true rfl) ⟨Nat.le_refl _, Nat.le_refl _⟩ dX6_drawn_58 (fun H locs hI => ?_)
        refine lv_iload hx hb dX6_drawn_61 (lv_at hl 4 rfl) ?_
        refine lv_aload_n hx hb dX6_drawn_63 rfl (lv_at hl 1 rfl) ?_
        refine gX6_9 hx hb hC hI q_fl_X6_64 dX6_drawn_64 ?_
        obtain ⟨r7, h6, h⟩ := zb_e h
        refine z_cVi (As := []) (rest := [.int y4]) hx hb hC (hml.trans hl.1.symm) hI (c_X0_folds l G isF31 h6) yyX0_folds q_ml_X6_168 (oX0 G isF31) rfl ⟨Nat.le_of_ble_eq_true rfl, Nat.le_of_ble_eq_true rfl⟩ rfl rfl (Nat.le_of_ble_eq_true rfl) ⟨Nat.le_refl _, Nat.le_refl _⟩ dX6_drawn_67 (fun H locs hI => ?_)
        refine lv_if_eq (tgt := 77) hx hb dX6_drawn_70 (by decide) (fun hc => ?_) (fun hc => ?_)
        · have h := zi_t hc h
          refine lv_iconst (v := 0) hx hb dX6_drawn_77 lc_0 ?_
          refine lv_iadd hx hb dX6_drawn_78 ?_
          refine lv_topi (fun v8 e_v8 => ?_)
          have h := zl_e h e_v8
          refine lv_istore (lv' := [(4, .int v8), (6, .int r3), (0, .ref (za G 0)), (1, .int y1), (3, .int y3), (5, .int y5), (7, .int y7)]) hx hb dX6_drawn_79 hl (by decide) rfl (fun ls hl => ?_)
          refine lv_iload hx hb dX6_drawn_81 (lv_at hl 5 rfl) ?_
          refine lv_aload_n hx hb dX6_drawn_83 rfl (lv_at hl 2 rfl) ?_
          refine gX6_9 hx hb hC hI q_fl_X6_64 dX6_drawn_84 ?_
          refine gX0_11 isF31 hx hb hC hI q_fl_X6_203 dX6_drawn_87 ?_
          obtain ⟨r10, h9, h⟩ := zb_e h
          refine z_cSi (As := [.int (σ5 (31 + 4) 11)]) (rest := [.int y5]) hx hb hC (hml.trans hl.1.symm) hI (c_J6_bitCount_0f7a4 l G  (σ := σ5) h9) yyJ6_bitCount_0f7a4 q_ml_X6_188 ⟨Nat.le_of_ble_eq_true rfl, Nat.le_of_ble_eq_true rfl⟩ rfl rfl (Nat.le_of_ble_eq_true rfl) ⟨Nat.le_refl _, Nat.le_refl _⟩ dX6_drawn_90 (fun H locs hI => ?_)
          refine lv_iadd hx hb dX6_drawn_93 ?_
          refine lv_topi (fun v11 e_v11 => ?_)
          have h := zl_e h e_v11
          refine lv_istore (lv' := [(5, .int v11), (4, .int v8), (6, .int r3), (0, .ref (za G 0)), (1, .int y1), (3, .int y3), (7, .int y7)]) hx hb dX6_drawn_94 hl (by decide) rfl (fun ls hl => ?_)
          obtain ⟨v12, e_v12⟩ : ∃ y : Int32, y = y7 + 1 := ⟨_, rfl⟩
          have h := zl_e h e_v12
          refine lv_iinc (v := v12) (lv' := [(7, .int v12), (5, .int v11), (4, .int v8), (6, .int r3), (0, .ref (za G 0)), (1, .int y1), (3, .int y3)]) hx hb dX6_drawn_96 hl (k := 6) rfl (by rw [lc_1]; exact e_v12.symm) (by decide) rfl (fun ls hl => ?_)
          refine lv_goto (tgt := 39) hx hb dX6_drawn_99 (by decide) ?_
          exact ih y1 y3 v8 v11 r3 v12 σ5 y4o y5o y6o y7o σo h _ _ _ hI (lv_sub hl [4, 5, 6, 2, 1, 3, 0] rfl) kE
        · have h := zi_f hc h
          refine lv_iconst (v := 1) hx hb dX6_drawn_73 lc_1 ?_
          refine lv_goto (tgt := 78) hx hb dX6_drawn_74 (by decide) ?_
          refine lv_iadd hx hb dX6_drawn_78 ?_
          refine lv_topi (fun v13 e_v13 => ?_)
          have h := zl_e h e_v13
          refine lv_istore (lv' := [(4, .int v13), (6, .int r3), (0, .ref (za G 0)), (1, .int y1), (3, .int y3), (5, .int y5), (7, .int y7)]) hx hb dX6_drawn_79 hl (by decide) rfl (fun ls hl => ?_)
          refine lv_iload hx hb dX6_drawn_81 (lv_at hl 5 rfl) ?_
          refine lv_aload_n hx hb dX6_drawn_83 rfl (lv_at hl 2 rfl) ?_
          refine gX6_9 hx hb hC hI q_fl_X6_64 dX6_drawn_84 ?_
          refine gX0_11 isF31 hx hb hC hI q_fl_X6_203 dX6_drawn_87 ?_
          obtain ⟨r15, h14, h⟩ := zb_e h
          refine z_cSi (As := [.int (σ5 (31 + 4) 11)]) (rest := [.int y5]) hx hb hC (hml.trans hl.1.symm) hI (c_J6_bitCount_0f7a4 l G  (σ := σ5) h14) yyJ6_bitCount_0f7a4 q_ml_X6_188 ⟨Nat.le_of_ble_eq_true rfl, Nat.le_of_ble_eq_true rfl⟩ rfl rfl (Nat.le_of_ble_eq_true rfl) ⟨Nat.le_refl _, Nat.le_refl _⟩ dX6_drawn_90 (fun H locs hI => ?_)
          refine lv_iadd hx hb dX6_drawn_93 ?_
          refine lv_topi (fun v16 e_v16 => ?_)
          have h := zl_e h e_v16
          refine lv_istore (lv' := [(5, .int v16), (4, .int v13), (6, .int r3), (0, .ref (za G 0)), (1, .int y1), (3, .int y3), (7, .int y7)]) hx hb dX6_drawn_94 hl (by decide) rfl (fun ls hl => ?_)
          obtain ⟨v17, e_v17⟩ : ∃ y : Int32, y = y7 + 1 := ⟨_, rfl⟩
          have h := zl_e h e_v17
          refine lv_iinc (v := v17) (lv' := [(7, .int v17), (5, .int v16), (4, .int v13), (6, .int r3), (0, .ref (za G 0)), (1, .int y1), (3, .int y3)]) hx hb dX6_drawn_96 hl (k := 6) rfl (by rw [lc_1]; exact e_v17.symm) (by decide) rfl (fun ls hl => ?_)
          refine lv_goto (tgt := 39) hx hb dX6_drawn_99 (by decide) ?_
          exact ih y1 y3 v13 v16 r3 v17 σ5 y4o y5o y6o y7o σo h _ _ _ hI (lv_sub hl [4, 5, 6, 2, 1, 3, 0] rfl) kE
  unfold F_X6_drawn at h
  refine lv_iload_n hx hb dX6_drawn_0 rfl (lv_at hl 1 rfl) ?_
  refine lv_iconst (v := 1) hx hb dX6_drawn_1 lc_1 ?_
  refine lv_icmp_lt (tgt := 24) hx hb dX6_drawn_2 (by decide) (fun hc => ?_) (fun hc => ?_)
  · have h := zi_t hc h
    refine lv_bipush (v := (-102)) hx hb dX6_drawn_24 lb_m102 ?_
    exact hret ⟨congrArg Prod.fst (Option.some.inj h), congrArg Prod.snd (Option.some.inj h)⟩ hI rfl dX6_drawn_26
  · have h := zi_f hc h
    refine lv_iload_n hx hb dX6_drawn_5 rfl (lv_at hl 1 rfl) ?_
    refine lv_bipush (v := 8) hx hb dX6_drawn_6 lb_8 ?_
    refine lv_icmp_gt (tgt := 24) hx hb dX6_drawn_8 (by decide) (fun hc => ?_) (fun hc => ?_)
    · have h := zi_t hc h
      refine lv_bipush (v := (-102)) hx hb dX6_drawn_24 lb_m102 ?_
      exact hret ⟨congrArg Prod.fst (Option.some.inj h), congrArg Prod.snd (Option.some.inj h)⟩ hI rfl dX6_drawn_26
    · have h := zi_f hc h
      refine lv_iload_n hx hb dX6_drawn_11 rfl (lv_at hl 2 rfl) ?_
      refine lv_if_lt (tgt := 24) hx hb dX6_drawn_12 (by decide) (fun hc => ?_) (fun hc => ?_)
      · have h := zi_t hc h
        refine lv_bipush (v := (-102)) hx hb dX6_drawn_24 lb_m102 ?_
        exact hret ⟨congrArg Prod.fst (Option.some.inj h), congrArg Prod.snd (Option.some.inj h)⟩ hI rfl dX6_drawn_26
      · have h := zi_f hc h
        refine lv_iload_n hx hb dX6_drawn_15 rfl (lv_at hl 3 rfl) ?_
        refine lv_if_lt (tgt := 24) hx hb dX6_drawn_16 (by decide) (fun hc => ?_) (fun hc => ?_)
        · have h := zi_t hc h
          refine lv_bipush (v := (-102)) hx hb dX6_drawn_24 lb_m102 ?_
          exact hret ⟨congrArg Prod.fst (Option.some.inj h), congrArg Prod.snd (Option.some.inj h)⟩ hI rfl dX6_drawn_26
        · have h := zi_f hc h
          refine lv_iload_n hx hb dX6_drawn_19 rfl (lv_at hl 3 rfl) ?_
          refine lv_iconst (v := 2) hx hb dX6_drawn_20 lc_2 ?_
          refine lv_icmp_le (tgt := 27) hx hb dX6_drawn_21 (by decide) (fun hc => ?_) (fun hc => ?_)
          · have h := zi_t hc h
            refine lv_iconst (v := 0) hx hb dX6_drawn_27 lc_0 ?_
            refine lv_istore (lv' := [(4, .int 0), (0, .ref (za G 0)), (1, .int x1), (2, .int x2), (3, .int x3)]) hx hb dX6_drawn_28 hl (by decide) rfl (fun ls hl => ?_)
            refine lv_iconst (v := 0) hx hb dX6_drawn_30 lc_0 ?_
            refine lv_istore (lv' := [(5, .int 0), (4, .int 0), (0, .ref (za G 0)), (1, .int x1), (2, .int x2), (3, .int x3)]) hx hb dX6_drawn_31 hl (by decide) rfl (fun ls hl => ?_)
            refine lv_iload_n hx hb dX6_drawn_33 rfl (lv_at hl 4 rfl) ?_
            refine lv_istore (lv' := [(6, .int x2), (5, .int 0), (4, .int 0), (0, .ref (za G 0)), (1, .int x1), (2, .int x2), (3, .int x3)]) hx hb dX6_drawn_34 hl (by decide) rfl (fun ls hl => ?_)
            refine lv_iconst (v := 0) hx hb dX6_drawn_36 lc_0 ?_
            refine lv_istore (lv' := [(7, .int 0), (6, .int x2), (5, .int 0), (4, .int 0), (0, .ref (za G 0)), (1, .int x1), (2, .int x2), (3, .int x3)]) hx hb dX6_drawn_37 hl (by decide) rfl (fun ls hl => ?_)
            obtain ⟨v18, v19, v20, v21, σ22, h23, h⟩ := zb5_e h
            refine w_39 100 x1 x3 0 0 x2 0 σ v18 v19 v20 v21 σ22 h23 _ _ _ hI (lv_sub hl [4, 5, 7, 3, 2, 1, 0] rfl) (fun H locs ls hI hl => ?_)
            refine lv_iload_n hx hb dX6_drawn_102 rfl (lv_at hl 2 rfl) ?_
            by_cases n_103_0 : x3 = 0
            · have h := zi_t n_103_0 h
              refine lv_lookup (tgt := 128) (off := 25) hx hb dX6_drawn_103 (by decide) (by rw [n_103_0]; rfl) (by decide) ?_
              refine lv_iload hx hb dX6_drawn_128 (lv_at hl 3 rfl) ?_
              exact hret ⟨congrArg Prod.fst (Option.some.inj h), congrArg Prod.snd (Option.some.inj h)⟩ hI rfl dX6_drawn_130
            have h := zi_f n_103_0 h
            by_cases n_103_1 : x3 = 1
            · have h := zi_t n_103_1 h
              refine lv_lookup (tgt := 131) (off := 28) hx hb dX6_drawn_103 (by decide) (by rw [n_103_1]; rfl) (by decide) ?_
              refine lv_iload hx hb dX6_drawn_131 (lv_at hl 4 rfl) ?_
              exact hret ⟨congrArg Prod.fst (Option.some.inj h), congrArg Prod.snd (Option.some.inj h)⟩ hI rfl dX6_drawn_133
            have h := zi_f n_103_1 h
            refine lv_lookup (tgt := 134) (off := 31) hx hb dX6_drawn_103 (by decide) (by simp only [Op.lookupswitch.offset, zko n_103_0 (show (0 : Int32).toInt = 0 by decide), zko n_103_1 (show (1 : Int32).toInt = 1 by decide), if_false]) (by decide) ?_
            refine lv_iload hx hb dX6_drawn_134 (lv_at hl 5 rfl) ?_
            exact hret ⟨congrArg Prod.fst (Option.some.inj h), congrArg Prod.snd (Option.some.inj h)⟩ hI rfl dX6_drawn_136
          · have h := zi_f hc h
            refine lv_bipush (v := (-102)) hx hb dX6_drawn_24 lb_m102 ?_
            exact hret ⟨congrArg Prod.fst (Option.some.inj h), congrArg Prod.snd (Option.some.inj h)⟩ hI rfl dX6_drawn_26
set_option maxRecDepth 100000 in
set_option maxHeartbeats 4000000 in
theorem c_X6_image (l : Launch) (G : zG)  {σ σ' : SF} {r : Int32} (h : F_X6_image σ   = some (r, σ')) : zMi l WF G yX6_image cX6_image 1 .int 2 [.ref (za G 0)] σ r σ' := by
  refine zMi_of (by decide) (Nat.le_of_ble_eq_true rfl) (fun p e s m args below meth c ls Q hx hb hr hlk hml hC hI hl hret => ?_)
  have hl : lv_has ls 1 [(0, .ref (za G 0))] := hl
  have hC : zC WF G RX6 args s m := hC
  unfold F_X6_image at h
  refine lv_aload_n hx hb dX6_image_0 rfl (lv_at hl 0 rfl) ?_
  refine gX6_1 hx hb hC hI q_fl_X6_19 dX6_image_1 ?_
  refine gX1_0 isJ3 hx hb hC hI q_fl_X6_86 dX6_image_4 ?_
  refine lv_if_ne (tgt := 13) hx hb dX6_image_7 (by decide) (fun hc => ?_) (fun hc => ?_)
  · have h := zi_f hc h
    refine lv_aload_n hx hb dX6_image_13 rfl (lv_at hl 0 rfl) ?_
    refine lv_iconst (v := 1) hx hb dX6_image_14 lc_1 ?_
    refine pX6_10 hx hb hC hI rfl rfl q_fl_X6_92 dX6_image_15 (fun σ1 H locs e_σ1 hI => ?_)
    have h := zl_e h e_σ1
    refine lv_aload_n hx hb dX6_image_18 rfl (lv_at hl 0 rfl) ?_
    refine gX6_6 hx hb hC hI q_fl_X6_55 dX6_image_19 ?_
    refine lv_aload_n hx hb dX6_image_22 rfl (lv_at hl 0 rfl) ?_
    refine gX6_1 hx hb hC hI q_fl_X6_19 dX6_image_23 ?_
    obtain ⟨σ3, h2, h⟩ := zb_e h
    refine z_cVv (As := [.ref (za G 3)]) (rest := []) hx hb hC (hml.trans hl.1.symm) hI (c_X1_copyFrom l G isJ23 isJ3 h2) yyX1_copyFrom q_ml_X6_97 (oX1 G isJ23) rfl ⟨Nat.le_of_ble_eq_true rfl, Nat.le_of_ble_eq_true rfl⟩ rfl rfl (Nat.le_of_ble_eq_true rfl) ⟨Nat.le_refl _, Nat.le_refl _⟩ dX6_image_26 (fun H locs hI => ?_)
    refine lv_aload_n hx hb dX6_image_29 rfl (lv_at hl 0 rfl) ?_
    refine gX6_7 hx hb hC hI q_fl_X6_58 dX6_image_30 ?_
    refine lv_aload_n hx hb dX6_image_33 rfl (lv_at hl 0 rfl) ?_
    refine gX6_5 hx hb hC hI q_fl_X6_51 dX6_image_34 ?_
    obtain ⟨σ5, h4, h⟩ := zb_e h
    refine z_cVv (As := [.ref (za G 19)]) (rest := []) hx hb hC (hml.trans hl.1.symm) hI (c_X3_copyFrom l G isS27 isS19 h4) yyX3_copyFrom q_ml_X6_206 (oX3 G isS27) rfl ⟨Nat.le_of_ble_eq_true rfl, Nat.le_of_ble_eq_true rfl⟩ rfl rfl (Nat.le_of_ble_eq_true rfl) ⟨Nat.le_refl _, Nat.le_refl _⟩ dX6_image_37 (fun H locs hI => ?_)
    refine lv_aload_n hx hb dX6_image_40 rfl (lv_at hl 0 rfl) ?_
    refine gX6_1 hx hb hC hI q_fl_X6_19 dX6_image_41 ?_
    refine gX1_0 isJ3 hx hb hC hI q_fl_X6_86 dX6_image_44 ?_
    exact hret ⟨congrArg Prod.fst (Option.some.inj h), congrArg Prod.snd (Option.some.inj h)⟩ hI rfl dX6_image_47
  · have h := zi_t hc h
    refine lv_bipush (v := (-103)) hx hb dX6_image_10 lb_m103 ?_
    exact hret ⟨congrArg Prod.fst (Option.some.inj h), congrArg Prod.snd (Option.some.inj h)⟩ hI rfl dX6_image_12
set_option maxRecDepth 100000 in
set_option maxHeartbeats 4000000 in
theorem c_X6_restore (l : Launch) (G : zG)  {σ σ' : SF} {r : Int32} (h : F_X6_restore σ   = some (r, σ')) : zMi l WF G yX6_restore cX6_restore 1 .int 38 [.ref (za G 0)] σ r σ' := by
  refine zMi_of (by decide) (Nat.le_of_ble_eq_true rfl) (fun p e s m args below meth c ls Q hx hb hr hlk hml hC hI hl hret => ?_)
  have hl : lv_has ls 1 [(0, .ref (za G 0))] := hl
  have hC : zC WF G RX6 args s m := hC
  unfold F_X6_restore at h
  refine lv_aload_n hx hb dX6_restore_0 rfl (lv_at hl 0 rfl) ?_
  refine gX6_10 hx hb hC hI q_fl_X6_92 dX6_restore_1 ?_
  refine lv_if_ne (tgt := 10) hx hb dX6_restore_4 (by decide) (fun hc => ?_) (fun hc => ?_)
  · have h := zi_f hc h
    refine lv_aload_n hx hb dX6_restore_10 rfl (lv_at hl 0 rfl) ?_
    refine gX6_1 hx hb hC hI q_fl_X6_19 dX6_restore_11 ?_
    refine lv_aload_n hx hb dX6_restore_14 rfl (lv_at hl 0 rfl) ?_
    refine gX6_6 hx hb hC hI q_fl_X6_55 dX6_restore_15 ?_
    obtain ⟨σ2, h1, h⟩ := zb_e h
    refine z_cVv (As := [.ref (za G 23)]) (rest := []) hx hb hC (hml.trans hl.1.symm) hI (c_X1_copyFrom l G isJ3 isJ23 h1) yyX1_copyFrom q_ml_X6_97 (oX1 G isJ3) rfl ⟨Nat.le_of_ble_eq_true rfl, Nat.le_of_ble_eq_true rfl⟩ rfl rfl (Nat.le_of_ble_eq_true rfl) ⟨Nat.le_refl _, Nat.le_refl _⟩ dX6_restore_18 (fun H locs hI => ?_)
    refine lv_aload_n hx hb dX6_restore_21 rfl (lv_at hl 0 rfl) ?_
    refine gX6_5 hx hb hC hI q_fl_X6_51 dX6_restore_22 ?_
    refine lv_aload_n hx hb dX6_restore_25 rfl (lv_at hl 0 rfl) ?_
    refine gX6_7 hx hb hC hI q_fl_X6_58 dX6_restore_26 ?_
    obtain ⟨σ4, h3, h⟩ := zb_e h
    refine z_cVv (As := [.ref (za G 27)]) (rest := []) hx hb hC (hml.trans hl.1.symm) hI (c_X3_copyFrom l G isS19 isS27 h3) yyX3_copyFrom q_ml_X6_206 (oX3 G isS19) rfl ⟨Nat.le_of_ble_eq_true rfl, Nat.le_of_ble_eq_true rfl⟩ rfl rfl (Nat.le_of_ble_eq_true rfl) ⟨Nat.le_refl _, Nat.le_refl _⟩ dX6_restore_29 (fun H locs hI => ?_)
    refine lv_aload_n hx hb dX6_restore_32 rfl (lv_at hl 0 rfl) ?_
    obtain ⟨σ6, h5, h⟩ := zb_e h
    refine z_cVv (As := []) (rest := []) hx hb hC (hml.trans hl.1.symm) hI (c_X6_lookAnew l G  h5) yyX6_lookAnew q_ml_X6_100 (oX6 G) rfl ⟨Nat.le_of_ble_eq_true rfl, Nat.le_of_ble_eq_true rfl⟩ rfl rfl (Nat.le_of_ble_eq_true rfl) ⟨Nat.le_refl _, Nat.le_refl _⟩ dX6_restore_33 (fun H locs hI => ?_)
    refine lv_aload_n hx hb dX6_restore_36 rfl (lv_at hl 0 rfl) ?_
    refine gX6_1 hx hb hC hI q_fl_X6_19 dX6_restore_37 ?_
    refine gX1_0 isJ3 hx hb hC hI q_fl_X6_86 dX6_restore_40 ?_
    exact hret ⟨congrArg Prod.fst (Option.some.inj h), congrArg Prod.snd (Option.some.inj h)⟩ hI rfl dX6_restore_43
  · have h := zi_t hc h
    refine lv_bipush (v := (-103)) hx hb dX6_restore_7 lb_m103 ?_
    exact hret ⟨congrArg Prod.fst (Option.some.inj h), congrArg Prod.snd (Option.some.inj h)⟩ hI rfl dX6_restore_9
set_option maxRecDepth 100000 in
set_option maxHeartbeats 4000000 in
theorem c_X6_count (l : Launch) (G : zG)  {σ : SF} {r : Int32} {x1 : Int32} (h : F_X6_count σ  x1 = some r) : zMi l WF G yX6_count cX6_count 2 .int 2 [.ref (za G 0), .int x1] σ r σ := by
  refine zMi_of (by decide) (Nat.le_of_ble_eq_true rfl) (fun p e s m args below meth c ls Q hx hb hr hlk hml hC hI hl hret => ?_)
  have hl : lv_has ls 2 [(0, .ref (za G 0)), (1, .int x1)] := hl
  have hC : zC WF G RX6 args s m := hC
  unfold F_X6_count at h
  refine lv_iload_n hx hb dX6_count_0 rfl (lv_at hl 1 rfl) ?_
  by_cases n_1_0 : x1 = 0
  · have h := zi_t n_1_0 h
    refine lv_tableIn (tgt := 64) hx hb dX6_count_1 (by rw [n_1_0]; decide) (by rw [n_1_0]; decide) (by rw [n_1_0]; rfl) (by decide) ?_
    refine lv_aload_n hx hb dX6_count_64 rfl (lv_at hl 0 rfl) ?_
    refine gX6_1 hx hb hC hI q_fl_X6_19 dX6_count_65 ?_
    refine gX1_0 isJ3 hx hb hC hI q_fl_X6_86 dX6_count_68 ?_
    exact hret ⟨(Option.some.inj h), rfl⟩ hI rfl dX6_count_71
  have h := zi_f n_1_0 h
  by_cases n_1_1 : x1 = 1
  · have h := zi_t n_1_1 h
    refine lv_tableIn (tgt := 72) hx hb dX6_count_1 (by rw [n_1_1]; decide) (by rw [n_1_1]; decide) (by rw [n_1_1]; rfl) (by decide) ?_
    refine lv_aload_n hx hb dX6_count_72 rfl (lv_at hl 0 rfl) ?_
    refine gX6_2 hx hb hC hI q_fl_X6_28 dX6_count_73 ?_
    refine gX0_6 isF3 hx hb hC hI q_fl_X6_209 dX6_count_76 ?_
    exact hret ⟨(Option.some.inj h), rfl⟩ hI rfl dX6_count_79
  have h := zi_f n_1_1 h
  by_cases n_1_2 : x1 = 2
  · have h := zi_t n_1_2 h
    refine lv_tableIn (tgt := 80) hx hb dX6_count_1 (by rw [n_1_2]; decide) (by rw [n_1_2]; decide) (by rw [n_1_2]; rfl) (by decide) ?_
    refine lv_aload_n hx hb dX6_count_80 rfl (lv_at hl 0 rfl) ?_
    refine gX6_2 hx hb hC hI q_fl_X6_28 dX6_count_81 ?_
    refine gX0_8 isF3 hx hb hC hI q_fl_X6_210 dX6_count_84 ?_
    exact hret ⟨(Option.some.inj h), rfl⟩ hI rfl dX6_count_87
  have h := zi_f n_1_2 h
  by_cases n_1_3 : x1 = 3
  · have h := zi_t n_1_3 h
    refine lv_tableIn (tgt := 88) hx hb dX6_count_1 (by rw [n_1_3]; decide) (by rw [n_1_3]; decide) (by rw [n_1_3]; rfl) (by decide) ?_
    refine lv_aload_n hx hb dX6_count_88 rfl (lv_at hl 0 rfl) ?_
    refine gX6_2 hx hb hC hI q_fl_X6_28 dX6_count_89 ?_
    refine gX0_9 isF3 hx hb hC hI q_fl_X6_213 dX6_count_92 ?_
    exact hret ⟨(Option.some.inj h), rfl⟩ hI rfl dX6_count_95
  have h := zi_f n_1_3 h
  by_cases n_1_4 : x1 = 4
  · have h := zi_t n_1_4 h
    refine lv_tableIn (tgt := 96) hx hb dX6_count_1 (by rw [n_1_4]; decide) (by rw [n_1_4]; decide) (by rw [n_1_4]; rfl) (by decide) ?_
    refine lv_aload_n hx hb dX6_count_96 rfl (lv_at hl 0 rfl) ?_
    refine gX6_2 hx hb hC hI q_fl_X6_28 dX6_count_97 ?_
    refine gX0_10 isF3 hx hb hC hI q_fl_X6_216 dX6_count_100 ?_
    exact hret ⟨(Option.some.inj h), rfl⟩ hI rfl dX6_count_103
  have h := zi_f n_1_4 h
  by_cases n_1_5 : x1 = 5
  · have h := zi_t n_1_5 h
    refine lv_tableIn (tgt := 104) hx hb dX6_count_1 (by rw [n_1_5]; decide) (by rw [n_1_5]; decide) (by rw [n_1_5]; rfl) (by decide) ?_
    refine lv_aload_n hx hb dX6_count_104 rfl (lv_at hl 0 rfl) ?_
    refine gX6_2 hx hb hC hI q_fl_X6_28 dX6_count_105 ?_
    refine gX0_11 isF3 hx hb hC hI q_fl_X6_203 dX6_count_108 ?_
    obtain ⟨r2, h1, h⟩ := zb_e h
    refine z_cSi (As := [.int (σ (3 + 4) 11)]) (rest := []) hx hb hC (hml.trans hl.1.symm) hI (c_J6_bitCount_0f7a4 l G  (σ := σ) h1) yyJ6_bitCount_0f7a4 q_ml_X6_188 ⟨Nat.le_of_ble_eq_true rfl, Nat.le_of_ble_eq_true rfl⟩ rfl rfl (Nat.le_of_ble_eq_true rfl) ⟨Nat.le_refl _, Nat.le_refl _⟩ dX6_count_111 (fun H locs hI => ?_)
    exact hret ⟨(Option.some.inj h), rfl⟩ hI rfl dX6_count_114
  have h := zi_f n_1_5 h
  by_cases n_1_6 : x1 = 6
  · have h := zi_t n_1_6 h
    refine lv_tableIn (tgt := 115) hx hb dX6_count_1 (by rw [n_1_6]; decide) (by rw [n_1_6]; decide) (by rw [n_1_6]; rfl) (by decide) ?_
    refine lv_aload_n hx hb dX6_count_115 rfl (lv_at hl 0 rfl) ?_
    refine gX6_2 hx hb hC hI q_fl_X6_28 dX6_count_116 ?_
    refine gX0_12 isF3 hx hb hC hI q_fl_X6_219 dX6_count_119 ?_
    obtain ⟨r4, h3, h⟩ := zb_e h
    refine z_cSi (As := [.int (σ (3 + 4) 12)]) (rest := []) hx hb hC (hml.trans hl.1.symm) hI (c_J6_bitCount_0f7a4 l G  (σ := σ) h3) yyJ6_bitCount_0f7a4 q_ml_X6_188 ⟨Nat.le_of_ble_eq_true rfl, Nat.le_of_ble_eq_true rfl⟩ rfl rfl (Nat.le_of_ble_eq_true rfl) ⟨Nat.le_refl _, Nat.le_refl _⟩ dX6_count_122 (fun H locs hI => ?_)
    exact hret ⟨(Option.some.inj h), rfl⟩ hI rfl dX6_count_125
  have h := zi_f n_1_6 h
  by_cases n_1_7 : x1 = 7
  · have h := zi_t n_1_7 h
    refine lv_tableIn (tgt := 126) hx hb dX6_count_1 (by rw [n_1_7]; decide) (by rw [n_1_7]; decide) (by rw [n_1_7]; rfl) (by decide) ?_
    refine lv_aload_n hx hb dX6_count_126 rfl (lv_at hl 0 rfl) ?_
    refine gX6_4 hx hb hC hI q_fl_X6_44 dX6_count_127 ?_
    refine gX5_1 hx hb hC hI q_fl_X6_95 dX6_count_130 ?_
    exact hret ⟨(Option.some.inj h), rfl⟩ hI rfl dX6_count_133
  have h := zi_f n_1_7 h
  by_cases n_1_8 : x1 = 8
  · have h := zi_t n_1_8 h
    refine lv_tableIn (tgt := 134) hx hb dX6_count_1 (by rw [n_1_8]; decide) (by rw [n_1_8]; decide) (by rw [n_1_8]; rfl) (by decide) ?_
    refine lv_aload_n hx hb dX6_count_134 rfl (lv_at hl 0 rfl) ?_
    refine gX6_5 hx hb hC hI q_fl_X6_51 dX6_count_135 ?_
    refine gX3_0 isS19 hx hb hC hI q_fl_X6_96 dX6_count_138 ?_
    exact hret ⟨(Option.some.inj h), rfl⟩ hI rfl dX6_count_141
  have h := zi_f n_1_8 h
  by_cases n_1_9 : x1 = 9
  · have h := zi_t n_1_9 h
    refine lv_tableIn (tgt := 142) hx hb dX6_count_1 (by rw [n_1_9]; decide) (by rw [n_1_9]; decide) (by rw [n_1_9]; rfl) (by decide) ?_
    refine lv_aload_n hx hb dX6_count_142 rfl (lv_at hl 0 rfl) ?_
    refine gX6_0 hx hb hC hI q_fl_X6_12 dX6_count_143 ?_
    refine gX2_1 hx hb hC hI q_fl_X6_71 dX6_count_146 ?_
    exact hret ⟨(Option.some.inj h), rfl⟩ hI rfl dX6_count_149
  have h := zi_f n_1_9 h
  by_cases n_1_10 : x1 = 10
  · have h := zi_t n_1_10 h
    refine lv_tableIn (tgt := 150) hx hb dX6_count_1 (by rw [n_1_10]; decide) (by rw [n_1_10]; decide) (by rw [n_1_10]; rfl) (by decide) ?_
    refine lv_aload_n hx hb dX6_count_150 rfl (lv_at hl 0 rfl) ?_
    refine gX6_11 hx hb hC hI q_fl_X6_89 dX6_count_151 ?_
    exact hret ⟨(Option.some.inj h), rfl⟩ hI rfl dX6_count_154
  have h := zi_f n_1_10 h
  by_cases n_1_11 : x1 = 11
  · have h := zi_t n_1_11 h
    refine lv_tableIn (tgt := 155) hx hb dX6_count_1 (by rw [n_1_11]; decide) (by rw [n_1_11]; decide) (by rw [n_1_11]; rfl) (by decide) ?_
    refine lv_aload_n hx hb dX6_count_155 rfl (lv_at hl 0 rfl) ?_
    refine gX6_12 hx hb hC hI q_fl_X6_181 dX6_count_156 ?_
    exact hret ⟨(Option.some.inj h), rfl⟩ hI rfl dX6_count_159
  have h := zi_f n_1_11 h
  have t_1 : (x1 : Int32).toInt ≠ 0 ∧ (x1 : Int32).toInt ≠ 1 ∧ (x1 : Int32).toInt ≠ 2 ∧ (x1 : Int32).toInt ≠ 3 ∧ (x1 : Int32).toInt ≠ 4 ∧ (x1 : Int32).toInt ≠ 5 ∧ (x1 : Int32).toInt ≠ 6 ∧ (x1 : Int32).toInt ≠ 7 ∧ (x1 : Int32).toInt ≠ 8 ∧ (x1 : Int32).toInt ≠ 9 ∧ (x1 : Int32).toInt ≠ 10 ∧ (x1 : Int32).toInt ≠ 11 := by
    exact ⟨zne_toInt n_1_0, zne_toInt n_1_1, zne_toInt n_1_2, zne_toInt n_1_3, zne_toInt n_1_4, zne_toInt n_1_5, zne_toInt n_1_6, zne_toInt n_1_7, zne_toInt n_1_8, zne_toInt n_1_9, zne_toInt n_1_10, zne_toInt n_1_11⟩
  refine lv_tableOut (tgt := 160) hx hb dX6_count_1 (by omega) (by decide) ?_
  refine lv_bipush (v := (-102)) hx hb dX6_count_160 lb_m102 ?_
  exact hret ⟨(Option.some.inj h), rfl⟩ hI rfl dX6_count_162
set_option maxRecDepth 100000 in
set_option maxHeartbeats 4000000 in
theorem c_X6_joined (l : Launch) (G : zG) {q : Nat} {nn : Nat} (hq : zV WF G q nn) {σ : SF} {r : Int64} {x0 : Int64} {x3 : Int32} (h : F_X6_joined σ q nn x0 x3 = some r) : zMl l WF G yX6_joined cX6_joined 7 1 [.long x0, .ref (za G q), .int x3] σ r σ := by
  refine zMl_of (by decide) (Nat.le_of_ble_eq_true rfl) (fun p e s m args below meth c ls Q hx hb hr hlk hml hC hI hl hret => ?_)
  have hl : lv_has ls 7 [(0, .long x0), (2, .ref (za G q)), (3, .int x3)] := hl
  have hC : zC WF G RX6 args s m := hC
  have w_6 : ∀ (n : Nat) (y3 : Int32) (y4 : Int64) (y6 : Int32) (y4o : Int64) (y6o : Int32), L_X6_joined_6 σ q nn y3 n y4 y6 = some (y4o, y6o) → ∀ (H : Heap) (locs : List Loc) (ls : Array Slot), zI WF G s σ H locs → lv_has ls 7 [(2, .ref (za G q)), (3, .int y3), (4, .long y4), (6, .int y6)] → (∀ (H : Heap) (locs : List Loc) (ls : Array Slot), zI WF G s σ H locs → lv_has ls 7 [(2, .ref (za G q)), (3, .int y3), (4, .long y4o), (6, .int y6o)] → W p l e (zR 1) s m args below meth c H locs 0 0 Q (F0 m 39 ls [])) → W p l e (zR 1) s m args below meth c H locs 0 0 Q (F0 m 6 ls []) := by
    intro n
    induction n with
    | zero => intro y3 y4 y6 y4o y6o h; cases h
    | succ n ih =>
      intro y3 y4 y6 y4o y6o h H locs ls hI hl kE
      unfold L_X6_joined_6 at h
      refine lv_iload hx hb dX6_joined_6 (lv_at hl 3 rfl) ?_
      refine lv_iload_n hx hb dX6_joined_8 rfl (lv_at hl 1 rfl) ?_
      refine lv_icmp_ge (tgt := 39) hx hb dX6_joined_9 (by decide) (fun hc => ?_) (fun hc => ?_)
      · have h := zi_t hc h
        cases h
        exact kE _ _ _ hI (lv_sub hl [0, 1, 2, 3] rfl)
      · have h := zi_f hc h
        refine lv_iload hx hb dX6_joined_12 (lv_at hl 3 rfl) ?_
        refine lv_aload_n hx hb dX6_joined_14 rfl (lv_at hl 0 rfl) ?_
        refine z_alen hx hb hC hI hq (v := nI nn) rfl dX6_joined_15 ?_
        refine lv_icmp_ge (tgt := 39) hx hb dX6_joined_16 (by decide) (fun hc => ?_) (fun hc => ?_)
        · have h := zi_t hc h
          cases h
          exact kE _ _ _ hI (lv_sub hl [0, 1, 2, 3] rfl)
        · have h := zi_f hc h
          refine lv_ldc2 hx hb hC.1 (hC.ts q_ct_X6_224) dX6_joined_19 ?_
          refine lv_lload hx hb dX6_joined_22 (lv_at hl 2 rfl) ?_
          refine lv_lmul hx hb dX6_joined_24 ?_
          refine lv_aload_n hx hb dX6_joined_25 rfl (lv_at hl 0 rfl) ?_
          refine lv_iload hx hb dX6_joined_26 (lv_at hl 3 rfl) ?_
          obtain ⟨hg, h⟩ := zg_e h
          refine z_iald hx hb hC hI hq hg dX6_joined_28 ?_
          refine lv_i2l hx hb dX6_joined_29 rfl ?_
          refine lv_ladd hx hb dX6_joined_30 ?_
          refine lv_topl (fun w1 e_w1 => ?_)
          have h := zl_e h e_w1
          refine lv_lstore (lv' := [(4, .long w1), (2, .ref (za G q)), (3, .int y3), (6, .int y6)]) hx hb dX6_joined_31 hl (by decide) rfl (fun ls hl => ?_)
          obtain ⟨v2, e_v2⟩ : ∃ y : Int32, y = y6 + 1 := ⟨_, rfl⟩
          have h := zl_e h e_v2
          refine lv_iinc (v := v2) (lv' := [(6, .int v2), (4, .long w1), (2, .ref (za G q)), (3, .int y3)]) hx hb dX6_joined_33 hl (k := 3) rfl (by rw [lc_1]; exact e_v2.symm) (by decide) rfl (fun ls hl => ?_)
          refine lv_goto (tgt := 6) hx hb dX6_joined_36 (by decide) ?_
          exact ih y3 w1 v2 y4o y6o h _ _ _ hI (lv_sub hl [2, 3, 1, 0] rfl) kE
  unfold F_X6_joined at h
  refine lv_lload_n hx hb dX6_joined_0 rfl (lv_at hl 0 rfl) ?_
  refine lv_lstore (lv' := [(4, .long x0), (0, .long x0), (2, .ref (za G q)), (3, .int x3)]) hx hb dX6_joined_1 hl (by decide) rfl (fun ls hl => ?_)
  refine lv_iconst (v := 0) hx hb dX6_joined_3 lc_0 ?_
  refine lv_istore (lv' := [(6, .int 0), (4, .long x0), (0, .long x0), (2, .ref (za G q)), (3, .int x3)]) hx hb dX6_joined_4 hl (by decide) rfl (fun ls hl => ?_)
  obtain ⟨w3, v4, h5, h⟩ := zb2_e h
  refine w_6 100 x3 x0 0 w3 v4 h5 _ _ _ hI (lv_sub hl [3, 4, 1, 0] rfl) (fun H locs ls hI hl => ?_)
  refine lv_lload hx hb dX6_joined_39 (lv_at hl 2 rfl) ?_
  exact hret ⟨(Option.some.inj h), rfl⟩ hI dX6_joined_41
set_option maxRecDepth 100000 in
set_option maxHeartbeats 4000000 in
theorem c_X6_digest (l : Launch) (G : zG)  {σ : SF} {r : Int64} (h : F_X6_digest σ   = some r) : zMl l WF G yX6_digest cX6_digest 5 6 [.ref (za G 0)] σ r σ := by
  refine zMl_of (by decide) (Nat.le_of_ble_eq_true rfl) (fun p e s m args below meth c ls Q hx hb hr hlk hml hC hI hl hret => ?_)
  have hl : lv_has ls 5 [(0, .ref (za G 0))] := hl
  have hC : zC WF G RX6 args s m := hC
  have w_20 : ∀ (n : Nat) (y3 : Int32) (y1 : Int64) (y4 : Int32) (y1o : Int64) (y4o : Int32), L_X6_digest_20 σ y3 n y1 y4 = some (y1o, y4o) → ∀ (H : Heap) (locs : List Loc) (ls : Array Slot), zI WF G s σ H locs → lv_has ls 5 [(0, .ref (za G 0)), (1, .long y1), (3, .int y3), (4, .int y4)] → (∀ (H : Heap) (locs : List Loc) (ls : Array Slot), zI WF G s σ H locs → lv_has ls 5 [(0, .ref (za G 0)), (1, .long y1o), (3, .int y3), (4, .int y4o)] → W p l e (zR 6) s m args below meth c H locs 0 0 Q (F0 m 48 ls [])) → W p l e (zR 6) s m args below meth c H locs 0 0 Q (F0 m 20 ls []) := by
    intro n
    induction n with
    | zero => intro y3 y1 y4 y1o y4o h; cases h
    | succ n ih =>
      intro y3 y1 y4 y1o y4o h H locs ls hI hl kE
      unfold L_X6_digest_20 at h
      refine lv_iload hx hb dX6_digest_20 (lv_at hl 3 rfl) ?_
      refine lv_bipush (v := 10) hx hb dX6_digest_22 lb_10 ?_
      refine lv_icmp_ge (tgt := 48) hx hb dX6_digest_24 (by decide) (fun hc => ?_) (fun hc => ?_)
      · have h := zi_t hc h
        cases h
        exact kE _ _ _ hI (lv_sub hl [0, 1, 2, 3] rfl)
      · have h := zi_f hc h
        refine lv_ldc2 hx hb hC.1 (hC.ts q_ct_X6_224) dX6_digest_27 ?_
        refine lv_lload_n hx hb dX6_digest_30 rfl (lv_at hl 1 rfl) ?_
        refine lv_lmul hx hb dX6_digest_31 ?_
        refine lv_aload_n hx hb dX6_digest_32 rfl (lv_at hl 0 rfl) ?_
        refine lv_iload_n hx hb dX6_digest_33 rfl (lv_at hl 2 rfl) ?_
        refine lv_iload hx hb dX6_digest_34 (lv_at hl 3 rfl) ?_
        obtain ⟨r2, h1, h⟩ := zb_e h
        refine z_cVi (As := [.int y3, .int y4]) (rest := [.long ((31 : Int64) * y1)]) hx hb hC (hml.trans hl.1.symm) hI (c_X6_node l G  h1) yyX6_node q_ml_X6_226 (oX6 G) rfl ⟨Nat.le_of_ble_eq_true rfl, Nat.le_of_ble_eq_true rfl⟩ rfl rfl (Nat.le_of_ble_eq_true rfl) ⟨Nat.le_refl _, Nat.le_refl _⟩ dX6_digest_36 (fun H locs hI => ?_)
        refine lv_i2l hx hb dX6_digest_39 rfl ?_
        refine lv_ladd hx hb dX6_digest_40 ?_
        refine lv_topl (fun w3 e_w3 => ?_)
        have h := zl_e h e_w3
        refine lv_lstore_n (lv' := [(1, .long w3), (0, .ref (za G 0)), (3, .int y3), (4, .int y4)]) hx hb dX6_digest_41 rfl hl (by decide) rfl (fun ls hl => ?_)
        obtain ⟨v4, e_v4⟩ : ∃ y : Int32, y = y4 + 1 := ⟨_, rfl⟩
        have h := zl_e h e_v4
        refine lv_iinc (v := v4) (lv' := [(4, .int v4), (1, .long w3), (0, .ref (za G 0)), (3, .int y3)]) hx hb dX6_digest_42 hl (k := 3) rfl (by rw [lc_1]; exact e_v4.symm) (by decide) rfl (fun ls hl => ?_)
        refine lv_goto (tgt := 20) hx hb dX6_digest_45 (by decide) ?_
        exact ih y3 w3 v4 y1o y4o h _ _ _ hI (lv_sub hl [2, 1, 3, 0] rfl) kE
  have w_6 : ∀ (n : Nat) (y1 : Int64) (y3 : Int32) (y1o : Int64) (y3o : Int32), L_X6_digest_6 σ n y1 y3 = some (y1o, y3o) → ∀ (H : Heap) (locs : List Loc) (ls : Array Slot), zI WF G s σ H locs → lv_has ls 5 [(0, .ref (za G 0)), (1, .long y1), (3, .int y3)] → (∀ (H : Heap) (locs : List Loc) (ls : Array Slot), zI WF G s σ H locs → lv_has ls 5 [(0, .ref (za G 0)), (1, .long y1o), (3, .int y3o)] → W p l e (zR 6) s m args below meth c H locs 0 0 Q (F0 m 82 ls [])) → W p l e (zR 6) s m args below meth c H locs 0 0 Q (F0 m 6 ls []) := by
    intro n
    induction n with
    | zero => intro y1 y3 y1o y3o h; cases h
    | succ n ih =>
      intro y1 y3 y1o y3o h H locs ls hI hl kE
      unfold L_X6_digest_6 at h
      refine lv_iload_n hx hb dX6_digest_6 rfl (lv_at hl 2 rfl) ?_
      refine lv_aload_n hx hb dX6_digest_7 rfl (lv_at hl 0 rfl) ?_
      refine gX6_1 hx hb hC hI q_fl_X6_19 dX6_digest_8 ?_
      refine gX1_0 isJ3 hx hb hC hI q_fl_X6_86 dX6_digest_11 ?_
      refine lv_icmp_ge (tgt := 82) hx hb dX6_digest_14 (by decide) (fun hc => ?_) (fun hc => ?_)
      · have h := zi_t hc h
        cases h
        exact kE _ _ _ hI (lv_sub hl [0, 1, 2] rfl)
      · have h := zi_f hc h
        refine lv_iconst (v := 0) hx hb dX6_digest_17 lc_0 ?_
        refine lv_istore (lv' := [(4, .int 0), (0, .ref (za G 0)), (1, .long y1), (3, .int y3)]) hx hb dX6_digest_18 hl (by decide) rfl (fun ls hl => ?_)
        obtain ⟨w5, v6, h7, h⟩ := zb2_e h
        refine w_20 100 y3 y1 0 w5 v6 h7 _ _ _ hI (lv_sub hl [1, 2, 3, 0] rfl) (fun H locs ls hI hl => ?_)
        refine lv_ldc2 hx hb hC.1 (hC.ts q_ct_X6_224) dX6_digest_48 ?_
        refine lv_lload_n hx hb dX6_digest_51 rfl (lv_at hl 1 rfl) ?_
        refine lv_lmul hx hb dX6_digest_52 ?_
        refine lv_aload_n hx hb dX6_digest_53 rfl (lv_at hl 0 rfl) ?_
        refine lv_iload_n hx hb dX6_digest_54 rfl (lv_at hl 2 rfl) ?_
        refine lv_iconst (v := 0) hx hb dX6_digest_55 lc_0 ?_
        obtain ⟨r9, h8, h⟩ := zb_e h
        refine z_cVi (As := [.int y3, .int 0]) (rest := [.long ((31 : Int64) * w5)]) hx hb hC (hml.trans hl.1.symm) hI (c_X6_edge l G  h8) yyX6_edge q_ml_X6_229 (oX6 G) rfl ⟨Nat.le_of_ble_eq_true rfl, Nat.le_of_ble_eq_true rfl⟩ rfl rfl (Nat.le_of_ble_eq_true rfl) ⟨Nat.le_refl _, Nat.le_refl _⟩ dX6_digest_56 (fun H locs hI => ?_)
        refine lv_i2l hx hb dX6_digest_59 rfl ?_
        refine lv_ladd hx hb dX6_digest_60 ?_
        refine lv_topl (fun w10 e_w10 => ?_)
        have h := zl_e h e_w10
        refine lv_lstore_n (lv' := [(1, .long w10), (0, .ref (za G 0)), (3, .int y3), (4, .int v6)]) hx hb dX6_digest_61 rfl hl (by decide) rfl (fun ls hl => ?_)
        refine lv_ldc2 hx hb hC.1 (hC.ts q_ct_X6_224) dX6_digest_62 ?_
        refine lv_lload_n hx hb dX6_digest_65 rfl (lv_at hl 0 rfl) ?_
        refine lv_lmul hx hb dX6_digest_66 ?_
        refine lv_aload_n hx hb dX6_digest_67 rfl (lv_at hl 1 rfl) ?_
        refine lv_iload_n hx hb dX6_digest_68 rfl (lv_at hl 2 rfl) ?_
        refine lv_iconst (v := 1) hx hb dX6_digest_69 lc_1 ?_
        obtain ⟨r12, h11, h⟩ := zb_e h
        refine z_cVi (As := [.int y3, .int 1]) (rest := [.long ((31 : Int64) * w10)]) hx hb hC (hml.trans hl.1.symm) hI (c_X6_edge l G  h11) yyX6_edge q_ml_X6_229 (oX6 G) rfl ⟨Nat.le_of_ble_eq_true rfl, Nat.le_of_ble_eq_true rfl⟩ rfl rfl (Nat.le_of_ble_eq_true rfl) ⟨Nat.le_refl _, Nat.le_refl _⟩ dX6_digest_70 (fun H locs hI => ?_)
        refine lv_i2l hx hb dX6_digest_73 rfl ?_
        refine lv_ladd hx hb dX6_digest_74 ?_
        refine lv_topl (fun w13 e_w13 => ?_)
        have h := zl_e h e_w13
        refine lv_lstore_n (lv' := [(1, .long w13), (0, .ref (za G 0)), (3, .int y3), (4, .int v6)]) hx hb dX6_digest_75 rfl hl (by decide) rfl (fun ls hl => ?_)
        obtain ⟨v14, e_v14⟩ : ∃ y : Int32, y = y3 + 1 := ⟨_, rfl⟩
        have h := zl_e h e_v14
        refine lv_iinc (v := v14) (lv' := [(3, .int v14), (1, .long w13), (0, .ref (za G 0)), (4, .int v6)]) hx hb dX6_digest_76 hl (k := 2) rfl (by rw [lc_1]; exact e_v14.symm) (by decide) rfl (fun ls hl => ?_)
        refine lv_goto (tgt := 6) hx hb dX6_digest_79 (by decide) ?_
        exact ih w13 v14 y1o y3o h _ _ _ hI (lv_sub hl [2, 1, 0] rfl) kE
  have w_177 : ∀ (n : Nat) (y1 : Int64) (y3 : Int32) (y1o : Int64) (y3o : Int32), L_X6_digest_177 σ n y1 y3 = some (y1o, y3o) → ∀ (H : Heap) (locs : List Loc) (ls : Array Slot), zI WF G s σ H locs → lv_has ls 5 [(0, .ref (za G 0)), (1, .long y1), (3, .int y3)] → (∀ (H : Heap) (locs : List Loc) (ls : Array Slot), zI WF G s σ H locs → lv_has ls 5 [(0, .ref (za G 0)), (1, .long y1o), (3, .int y3o)] → W p l e (zR 6) s m args below meth c H locs 0 0 Q (F0 m 202 ls [])) → W p l e (zR 6) s m args below meth c H locs 0 0 Q (F0 m 177 ls []) := by
    intro n
    induction n with
    | zero => intro y1 y3 y1o y3o h; cases h
    | succ n ih =>
      intro y1 y3 y1o y3o h H locs ls hI hl kE
      unfold L_X6_digest_177 at h
      refine lv_iload_n hx hb dX6_digest_177 rfl (lv_at hl 2 rfl) ?_
      refine lv_bipush (v := 12) hx hb dX6_digest_178 lb_12 ?_
      refine lv_icmp_ge (tgt := 202) hx hb dX6_digest_180 (by decide) (fun hc => ?_) (fun hc => ?_)
      · have h := zi_t hc h
        cases h
        exact kE _ _ _ hI (lv_sub hl [0, 1, 2] rfl)
      · have h := zi_f hc h
        refine lv_ldc2 hx hb hC.1 (hC.ts q_ct_X6_224) dX6_digest_183 ?_
        refine lv_lload_n hx hb dX6_digest_186 rfl (lv_at hl 1 rfl) ?_
        refine lv_lmul hx hb dX6_digest_187 ?_
        refine lv_aload_n hx hb dX6_digest_188 rfl (lv_at hl 0 rfl) ?_
        refine lv_iload_n hx hb dX6_digest_189 rfl (lv_at hl 2 rfl) ?_
        obtain ⟨r25, h24, h⟩ := zb_e h
        refine z_cVi (As := [.int y3]) (rest := [.long ((31 : Int64) * y1)]) hx hb hC (hml.trans hl.1.symm) hI (c_X6_count l G  h24) yyX6_count q_ml_X6_242 (oX6 G) rfl ⟨Nat.le_of_ble_eq_true rfl, Nat.le_of_ble_eq_true rfl⟩ rfl rfl (Nat.le_of_ble_eq_true rfl) ⟨Nat.le_refl _, Nat.le_refl _⟩ dX6_digest_190 (fun H locs hI => ?_)
        refine lv_i2l hx hb dX6_digest_193 rfl ?_
        refine lv_ladd hx hb dX6_digest_194 ?_
        refine lv_topl (fun w26 e_w26 => ?_)
        have h := zl_e h e_w26
        refine lv_lstore_n (lv' := [(1, .long w26), (0, .ref (za G 0)), (3, .int y3)]) hx hb dX6_digest_195 rfl hl (by decide) rfl (fun ls hl => ?_)
        obtain ⟨v27, e_v27⟩ : ∃ y : Int32, y = y3 + 1 := ⟨_, rfl⟩
        have h := zl_e h e_v27
        refine lv_iinc (v := v27) (lv' := [(3, .int v27), (1, .long w26), (0, .ref (za G 0))]) hx hb dX6_digest_196 hl (k := 2) rfl (by rw [lc_1]; exact e_v27.symm) (by decide) rfl (fun ls hl => ?_)
        refine lv_goto (tgt := 177) hx hb dX6_digest_199 (by decide) ?_
        exact ih w26 v27 y1o y3o h _ _ _ hI (lv_sub hl [2, 1, 0] rfl) kE
  have w_94 : ∀ (n : Nat) (y1 : Int64) (y3 : Int32) (y1o : Int64) (y3o : Int32), L_X6_digest_94 σ n y1 y3 = some (y1o, y3o) → ∀ (H : Heap) (locs : List Loc) (ls : Array Slot), zI WF G s σ H locs → lv_has ls 5 [(0, .ref (za G 0)), (1, .long y1), (3, .int y3)] → (∀ (H : Heap) (locs : List Loc) (ls : Array Slot), zI WF G s σ H locs → lv_has ls 5 [(0, .ref (za G 0)), (1, .long y1o), (3, .int y3o)] → W p l e (zR 6) s m args below meth c H locs 0 0 Q (F0 m 118 ls [])) → W p l e (zR 6) s m args below meth c H locs 0 0 Q (F0 m 94 ls []) := by
    intro n
    induction n with
    | zero => intro y1 y3 y1o y3o h; cases h
    | succ n ih =>
      intro y1 y3 y1o y3o h H locs ls hI hl kE
      unfold L_X6_digest_94 at h
      refine lv_iload_n hx hb dX6_digest_94 rfl (lv_at hl 2 rfl) ?_
      refine lv_iconst (v := 4) hx hb dX6_digest_95 lc_4 ?_
      refine lv_icmp_ge (tgt := 118) hx hb dX6_digest_96 (by decide) (fun hc => ?_) (fun hc => ?_)
      · have h := zi_t hc h
        cases h
        exact kE _ _ _ hI (lv_sub hl [0, 1, 2] rfl)
      · have h := zi_f hc h
        refine lv_ldc2 hx hb hC.1 (hC.ts q_ct_X6_224) dX6_digest_99 ?_
        refine lv_lload_n hx hb dX6_digest_102 rfl (lv_at hl 1 rfl) ?_
        refine lv_lmul hx hb dX6_digest_103 ?_
        refine lv_aload_n hx hb dX6_digest_104 rfl (lv_at hl 0 rfl) ?_
        refine lv_iload_n hx hb dX6_digest_105 rfl (lv_at hl 2 rfl) ?_
        obtain ⟨r32, h31, h⟩ := zb_e h
        refine z_cVi (As := [.int y3]) (rest := [.long ((31 : Int64) * y1)]) hx hb hC (hml.trans hl.1.symm) hI (c_X6_fold l G  h31) yyX6_fold q_ml_X6_232 (oX6 G) rfl ⟨Nat.le_of_ble_eq_true rfl, Nat.le_of_ble_eq_true rfl⟩ rfl rfl (Nat.le_of_ble_eq_true rfl) ⟨Nat.le_refl _, Nat.le_refl _⟩ dX6_digest_106 (fun H locs hI => ?_)
        refine lv_i2l hx hb dX6_digest_109 rfl ?_
        refine lv_ladd hx hb dX6_digest_110 ?_
        refine lv_topl (fun w33 e_w33 => ?_)
        have h := zl_e h e_w33
        refine lv_lstore_n (lv' := [(1, .long w33), (0, .ref (za G 0)), (3, .int y3)]) hx hb dX6_digest_111 rfl hl (by decide) rfl (fun ls hl => ?_)
        obtain ⟨v34, e_v34⟩ : ∃ y : Int32, y = y3 + 1 := ⟨_, rfl⟩
        have h := zl_e h e_v34
        refine lv_iinc (v := v34) (lv' := [(3, .int v34), (1, .long w33), (0, .ref (za G 0))]) hx hb dX6_digest_112 hl (k := 2) rfl (by rw [lc_1]; exact e_v34.symm) (by decide) rfl (fun ls hl => ?_)
        refine lv_goto (tgt := 94) hx hb dX6_digest_115 (by decide) ?_
        exact ih w33 v34 y1o y3o h _ _ _ hI (lv_sub hl [2, 1, 0] rfl) kE
  unfold F_X6_digest at h
  refine lv_ldc2 hx hb hC.1 (hC.ts q_ct_X6_222) dX6_digest_0 ?_
  refine lv_lstore_n (lv' := [(1, .long 1381), (0, .ref (za G 0))]) hx hb dX6_digest_3 rfl hl (by decide) rfl (fun ls hl => ?_)
  refine lv_iconst (v := 0) hx hb dX6_digest_4 lc_0 ?_
  refine lv_istore_n (lv' := [(3, .int 0), (1, .long 1381), (0, .ref (za G 0))]) hx hb dX6_digest_5 rfl hl (by decide) rfl (fun ls hl => ?_)
  obtain ⟨w15, v16, h17, h⟩ := zb2_e h
  refine w_6 100 1381 0 w15 v16 h17 _ _ _ hI (lv_sub hl [2, 1, 0] rfl) (fun H locs ls hI hl => ?_)
  refine lv_aload_n hx hb dX6_digest_82 rfl (lv_at hl 0 rfl) ?_
  refine gX6_1 hx hb hC hI q_fl_X6_19 dX6_digest_83 ?_
  refine gX1_0 isJ3 hx hb hC hI q_fl_X6_86 dX6_digest_86 ?_
  refine lv_if_le (tgt := 118) hx hb dX6_digest_89 (by decide) (fun hc => ?_) (fun hc => ?_)
  · have h := zi_t hc h
    refine lv_lload_n hx hb dX6_digest_118 rfl (lv_at hl 1 rfl) ?_
    refine lv_aload_n hx hb dX6_digest_119 rfl (lv_at hl 0 rfl) ?_
    refine gX6_3 hx hb hC hI q_fl_X6_37 dX6_digest_120 ?_
    refine gX4_2 hx hb hC hI q_fl_X6_167 dX6_digest_123 ?_
    refine lv_aload_n hx hb dX6_digest_126 rfl (lv_at hl 0 rfl) ?_
    refine gX6_3 hx hb hC hI q_fl_X6_37 dX6_digest_127 ?_
    refine gX4_3 hx hb hC hI q_fl_X6_166 dX6_digest_130 ?_
    obtain ⟨r19, h18, h⟩ := zb_e h
    refine z_cSl (As := [.long w15, .ref (za G 14), .int (σ 13 3)]) (rest := []) hx hb hC (hml.trans hl.1.symm) hI (c_X6_joined l G (vX4_2 G) h18) yyX6_joined q_ml_X6_235 ⟨Nat.le_of_ble_eq_true rfl, Nat.le_of_ble_eq_true rfl⟩ rfl rfl (Nat.le_of_ble_eq_true rfl) ⟨Nat.le_refl _, Nat.le_refl _⟩ dX6_digest_133 (fun H locs hI => ?_)
    refine lv_lstore_n (lv' := [(1, .long r19), (0, .ref (za G 0)), (3, .int v16)]) hx hb dX6_digest_136 rfl hl (by decide) rfl (fun ls hl => ?_)
    refine lv_lload_n hx hb dX6_digest_137 rfl (lv_at hl 0 rfl) ?_
    refine lv_aload_n hx hb dX6_digest_138 rfl (lv_at hl 1 rfl) ?_
    refine gX6_4 hx hb hC hI q_fl_X6_44 dX6_digest_139 ?_
    refine gX5_0 hx hb hC hI q_fl_X6_163 dX6_digest_142 ?_
    refine lv_aload_n hx hb dX6_digest_145 rfl (lv_at hl 1 rfl) ?_
    refine gX6_4 hx hb hC hI q_fl_X6_44 dX6_digest_146 ?_
    refine gX5_1 hx hb hC hI q_fl_X6_95 dX6_digest_149 ?_
    obtain ⟨r21, h20, h⟩ := zb_e h
    refine z_cSl (As := [.long r19, .ref (za G 17), .int (σ 16 1)]) (rest := []) hx hb hC (hml.trans hl.1.symm) hI (c_X6_joined l G (vX5_0 G) h20) yyX6_joined q_ml_X6_235 ⟨Nat.le_of_ble_eq_true rfl, Nat.le_of_ble_eq_true rfl⟩ rfl rfl (Nat.le_of_ble_eq_true rfl) ⟨Nat.le_refl _, Nat.le_refl _⟩ dX6_digest_152 (fun H locs hI => ?_)
    refine lv_lstore_n (lv' := [(1, .long r21), (0, .ref (za G 0)), (3, .int v16)]) hx hb dX6_digest_155 rfl hl (by decide) rfl (fun ls hl => ?_)
    refine lv_lload_n hx hb dX6_digest_156 rfl (lv_at hl 0 rfl) ?_
    refine lv_aload_n hx hb dX6_digest_157 rfl (lv_at hl 1 rfl) ?_
    refine gX6_0 hx hb hC hI q_fl_X6_12 dX6_digest_158 ?_
    refine gX2_0 hx hb hC hI q_fl_X6_239 dX6_digest_161 ?_
    refine lv_aload_n hx hb dX6_digest_164 rfl (lv_at hl 1 rfl) ?_
    refine gX6_0 hx hb hC hI q_fl_X6_12 dX6_digest_165 ?_
    refine gX2_1 hx hb hC hI q_fl_X6_71 dX6_digest_168 ?_
    obtain ⟨r23, h22, h⟩ := zb_e h
    refine z_cSl (As := [.long r21, .ref (za G 2), .int (σ 1 1)]) (rest := []) hx hb hC (hml.trans hl.1.symm) hI (c_X6_joined l G (vX2_0 G) h22) yyX6_joined q_ml_X6_235 ⟨Nat.le_of_ble_eq_true rfl, Nat.le_of_ble_eq_true rfl⟩ rfl rfl (Nat.le_of_ble_eq_true rfl) ⟨Nat.le_refl _, Nat.le_refl _⟩ dX6_digest_171 (fun H locs hI => ?_)
    refine lv_lstore_n (lv' := [(1, .long r23), (0, .ref (za G 0)), (3, .int v16)]) hx hb dX6_digest_174 rfl hl (by decide) rfl (fun ls hl => ?_)
    refine lv_iconst (v := 0) hx hb dX6_digest_175 lc_0 ?_
    refine lv_istore_n (lv' := [(3, .int 0), (1, .long r23), (0, .ref (za G 0))]) hx hb dX6_digest_176 rfl hl (by decide) rfl (fun ls hl => ?_)
    obtain ⟨w28, v29, h30, h⟩ := zb2_e h
    refine w_177 100 r23 0 w28 v29 h30 _ _ _ hI (lv_sub hl [2, 1, 0] rfl) (fun H locs ls hI hl => ?_)
    refine lv_lload_n hx hb dX6_digest_202 rfl (lv_at hl 1 rfl) ?_
    exact hret ⟨(Option.some.inj h), rfl⟩ hI dX6_digest_203
  · have h := zi_f hc h
    refine lv_iconst (v := 0) hx hb dX6_digest_92 lc_0 ?_
    refine lv_istore_n (lv' := [(3, .int 0), (0, .ref (za G 0)), (1, .long w15)]) hx hb dX6_digest_93 rfl hl (by decide) rfl (fun ls hl => ?_)
    obtain ⟨w35, v36, h37, h⟩ := zb2_e h
    refine w_94 100 w15 0 w35 v36 h37 _ _ _ hI (lv_sub hl [1, 2, 0] rfl) (fun H locs ls hI hl => ?_)
    refine lv_lload_n hx hb dX6_digest_118 rfl (lv_at hl 1 rfl) ?_
    refine lv_aload_n hx hb dX6_digest_119 rfl (lv_at hl 0 rfl) ?_
    refine gX6_3 hx hb hC hI q_fl_X6_37 dX6_digest_120 ?_
    refine gX4_2 hx hb hC hI q_fl_X6_167 dX6_digest_123 ?_
    refine lv_aload_n hx hb dX6_digest_126 rfl (lv_at hl 0 rfl) ?_
    refine gX6_3 hx hb hC hI q_fl_X6_37 dX6_digest_127 ?_
    refine gX4_3 hx hb hC hI q_fl_X6_166 dX6_digest_130 ?_
    obtain ⟨r39, h38, h⟩ := zb_e h
    refine z_cSl (As := [.long w35, .ref (za G 14), .int (σ 13 3)]) (rest := []) hx hb hC (hml.trans hl.1.symm) hI (c_X6_joined l G (vX4_2 G) h38) yyX6_joined q_ml_X6_235 ⟨Nat.le_of_ble_eq_true rfl, Nat.le_of_ble_eq_true rfl⟩ rfl rfl (Nat.le_of_ble_eq_true rfl) ⟨Nat.le_refl _, Nat.le_refl _⟩ dX6_digest_133 (fun H locs hI => ?_)
    refine lv_lstore_n (lv' := [(1, .long r39), (0, .ref (za G 0)), (3, .int v36)]) hx hb dX6_digest_136 rfl hl (by decide) rfl (fun ls hl => ?_)
    refine lv_lload_n hx hb dX6_digest_137 rfl (lv_at hl 0 rfl) ?_
    refine lv_aload_n hx hb dX6_digest_138 rfl (lv_at hl 1 rfl) ?_
    refine gX6_4 hx hb hC hI q_fl_X6_44 dX6_digest_139 ?_
    refine gX5_0 hx hb hC hI q_fl_X6_163 dX6_digest_142 ?_
    refine lv_aload_n hx hb dX6_digest_145 rfl (lv_at hl 1 rfl) ?_
    refine gX6_4 hx hb hC hI q_fl_X6_44 dX6_digest_146 ?_
    refine gX5_1 hx hb hC hI q_fl_X6_95 dX6_digest_149 ?_
    obtain ⟨r41, h40, h⟩ := zb_e h
    refine z_cSl (As := [.long r39, .ref (za G 17), .int (σ 16 1)]) (rest := []) hx hb hC (hml.trans hl.1.symm) hI (c_X6_joined l G (vX5_0 G) h40) yyX6_joined q_ml_X6_235 ⟨Nat.le_of_ble_eq_true rfl, Nat.le_of_ble_eq_true rfl⟩ rfl rfl (Nat.le_of_ble_eq_true rfl) ⟨Nat.le_refl _, Nat.le_refl _⟩ dX6_digest_152 (fun H locs hI => ?_)
    refine lv_lstore_n (lv' := [(1, .long r41), (0, .ref (za G 0)), (3, .int v36)]) hx hb dX6_digest_155 rfl hl (by decide) rfl (fun ls hl => ?_)
    refine lv_lload_n hx hb dX6_digest_156 rfl (lv_at hl 0 rfl) ?_
    refine lv_aload_n hx hb dX6_digest_157 rfl (lv_at hl 1 rfl) ?_
    refine gX6_0 hx hb hC hI q_fl_X6_12 dX6_digest_158 ?_
    refine gX2_0 hx hb hC hI q_fl_X6_239 dX6_digest_161 ?_
    refine lv_aload_n hx hb dX6_digest_164 rfl (lv_at hl 1 rfl) ?_
    refine gX6_0 hx hb hC hI q_fl_X6_12 dX6_digest_165 ?_
    refine gX2_1 hx hb hC hI q_fl_X6_71 dX6_digest_168 ?_
    obtain ⟨r43, h42, h⟩ := zb_e h
    refine z_cSl (As := [.long r41, .ref (za G 2), .int (σ 1 1)]) (rest := []) hx hb hC (hml.trans hl.1.symm) hI (c_X6_joined l G (vX2_0 G) h42) yyX6_joined q_ml_X6_235 ⟨Nat.le_of_ble_eq_true rfl, Nat.le_of_ble_eq_true rfl⟩ rfl rfl (Nat.le_of_ble_eq_true rfl) ⟨Nat.le_refl _, Nat.le_refl _⟩ dX6_digest_171 (fun H locs hI => ?_)
    refine lv_lstore_n (lv' := [(1, .long r43), (0, .ref (za G 0)), (3, .int v36)]) hx hb dX6_digest_174 rfl hl (by decide) rfl (fun ls hl => ?_)
    refine lv_iconst (v := 0) hx hb dX6_digest_175 lc_0 ?_
    refine lv_istore_n (lv' := [(3, .int 0), (1, .long r43), (0, .ref (za G 0))]) hx hb dX6_digest_176 rfl hl (by decide) rfl (fun ls hl => ?_)
    obtain ⟨w44, v45, h46, h⟩ := zb2_e h
    refine w_177 100 r43 0 w44 v45 h46 _ _ _ hI (lv_sub hl [2, 1, 0] rfl) (fun H locs ls hI hl => ?_)
    refine lv_lload_n hx hb dX6_digest_202 rfl (lv_at hl 1 rfl) ?_
    exact hret ⟨(Option.some.inj h), rfl⟩ hI dX6_digest_203
