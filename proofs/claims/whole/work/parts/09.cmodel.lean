set_option maxRecDepth 100000 in
set_option maxHeartbeats 4000000 in
theorem c_X7_within (l : Launch) (G : zG)  {σ : SF} {r : Int32} {x0 : Int32} {x1 : Int32} {x2 : Int32} (h : F_X7_within   x0 x1 x2 = some r) : zMi l WM G yX7_within cX7_within 3 .boolean 1 [.int x0, .int x1, .int x2] σ r σ := by
  refine zMi_of (by decide) (Nat.le_of_ble_eq_true rfl) (fun p e s m args below meth c ls Q hx hb hr hlk hml hC hI hl hret => ?_)
  have hl : lv_has ls 3 [(0, .int x0), (1, .int x1), (2, .int x2)] := hl
  have hC : zC WM G RX7 args s m := hC
  unfold F_X7_within at h
  refine lv_iload_n hx hb dX7_within_0 rfl (lv_at hl 0 rfl) ?_
  refine lv_iload_n hx hb dX7_within_1 rfl (lv_at hl 1 rfl) ?_
  refine lv_icmp_lt (tgt := 14) hx hb dX7_within_2 (by decide) (fun hc => ?_) (fun hc => ?_)
  · have h := zi_t hc h
    refine lv_iconst (v := 0) hx hb dX7_within_14 lc_0 ?_
    exact hret ⟨(Option.some.inj h), rfl⟩ hI rfl dX7_within_15
  · have h := zi_f hc h
    refine lv_iload_n hx hb dX7_within_5 rfl (lv_at hl 0 rfl) ?_
    refine lv_iload_n hx hb dX7_within_6 rfl (lv_at hl 2 rfl) ?_
    refine lv_icmp_gt (tgt := 14) hx hb dX7_within_7 (by decide) (fun hc => ?_) (fun hc => ?_)
    · have h := zi_t hc h
      refine lv_iconst (v := 0) hx hb dX7_within_14 lc_0 ?_
      exact hret ⟨(Option.some.inj h), rfl⟩ hI rfl dX7_within_15
    · have h := zi_f hc h
      refine lv_iconst (v := 1) hx hb dX7_within_10 lc_1 ?_
      refine lv_goto (tgt := 15) hx hb dX7_within_11 (by decide) ?_
      exact hret ⟨(Option.some.inj h), rfl⟩ hI rfl dX7_within_15
set_option maxRecDepth 100000 in
set_option maxHeartbeats 4000000 in
theorem c_X7_isIn (l : Launch) (G : zG)  {σ : SF} {r : Int32} {x0 : Int32} {x1 : Int32} (h : F_X7_isIn   x0 x1 = some r) : zMi l WM G yX7_isIn cX7_isIn 2 .boolean 1 [.int x0, .int x1] σ r σ := by
  refine zMi_of (by decide) (Nat.le_of_ble_eq_true rfl) (fun p e s m args below meth c ls Q hx hb hr hlk hml hC hI hl hret => ?_)
  have hl : lv_has ls 2 [(0, .int x0), (1, .int x1)] := hl
  have hC : zC WM G RX7 args s m := hC
  unfold F_X7_isIn at h
  refine lv_iload_n hx hb dX7_isIn_0 rfl (lv_at hl 0 rfl) ?_
  refine lv_iload_n hx hb dX7_isIn_1 rfl (lv_at hl 1 rfl) ?_
  refine lv_ishr hx hb dX7_isIn_2 ?_
  refine lv_iconst (v := 1) hx hb dX7_isIn_3 lc_1 ?_
  refine lv_iand hx hb dX7_isIn_4 ?_
  refine lv_iconst (v := 1) hx hb dX7_isIn_5 lc_1 ?_
  refine lv_icmp_ne (tgt := 13) hx hb dX7_isIn_6 (by decide) (fun hc => ?_) (fun hc => ?_)
  · have h := zi_f hc h
    refine lv_iconst (v := 0) hx hb dX7_isIn_13 lc_0 ?_
    exact hret ⟨(Option.some.inj h), rfl⟩ hI rfl dX7_isIn_14
  · have h := zi_t hc h
    refine lv_iconst (v := 1) hx hb dX7_isIn_9 lc_1 ?_
    refine lv_goto (tgt := 14) hx hb dX7_isIn_10 (by decide) ?_
    exact hret ⟨(Option.some.inj h), rfl⟩ hI rfl dX7_isIn_14
set_option maxRecDepth 100000 in
set_option maxHeartbeats 4000000 in
theorem c_X7_size (l : Launch) (G : zG)  {σ : SF} {r : Int32} {x0 : Int32} (h : F_X7_size   x0 = some r) : zMi l WM G yX7_size cX7_size 3 .int 1 [.int x0] σ r σ := by
  refine zMi_of (by decide) (Nat.le_of_ble_eq_true rfl) (fun p e s m args below meth c ls Q hx hb hr hlk hml hC hI hl hret => ?_)
  have hl : lv_has ls 3 [(0, .int x0)] := hl
  have hC : zC WM G RX7 args s m := hC
  have w_4 : ∀ (n : Nat) (y0 : Int32) (y1 : Int32) (y2 : Int32) (y1o : Int32) (y2o : Int32), L_X7_size_4 y0 n y1 y2 = some (y1o, y2o) → ∀ (H : Heap) (locs : List Loc) (ls : Array Slot), zI WM G s σ H locs → lv_has ls 3 [(0, .int y0), (1, .int y1), (2, .int y2)] → (∀ (H : Heap) (locs : List Loc) (ls : Array Slot), zI WM G s σ H locs → lv_has ls 3 [(0, .int y0), (1, .int y1o), (2, .int y2o)] → W p l e (zR 1) s m args below meth c H locs 0 0 Q (F0 m 24 ls [])) → W p l e (zR 1) s m args below meth c H locs 0 0 Q (F0 m 4 ls []) := by
    intro n
    induction n with
    | zero => intro y0 y1 y2 y1o y2o h; cases h
    | succ n ih =>
      intro y0 y1 y2 y1o y2o h H locs ls hI hl kE
      unfold L_X7_size_4 at h
      refine lv_iload_n hx hb dX7_size_4 rfl (lv_at hl 2 rfl) ?_
      refine lv_bipush (v := 16) hx hb dX7_size_5 lb_16 ?_
      refine lv_icmp_ge (tgt := 24) hx hb dX7_size_7 (by decide) (fun hc => ?_) (fun hc => ?_)
      · have h := zi_t hc h
        cases h
        exact kE _ _ _ hI (lv_sub hl [0, 1, 2] rfl)
      · have h := zi_f hc h
        refine lv_iload_n hx hb dX7_size_10 rfl (lv_at hl 1 rfl) ?_
        refine lv_iload_n hx hb dX7_size_11 rfl (lv_at hl 0 rfl) ?_
        refine lv_iload_n hx hb dX7_size_12 rfl (lv_at hl 2 rfl) ?_
        refine lv_ishr hx hb dX7_size_13 ?_
        refine lv_iconst (v := 1) hx hb dX7_size_14 lc_1 ?_
        refine lv_iand hx hb dX7_size_15 ?_
        refine lv_iadd hx hb dX7_size_16 ?_
        refine lv_topi (fun v1 e_v1 => ?_)
        have h := zl_e h e_v1
        refine lv_istore_n (lv' := [(1, .int v1), (0, .int y0), (2, .int y2)]) hx hb dX7_size_17 rfl hl (by decide) rfl (fun ls hl => ?_)
        obtain ⟨v2, e_v2⟩ : ∃ y : Int32, y = y2 + 1 := ⟨_, rfl⟩
        have h := zl_e h e_v2
        refine lv_iinc (v := v2) (lv' := [(2, .int v2), (1, .int v1), (0, .int y0)]) hx hb dX7_size_18 hl (k := 2) rfl (by rw [lc_1]; exact e_v2.symm) (by decide) rfl (fun ls hl => ?_)
        refine lv_goto (tgt := 4) hx hb dX7_size_21 (by decide) ?_
        exact ih y0 v1 v2 y1o y2o h _ _ _ hI (lv_sub hl [2, 1, 0] rfl) kE
  unfold F_X7_size at h
  refine lv_iconst (v := 0) hx hb dX7_size_0 lc_0 ?_
  refine lv_istore_n (lv' := [(1, .int 0), (0, .int x0)]) hx hb dX7_size_1 rfl hl (by decide) rfl (fun ls hl => ?_)
  refine lv_iconst (v := 0) hx hb dX7_size_2 lc_0 ?_
  refine lv_istore_n (lv' := [(2, .int 0), (1, .int 0), (0, .int x0)]) hx hb dX7_size_3 rfl hl (by decide) rfl (fun ls hl => ?_)
  obtain ⟨v3, v4, h5, h⟩ := zb2_e h
  refine w_4 100 x0 0 0 v3 v4 h5 _ _ _ hI (lv_sub hl [2, 1, 0] rfl) (fun H locs ls hI hl => ?_)
  refine lv_iload_n hx hb dX7_size_24 rfl (lv_at hl 1 rfl) ?_
  exact hret ⟨(Option.some.inj h), rfl⟩ hI rfl dX7_size_25
set_option maxRecDepth 100000 in
set_option maxHeartbeats 4000000 in
theorem c_X7_letter (l : Launch) (G : zG)  {σ σ' : SF} {r : Int32} {x1 : Int32} (h : F_X7_letter σ  x1 = some (r, σ')) : zMi l WM G yX7_letter cX7_letter 2 .int 2 [.ref (za G 0), .int x1] σ r σ' := by
  refine zMi_of (by decide) (Nat.le_of_ble_eq_true rfl) (fun p e s m args below meth c ls Q hx hb hr hlk hml hC hI hl hret => ?_)
  have hl : lv_has ls 2 [(0, .ref (za G 0)), (1, .int x1)] := hl
  have hC : zC WM G RX7 args s m := hC
  unfold F_X7_letter at h
  refine lv_iload_n hx hb dX7_letter_0 rfl (lv_at hl 1 rfl) ?_
  refine lv_bipush (v := 32) hx hb dX7_letter_1 lb_32 ?_
  refine lv_bipush (v := 126) hx hb dX7_letter_3 lb_126 ?_
  obtain ⟨r2, h1, h⟩ := zb_e h
  refine z_cSi (As := [.int x1, .int 32, .int 126]) (rest := []) hx hb hC (hml.trans hl.1.symm) hI (c_X7_within l G  (σ := σ) h1) yyX7_within q_ml_X7_89 ⟨Nat.le_of_ble_eq_true rfl, Nat.le_of_ble_eq_true rfl⟩ rfl rfl (Nat.le_of_ble_eq_true rfl) ⟨Nat.le_refl _, Nat.le_refl _⟩ dX7_letter_5 (fun H locs hI => ?_)
  refine lv_if_ne (tgt := 14) hx hb dX7_letter_8 (by decide) (fun hc => ?_) (fun hc => ?_)
  · have h := zi_f hc h
    refine lv_aload_n hx hb dX7_letter_14 rfl (lv_at hl 0 rfl) ?_
    refine gX7_11 hx hb hC hI q_fl_X7_93 dX7_letter_15 ?_
    refine lv_bipush (v := 34) hx hb dX7_letter_18 lb_34 ?_
    refine lv_icmp_ne (tgt := 26) hx hb dX7_letter_20 (by decide) (fun hc => ?_) (fun hc => ?_)
    · have h := zi_f hc h
      refine lv_aload_n hx hb dX7_letter_26 rfl (lv_at hl 0 rfl) ?_
      refine gX7_12 hx hb hC hI q_fl_X7_28 dX7_letter_27 ?_
      refine lv_aload_n hx hb dX7_letter_30 rfl (lv_at hl 0 rfl) ?_
      refine gX7_11 hx hb hC hI q_fl_X7_93 dX7_letter_31 ?_
      refine lv_iload_n hx hb dX7_letter_34 rfl (lv_at hl 1 rfl) ?_
      refine lv_i2b hx hb dX7_letter_35 rfl ?_
      obtain ⟨hg, h⟩ := zg_e h
      refine z_bast hx hb hC hI (vX7_12 G) hg dX7_letter_36 (fun σ3 H locs e_σ3 hI => ?_)
      have h := zl_e h e_σ3
      refine lv_aload_n hx hb dX7_letter_37 rfl (lv_at hl 0 rfl) ?_
      refine lv_dup hx hb dX7_letter_38 rfl ?_
      refine gX7_11 hx hb hC hI q_fl_X7_93 dX7_letter_39 ?_
      refine lv_iconst (v := 1) hx hb dX7_letter_42 lc_1 ?_
      refine lv_iadd hx hb dX7_letter_43 ?_
      refine pX7_11 hx hb hC hI q_fl_X7_93 dX7_letter_44 (fun σ4 H locs e_σ4 hI => ?_)
      have h := zl_e h e_σ4
      refine lv_aload_n hx hb dX7_letter_47 rfl (lv_at hl 0 rfl) ?_
      refine gX7_11 hx hb hC hI q_fl_X7_93 dX7_letter_48 ?_
      exact hret ⟨congrArg Prod.fst (Option.some.inj h), congrArg Prod.snd (Option.some.inj h)⟩ hI rfl dX7_letter_51
    · have h := zi_t hc h
      refine lv_bipush (v := (-104)) hx hb dX7_letter_23 lb_m104 ?_
      exact hret ⟨congrArg Prod.fst (Option.some.inj h), congrArg Prod.snd (Option.some.inj h)⟩ hI rfl dX7_letter_25
  · have h := zi_t hc h
    refine lv_bipush (v := (-102)) hx hb dX7_letter_11 lb_m102 ?_
    exact hret ⟨congrArg Prod.fst (Option.some.inj h), congrArg Prod.snd (Option.some.inj h)⟩ hI rfl dX7_letter_13
set_option maxRecDepth 100000 in
set_option maxHeartbeats 4000000 in
theorem c_X7_blank (l : Launch) (G : zG)  {σ σ' : SF} {r : Int32} (h : F_X7_blank σ   = some (r, σ')) : zMi l WM G yX7_blank cX7_blank 2 .int 1 [.ref (za G 0)] σ r σ' := by
  refine zMi_of (by decide) (Nat.le_of_ble_eq_true rfl) (fun p e s m args below meth c ls Q hx hb hr hlk hml hC hI hl hret => ?_)
  have hl : lv_has ls 2 [(0, .ref (za G 0))] := hl
  have hC : zC WM G RX7 args s m := hC
  unfold F_X7_blank at h
  refine lv_aload_n hx hb dX7_blank_0 rfl (lv_at hl 0 rfl) ?_
  refine gX7_11 hx hb hC hI q_fl_X7_93 dX7_blank_1 ?_
  refine lv_topi (fun v1 e_v1 => ?_)
  have h := zl_e h e_v1
  refine lv_istore_n (lv' := [(1, .int v1), (0, .ref (za G 0))]) hx hb dX7_blank_4 rfl hl (by decide) rfl (fun ls hl => ?_)
  refine lv_aload_n hx hb dX7_blank_5 rfl (lv_at hl 1 rfl) ?_
  refine lv_iconst (v := 0) hx hb dX7_blank_6 lc_0 ?_
  refine pX7_11 hx hb hC hI q_fl_X7_93 dX7_blank_7 (fun σ2 H locs e_σ2 hI => ?_)
  have h := zl_e h e_σ2
  refine lv_iload_n hx hb dX7_blank_10 rfl (lv_at hl 0 rfl) ?_
  exact hret ⟨congrArg Prod.fst (Option.some.inj h), congrArg Prod.snd (Option.some.inj h)⟩ hI rfl dX7_blank_11
set_option maxRecDepth 100000 in
set_option maxHeartbeats 4000000 in
theorem c_X7_kindBy (l : Launch) (G : zG)  {σ : SF} {r : Int32} {x0 : Int32} (h : F_X7_kindBy   x0 = some r) : zMi l WM G yX7_kindBy cX7_kindBy 1 .int 1 [.int x0] σ r σ := by
  refine zMi_of (by decide) (Nat.le_of_ble_eq_true rfl) (fun p e s m args below meth c ls Q hx hb hr hlk hml hC hI hl hret => ?_)
  have hl : lv_has ls 1 [(0, .int x0)] := hl
  have hC : zC WM G RX7 args s m := hC
  unfold F_X7_kindBy at h
  refine lv_iload_n hx hb dX7_kindBy_0 rfl (lv_at hl 0 rfl) ?_
  by_cases n_1_101 : x0 = 101
  · have h := zi_t n_1_101 h
    refine lv_lookup (tgt := 56) (off := 55) hx hb dX7_kindBy_1 (by decide) (by rw [n_1_101]; rfl) (by decide) ?_
    refine lv_iconst (v := 2) hx hb dX7_kindBy_56 lc_2 ?_
    exact hret ⟨(Option.some.inj h), rfl⟩ hI rfl dX7_kindBy_57
  have h := zi_f n_1_101 h
  by_cases n_1_102 : x0 = 102
  · have h := zi_t n_1_102 h
    refine lv_lookup (tgt := 54) (off := 53) hx hb dX7_kindBy_1 (by decide) (by rw [n_1_102]; rfl) (by decide) ?_
    refine lv_iconst (v := 1) hx hb dX7_kindBy_54 lc_1 ?_
    exact hret ⟨(Option.some.inj h), rfl⟩ hI rfl dX7_kindBy_55
  have h := zi_f n_1_102 h
  by_cases n_1_110 : x0 = 110
  · have h := zi_t n_1_110 h
    refine lv_lookup (tgt := 52) (off := 51) hx hb dX7_kindBy_1 (by decide) (by rw [n_1_110]; rfl) (by decide) ?_
    refine lv_iconst (v := 0) hx hb dX7_kindBy_52 lc_0 ?_
    exact hret ⟨(Option.some.inj h), rfl⟩ hI rfl dX7_kindBy_53
  have h := zi_f n_1_110 h
  by_cases n_1_116 : x0 = 116
  · have h := zi_t n_1_116 h
    refine lv_lookup (tgt := 60) (off := 59) hx hb dX7_kindBy_1 (by decide) (by rw [n_1_116]; rfl) (by decide) ?_
    refine lv_iconst (v := 4) hx hb dX7_kindBy_60 lc_4 ?_
    exact hret ⟨(Option.some.inj h), rfl⟩ hI rfl dX7_kindBy_61
  have h := zi_f n_1_116 h
  by_cases n_1_120 : x0 = 120
  · have h := zi_t n_1_120 h
    refine lv_lookup (tgt := 58) (off := 57) hx hb dX7_kindBy_1 (by decide) (by rw [n_1_120]; rfl) (by decide) ?_
    refine lv_iconst (v := 3) hx hb dX7_kindBy_58 lc_3 ?_
    exact hret ⟨(Option.some.inj h), rfl⟩ hI rfl dX7_kindBy_59
  have h := zi_f n_1_120 h
  refine lv_lookup (tgt := 62) (off := 61) hx hb dX7_kindBy_1 (by decide) (by simp only [Op.lookupswitch.offset, zko n_1_101 (show (101 : Int32).toInt = 101 by decide), zko n_1_102 (show (102 : Int32).toInt = 102 by decide), zko n_1_110 (show (110 : Int32).toInt = 110 by decide), zko n_1_116 (show (116 : Int32).toInt = 116 by decide), zko n_1_120 (show (120 : Int32).toInt = 120 by decide), if_false]) (by decide) ?_
  refine lv_iconst (v := (-1)) hx hb dX7_kindBy_62 lc_m1 ?_
  exact hret ⟨(Option.some.inj h), rfl⟩ hI rfl dX7_kindBy_63
set_option maxRecDepth 100000 in
set_option maxHeartbeats 4000000 in
theorem c_X7_ends (l : Launch) (G : zG)  {σ : SF} {r : Int32} {x0 : Int32} (h : F_X7_ends   x0 = some r) : zMi l WM G yX7_ends cX7_ends 1 .int 1 [.int x0] σ r σ := by
  refine zMi_of (by decide) (Nat.le_of_ble_eq_true rfl) (fun p e s m args below meth c ls Q hx hb hr hlk hml hC hI hl hret => ?_)
  have hl : lv_has ls 1 [(0, .int x0)] := hl
  have hC : zC WM G RX7 args s m := hC
  unfold F_X7_ends at h
  refine lv_iload_n hx hb dX7_ends_0 rfl (lv_at hl 0 rfl) ?_
  refine lv_iconst (v := 2) hx hb dX7_ends_1 lc_2 ?_
  refine lv_icmp_ne (tgt := 9) hx hb dX7_ends_2 (by decide) (fun hc => ?_) (fun hc => ?_)
  · have h := zi_f hc h
    refine lv_iload_n hx hb dX7_ends_9 rfl (lv_at hl 0 rfl) ?_
    refine lv_if_ne (tgt := 17) hx hb dX7_ends_10 (by decide) (fun hc => ?_) (fun hc => ?_)
    · have h := zi_f hc h
      refine lv_iconst (v := 2) hx hb dX7_ends_17 lc_2 ?_
      exact hret ⟨(Option.some.inj h), rfl⟩ hI rfl dX7_ends_18
    · have h := zi_t hc h
      refine lv_iconst (v := 1) hx hb dX7_ends_13 lc_1 ?_
      refine lv_goto (tgt := 18) hx hb dX7_ends_14 (by decide) ?_
      exact hret ⟨(Option.some.inj h), rfl⟩ hI rfl dX7_ends_18
  · have h := zi_t hc h
    refine lv_iconst (v := 0) hx hb dX7_ends_5 lc_0 ?_
    refine lv_goto (tgt := 18) hx hb dX7_ends_6 (by decide) ?_
    exact hret ⟨(Option.some.inj h), rfl⟩ hI rfl dX7_ends_18
set_option maxRecDepth 100000 in
set_option maxHeartbeats 4000000 in
theorem c_X7_at (l : Launch) (G : zG)  {σ : SF} {r : Int32} {x1 : Int32} (h : F_X7_at σ  x1 = some r) : zMi l WM G yX7_at cX7_at 2 .int 1 [.ref (za G 0), .int x1] σ r σ := by
  refine zMi_of (by decide) (Nat.le_of_ble_eq_true rfl) (fun p e s m args below meth c ls Q hx hb hr hlk hml hC hI hl hret => ?_)
  have hl : lv_has ls 2 [(0, .ref (za G 0)), (1, .int x1)] := hl
  have hC : zC WM G RX7 args s m := hC
  unfold F_X7_at at h
  refine lv_iload_n hx hb dX7_at_0 rfl (lv_at hl 1 rfl) ?_
  refine lv_aload_n hx hb dX7_at_1 rfl (lv_at hl 0 rfl) ?_
  refine gX7_11 hx hb hC hI q_fl_X7_93 dX7_at_2 ?_
  refine lv_icmp_ge (tgt := 17) hx hb dX7_at_5 (by decide) (fun hc => ?_) (fun hc => ?_)
  · have h := zi_t hc h
    refine lv_iconst (v := 0) hx hb dX7_at_17 lc_0 ?_
    exact hret ⟨(Option.some.inj h), rfl⟩ hI rfl dX7_at_18
  · have h := zi_f hc h
    refine lv_aload_n hx hb dX7_at_8 rfl (lv_at hl 0 rfl) ?_
    refine gX7_12 hx hb hC hI q_fl_X7_28 dX7_at_9 ?_
    refine lv_iload_n hx hb dX7_at_12 rfl (lv_at hl 1 rfl) ?_
    obtain ⟨hg, h⟩ := zg_e h
    refine z_bald hx hb hC hI (vX7_12 G) hg dX7_at_13 ?_
    refine lv_goto (tgt := 18) hx hb dX7_at_14 (by decide) ?_
    exact hret ⟨(Option.some.inj h), rfl⟩ hI rfl dX7_at_18
set_option maxRecDepth 100000 in
set_option maxHeartbeats 4000000 in
theorem c_X7_read (l : Launch) (G : zG)  {σ σ' : SF} {r : Int32} (h : F_X7_read σ   = some (r, σ')) : zMi l WM G yX7_read cX7_read 5 .int 2 [.ref (za G 0)] σ r σ' := by
  refine zMi_of (by decide) (Nat.le_of_ble_eq_true rfl) (fun p e s m args below meth c ls Q hx hb hr hlk hml hC hI hl hret => ?_)
  have hl : lv_has ls 5 [(0, .ref (za G 0))] := hl
  have hC : zC WM G RX7 args s m := hC
  have w_74 : ∀ (n : Nat) (y2 : Int32) (y1 : Int32) (y3 : Int32) (σ : SF) (u : (Int32 × SF) ⊕ (Int32 × Int32 × SF)), L_X7_read_74 y2 n y1 y3 σ = some u → ∀ (H : Heap) (locs : List Loc) (ls : Array Slot), zI WM G s σ H locs → lv_has ls 5 [(0, .ref (za G 0)), (1, .int y1), (2, .int y2), (3, .int y3)] → (∀ ρ, u = .inl ρ → ρ = (r, σ')) → (∀ (y1o : Int32) (y3o : Int32) (σo : SF), u = .inr (y1o, y3o, σo) → ∀ (H : Heap) (locs : List Loc) (ls : Array Slot), zI WM G s σo H locs → lv_has ls 5 [(0, .ref (za G 0)), (1, .int y1o), (2, .int y2), (3, .int y3o)] → W p l e (zR 2) s m args below meth c H locs 0 0 Q (F0 m 151 ls [])) → W p l e (zR 2) s m args below meth c H locs 0 0 Q (F0 m 74 ls []) := by
    intro n
    induction n with
    | zero => intro y2 y1 y3 σ u h; cases h
    | succ n ih =>
      intro y2 y1 y3 σ u h H locs ls hI hl kR kE
      unfold L_X7_read_74 at h
      refine lv_iload_n hx hb dX7_read_74 rfl (lv_at hl 3 rfl) ?_
      refine lv_iload_n hx hb dX7_read_75 rfl (lv_at hl 2 rfl) ?_
      obtain ⟨r13, h12, h⟩ := zb_e h
      refine z_cSi (As := [.int y2]) (rest := [.int y3]) hx hb hC (hml.trans hl.1.symm) hI (c_X7_ends l G  (σ := σ) h12) yyX7_ends q_ml_X7_114 ⟨Nat.le_of_ble_eq_true rfl, Nat.le_of_ble_eq_true rfl⟩ rfl rfl (Nat.le_of_ble_eq_true rfl) ⟨Nat.le_refl _, Nat.le_refl _⟩ dX7_read_76 (fun H locs hI => ?_)
      refine lv_icmp_ge (tgt := 151) hx hb dX7_read_79 (by decide) (fun hc => ?_) (fun hc => ?_)
      · have h := zi_t hc h
        exact kE _ _ _ (Option.some.inj h).symm _ _ _ hI (lv_sub hl [0, 1, 2, 3] rfl)
      · have h := zi_f hc h
        refine lv_aload_n hx hb dX7_read_82 rfl (lv_at hl 0 rfl) ?_
        refine lv_iload_n hx hb dX7_read_83 rfl (lv_at hl 1 rfl) ?_
        obtain ⟨r15, h14, h⟩ := zb_e h
        refine z_cVi (As := [.int y1]) (rest := []) hx hb hC (hml.trans hl.1.symm) hI (c_X7_at l G  h14) yyX7_at q_ml_X7_107 (oX7 G) rfl ⟨Nat.le_of_ble_eq_true rfl, Nat.le_of_ble_eq_true rfl⟩ rfl rfl (Nat.le_of_ble_eq_true rfl) ⟨Nat.le_refl _, Nat.le_refl _⟩ dX7_read_84 (fun H locs hI => ?_)
        refine lv_bipush (v := 48) hx hb dX7_read_87 lb_48 ?_
        refine lv_isub hx hb dX7_read_89 ?_
        refine lv_topi (fun v16 e_v16 => ?_)
        have h := zl_e h e_v16
        refine lv_istore (lv' := [(4, .int v16), (0, .ref (za G 0)), (1, .int y1), (2, .int y2), (3, .int y3)]) hx hb dX7_read_90 hl (by decide) rfl (fun ls hl => ?_)
        refine lv_iload hx hb dX7_read_92 (lv_at hl 0 rfl) ?_
        refine lv_iconst (v := 0) hx hb dX7_read_94 lc_0 ?_
        refine lv_bipush (v := 7) hx hb dX7_read_95 lb_7 ?_
        obtain ⟨r18, h17, h⟩ := zb_e h
        refine z_cSi (As := [.int v16, .int 0, .int 7]) (rest := []) hx hb hC (hml.trans hl.1.symm) hI (c_X7_within l G  (σ := σ) h17) yyX7_within q_ml_X7_89 ⟨Nat.le_of_ble_eq_true rfl, Nat.le_of_ble_eq_true rfl⟩ rfl rfl (Nat.le_of_ble_eq_true rfl) ⟨Nat.le_refl _, Nat.le_refl _⟩ dX7_read_97 (fun H locs hI => ?_)
        refine lv_if_ne (tgt := 105) hx hb dX7_read_100 (by decide) (fun hc => ?_) (fun hc => ?_)
        · have h := zi_f hc h
          refine lv_aload_n hx hb dX7_read_105 rfl (lv_at hl 1 rfl) ?_
          refine gX7_17 hx hb hC hI q_fl_X7_35 dX7_read_106 ?_
          refine lv_iconst (v := 2) hx hb dX7_read_109 lc_2 ?_
          refine lv_aload_n hx hb dX7_read_110 rfl (lv_at hl 1 rfl) ?_
          refine gX7_14 hx hb hC hI q_fl_X7_101 dX7_read_111 ?_
          refine lv_imul hx hb dX7_read_114 ?_
          refine lv_iload_n hx hb dX7_read_115 rfl (lv_at hl 4 rfl) ?_
          refine lv_iadd hx hb dX7_read_116 ?_
          refine lv_iload hx hb dX7_read_117 (lv_at hl 0 rfl) ?_
          obtain ⟨hg, h⟩ := zg_e h
          refine z_iast hx hb hC hI (vX7_17 G) hg dX7_read_119 (fun σ19 H locs e_σ19 hI => ?_)
          have h := zl_e h e_σ19
          refine lv_aload_n hx hb dX7_read_120 rfl (lv_at hl 1 rfl) ?_
          refine lv_iload hx hb dX7_read_121 (lv_at hl 0 rfl) ?_
          refine lv_aload_n hx hb dX7_read_123 rfl (lv_at hl 1 rfl) ?_
          refine gX7_15 hx hb hC hI q_fl_X7_104 dX7_read_124 ?_
          refine lv_icmp_le (tgt := 135) hx hb dX7_read_127 (by decide) (fun hc => ?_) (fun hc => ?_)
          · have h := zi_t hc h
            refine lv_aload_n hx hb dX7_read_135 rfl (lv_at hl 1 rfl) ?_
            refine gX7_15 hx hb hC hI q_fl_X7_104 dX7_read_136 ?_
            refine pX7_15 hx hb hC hI q_fl_X7_104 dX7_read_139 (fun σ20 H locs e_σ20 hI => ?_)
            have h := zl_e h e_σ20
            obtain ⟨v21, e_v21⟩ : ∃ y : Int32, y = y1 + 1 := ⟨_, rfl⟩
            have h := zl_e h e_v21
            refine lv_iinc (v := v21) (lv' := [(1, .int v21), (4, .int v16), (0, .ref (za G 0)), (2, .int y2), (3, .int y3)]) hx hb dX7_read_142 hl (k := 2) rfl (by rw [lc_1]; exact e_v21.symm) (by decide) rfl (fun ls hl => ?_)
            obtain ⟨v22, e_v22⟩ : ∃ y : Int32, y = y3 + 1 := ⟨_, rfl⟩
            have h := zl_e h e_v22
            refine lv_iinc (v := v22) (lv' := [(3, .int v22), (1, .int v21), (4, .int v16), (0, .ref (za G 0)), (2, .int y2)]) hx hb dX7_read_145 hl (k := 4) rfl (by rw [lc_1]; exact e_v22.symm) (by decide) rfl (fun ls hl => ?_)
            refine lv_goto (tgt := 74) hx hb dX7_read_148 (by decide) ?_
            exact ih y2 v21 v22 σ20 u h _ _ _ hI (lv_sub hl [3, 1, 4, 0] rfl) kR kE
          · have h := zi_f hc h
            refine lv_iload hx hb dX7_read_130 (lv_at hl 0 rfl) ?_
            refine lv_goto (tgt := 139) hx hb dX7_read_132 (by decide) ?_
            refine pX7_15 hx hb hC hI q_fl_X7_104 dX7_read_139 (fun σ23 H locs e_σ23 hI => ?_)
            have h := zl_e h e_σ23
            obtain ⟨v24, e_v24⟩ : ∃ y : Int32, y = y1 + 1 := ⟨_, rfl⟩
            have h := zl_e h e_v24
            refine lv_iinc (v := v24) (lv' := [(1, .int v24), (4, .int v16), (0, .ref (za G 0)), (2, .int y2), (3, .int y3)]) hx hb dX7_read_142 hl (k := 2) rfl (by rw [lc_1]; exact e_v24.symm) (by decide) rfl (fun ls hl => ?_)
            obtain ⟨v25, e_v25⟩ : ∃ y : Int32, y = y3 + 1 := ⟨_, rfl⟩
            have h := zl_e h e_v25
            refine lv_iinc (v := v25) (lv' := [(3, .int v25), (1, .int v24), (4, .int v16), (0, .ref (za G 0)), (2, .int y2)]) hx hb dX7_read_145 hl (k := 4) rfl (by rw [lc_1]; exact e_v25.symm) (by decide) rfl (fun ls hl => ?_)
            refine lv_goto (tgt := 74) hx hb dX7_read_148 (by decide) ?_
            exact ih y2 v24 v25 σ23 u h _ _ _ hI (lv_sub hl [3, 1, 4, 0] rfl) kR kE
        · have h := zi_t hc h
          refine lv_iload_n hx hb dX7_read_103 rfl (lv_at hl 2 rfl) ?_
          exact hret ⟨congrArg Prod.fst (kR _ (Option.some.inj h).symm), congrArg Prod.snd (kR _ (Option.some.inj h).symm)⟩ hI rfl dX7_read_104
  have w_17 : ∀ (n : Nat) (y1 : Int32) (σ : SF) (u : (Int32 × SF) ⊕ (Int32 × SF)), L_X7_read_17 n y1 σ = some u → ∀ (H : Heap) (locs : List Loc) (ls : Array Slot), zI WM G s σ H locs → lv_has ls 5 [(0, .ref (za G 0)), (1, .int y1)] → (∀ ρ, u = .inl ρ → ρ = (r, σ')) → (∀ (y1o : Int32) (σo : SF), u = .inr (y1o, σo) → ∀ (H : Heap) (locs : List Loc) (ls : Array Slot), zI WM G s σo H locs → lv_has ls 5 [(0, .ref (za G 0)), (1, .int y1o)] → W p l e (zR 2) s m args below meth c H locs 0 0 Q (F0 m 180 ls [])) → W p l e (zR 2) s m args below meth c H locs 0 0 Q (F0 m 17 ls []) := by
    intro n
    induction n with
    | zero => intro y1 σ u h; cases h
    | succ n ih =>
      intro y1 σ u h H locs ls hI hl kR kE
      unfold L_X7_read_17 at h
      refine lv_aload_n hx hb dX7_read_17 rfl (lv_at hl 0 rfl) ?_
      refine lv_iload_n hx hb dX7_read_18 rfl (lv_at hl 1 rfl) ?_
      obtain ⟨r5, h4, h⟩ := zb_e h
      refine z_cVi (As := [.int y1]) (rest := []) hx hb hC (hml.trans hl.1.symm) hI (c_X7_at l G  h4) yyX7_at q_ml_X7_107 (oX7 G) rfl ⟨Nat.le_of_ble_eq_true rfl, Nat.le_of_ble_eq_true rfl⟩ rfl rfl (Nat.le_of_ble_eq_true rfl) ⟨Nat.le_refl _, Nat.le_refl _⟩ dX7_read_19 (fun H locs hI => ?_)
      obtain ⟨r7, h6, h⟩ := zb_e h
      refine z_cSi (As := [.int r5]) (rest := []) hx hb hC (hml.trans hl.1.symm) hI (c_X7_kindBy l G  (σ := σ) h6) yyX7_kindBy q_ml_X7_111 ⟨Nat.le_of_ble_eq_true rfl, Nat.le_of_ble_eq_true rfl⟩ rfl rfl (Nat.le_of_ble_eq_true rfl) ⟨Nat.le_refl _, Nat.le_refl _⟩ dX7_read_22 (fun H locs hI => ?_)
      refine lv_istore_n (lv' := [(2, .int r7), (0, .ref (za G 0)), (1, .int y1)]) hx hb dX7_read_25 rfl hl (by decide) rfl (fun ls hl => ?_)
      refine lv_iload_n hx hb dX7_read_26 rfl (lv_at hl 0 rfl) ?_
      refine lv_iconst (v := (-1)) hx hb dX7_read_27 lc_m1 ?_
      refine lv_icmp_ne (tgt := 33) hx hb dX7_read_28 (by decide) (fun hc => ?_) (fun hc => ?_)
      · have h := zi_f hc h
        obtain ⟨v8, e_v8⟩ : ∃ y : Int32, y = y1 + 1 := ⟨_, rfl⟩
        have h := zl_e h e_v8
        refine lv_iinc (v := v8) (lv' := [(1, .int v8), (2, .int r7), (0, .ref (za G 0))]) hx hb dX7_read_33 hl (k := 2) rfl (by rw [lc_1]; exact e_v8.symm) (by decide) rfl (fun ls hl => ?_)
        refine lv_aload_n hx hb dX7_read_36 rfl (lv_at hl 2 rfl) ?_
        refine gX7_16 hx hb hC hI q_fl_X7_32 dX7_read_37 ?_
        refine lv_aload_n hx hb dX7_read_40 rfl (lv_at hl 2 rfl) ?_
        refine gX7_14 hx hb hC hI q_fl_X7_101 dX7_read_41 ?_
        refine lv_iload_n hx hb dX7_read_44 rfl (lv_at hl 1 rfl) ?_
        obtain ⟨hg, h⟩ := zg_e h
        refine z_iast hx hb hC hI (vX7_16 G) hg dX7_read_45 (fun σ9 H locs e_σ9 hI => ?_)
        have h := zl_e h e_σ9
        refine lv_aload_n hx hb dX7_read_46 rfl (lv_at hl 2 rfl) ?_
        refine gX7_17 hx hb hC hI q_fl_X7_35 dX7_read_47 ?_
        refine lv_iconst (v := 2) hx hb dX7_read_50 lc_2 ?_
        refine lv_aload_n hx hb dX7_read_51 rfl (lv_at hl 2 rfl) ?_
        refine gX7_14 hx hb hC hI q_fl_X7_101 dX7_read_52 ?_
        refine lv_imul hx hb dX7_read_55 ?_
        refine lv_iconst (v := 0) hx hb dX7_read_56 lc_0 ?_
        obtain ⟨hg, h⟩ := zg_e h
        refine z_iast hx hb hC hI (vX7_17 G) hg dX7_read_57 (fun σ10 H locs e_σ10 hI => ?_)
        have h := zl_e h e_σ10
        refine lv_aload_n hx hb dX7_read_58 rfl (lv_at hl 2 rfl) ?_
        refine gX7_17 hx hb hC hI q_fl_X7_35 dX7_read_59 ?_
        refine lv_iconst (v := 2) hx hb dX7_read_62 lc_2 ?_
        refine lv_aload_n hx hb dX7_read_63 rfl (lv_at hl 2 rfl) ?_
        refine gX7_14 hx hb hC hI q_fl_X7_101 dX7_read_64 ?_
        refine lv_imul hx hb dX7_read_67 ?_
        refine lv_iconst (v := 1) hx hb dX7_read_68 lc_1 ?_
        refine lv_iadd hx hb dX7_read_69 ?_
        refine lv_iconst (v := 0) hx hb dX7_read_70 lc_0 ?_
        obtain ⟨hg, h⟩ := zg_e h
        refine z_iast hx hb hC hI (vX7_17 G) hg dX7_read_71 (fun σ11 H locs e_σ11 hI => ?_)
        have h := zl_e h e_σ11
        refine lv_iconst (v := 0) hx hb dX7_read_72 lc_0 ?_
        refine lv_istore_n (lv' := [(3, .int 0), (1, .int v8), (2, .int r7), (0, .ref (za G 0))]) hx hb dX7_read_73 rfl hl (by decide) rfl (fun ls hl => ?_)
        obtain ⟨u30, h29, hR, hE⟩ := zs_e h
        refine w_74 100 r7 v8 0 σ11 u30 h29 _ _ _ hI (lv_sub hl [3, 1, 2, 0] rfl) (fun ρ eρ => kR ρ (Option.some.inj (hR ρ eρ)).symm) (fun v26 v27 σ28 e_h29 H locs ls hI hl => ?_)
        have h := zb3_s (hE _ e_h29)
        refine lv_aload_n hx hb dX7_read_151 rfl (lv_at hl 0 rfl) ?_
        refine lv_dup hx hb dX7_read_152 rfl ?_
        refine gX7_14 hx hb hC hI q_fl_X7_101 dX7_read_153 ?_
        refine lv_iconst (v := 1) hx hb dX7_read_156 lc_1 ?_
        refine lv_iadd hx hb dX7_read_157 ?_
        refine pX7_14 hx hb hC hI q_fl_X7_101 dX7_read_158 (fun σ32 H locs e_σ32 hI => ?_)
        have h := zl_e h e_σ32
        refine lv_aload_n hx hb dX7_read_161 rfl (lv_at hl 0 rfl) ?_
        refine gX7_14 hx hb hC hI q_fl_X7_101 dX7_read_162 ?_
        refine lv_bipush (v := 8) hx hb dX7_read_165 lb_8 ?_
        refine lv_icmp_eq (tgt := 180) hx hb dX7_read_167 (by decide) (fun hc => ?_) (fun hc => ?_)
        · have h := zi_t hc h
          exact kE _ _ (Option.some.inj h).symm _ _ _ hI (lv_sub hl [0, 1] rfl)
        · have h := zi_f hc h
          refine lv_aload_n hx hb dX7_read_170 rfl (lv_at hl 0 rfl) ?_
          refine lv_iload_n hx hb dX7_read_171 rfl (lv_at hl 1 rfl) ?_
          obtain ⟨r34, h33, h⟩ := zb_e h
          refine z_cVi (As := [.int v26]) (rest := []) hx hb hC (hml.trans hl.1.symm) hI (c_X7_at l G  h33) yyX7_at q_ml_X7_107 (oX7 G) rfl ⟨Nat.le_of_ble_eq_true rfl, Nat.le_of_ble_eq_true rfl⟩ rfl rfl (Nat.le_of_ble_eq_true rfl) ⟨Nat.le_refl _, Nat.le_refl _⟩ dX7_read_172 (fun H locs hI => ?_)
          refine lv_bipush (v := 44) hx hb dX7_read_175 lb_44 ?_
          refine lv_icmp_eq (tgt := 199) hx hb dX7_read_177 (by decide) (fun hc => ?_) (fun hc => ?_)
          · have h := zi_t hc h
            obtain ⟨v35, e_v35⟩ : ∃ y : Int32, y = v26 + 1 := ⟨_, rfl⟩
            have h := zl_e h e_v35
            refine lv_iinc (v := v35) (lv' := [(1, .int v35), (0, .ref (za G 0)), (2, .int r7), (3, .int v27)]) hx hb dX7_read_199 hl (k := 1) rfl (by rw [lc_1]; exact e_v35.symm) (by decide) rfl (fun ls hl => ?_)
            refine lv_goto (tgt := 17) hx hb dX7_read_202 (by decide) ?_
            exact ih v35 σ32 u h _ _ _ hI (lv_sub hl [1, 0] rfl) kR kE
          · have h := zi_f hc h
            exact kE _ _ (Option.some.inj h).symm _ _ _ hI (lv_sub hl [0, 1] rfl)
      · have h := zi_t hc h
        refine lv_iload_n hx hb dX7_read_31 rfl (lv_at hl 2 rfl) ?_
        exact hret ⟨congrArg Prod.fst (kR _ (Option.some.inj h).symm), congrArg Prod.snd (kR _ (Option.some.inj h).symm)⟩ hI rfl dX7_read_32
  unfold F_X7_read at h
  refine lv_aload_n hx hb dX7_read_0 rfl (lv_at hl 0 rfl) ?_
  refine lv_iconst (v := 0) hx hb dX7_read_1 lc_0 ?_
  refine pX7_13 hx hb hC hI rfl rfl q_fl_X7_97 dX7_read_2 (fun σ1 H locs e_σ1 hI => ?_)
  have h := zl_e h e_σ1
  refine lv_aload_n hx hb dX7_read_5 rfl (lv_at hl 0 rfl) ?_
  refine lv_iconst (v := 0) hx hb dX7_read_6 lc_0 ?_
  refine pX7_14 hx hb hC hI q_fl_X7_101 dX7_read_7 (fun σ2 H locs e_σ2 hI => ?_)
  have h := zl_e h e_σ2
  refine lv_aload_n hx hb dX7_read_10 rfl (lv_at hl 0 rfl) ?_
  refine lv_iconst (v := (-1)) hx hb dX7_read_11 lc_m1 ?_
  refine pX7_15 hx hb hC hI q_fl_X7_104 dX7_read_12 (fun σ3 H locs e_σ3 hI => ?_)
  have h := zl_e h e_σ3
  refine lv_iconst (v := 0) hx hb dX7_read_15 lc_0 ?_
  refine lv_istore_n (lv' := [(1, .int 0), (0, .ref (za G 0))]) hx hb dX7_read_16 rfl hl (by decide) rfl (fun ls hl => ?_)
  obtain ⟨u39, h38, hR, hE⟩ := zs_e h
  refine w_17 100 0 σ3 u39 h38 _ _ _ hI (lv_sub hl [1, 0] rfl) (fun ρ eρ => Option.some.inj (hR ρ eρ)) (fun v36 σ37 e_h38 H locs ls hI hl => ?_)
  have h := zb2_s (hE _ e_h38)
  refine lv_aload_n hx hb dX7_read_180 rfl (lv_at hl 0 rfl) ?_
  refine lv_iload_n hx hb dX7_read_181 rfl (lv_at hl 1 rfl) ?_
  refine lv_aload_n hx hb dX7_read_182 rfl (lv_at hl 0 rfl) ?_
  refine gX7_11 hx hb hC hI q_fl_X7_93 dX7_read_183 ?_
  refine lv_icmp_ne (tgt := 193) hx hb dX7_read_186 (by decide) (fun hc => ?_) (fun hc => ?_)
  · have h := zi_f hc h
    refine lv_iconst (v := 0) hx hb dX7_read_193 lc_0 ?_
    refine pX7_13 hx hb hC hI rfl rfl q_fl_X7_97 dX7_read_194 (fun σ41 H locs e_σ41 hI => ?_)
    have h := zl_e h e_σ41
    refine lv_iload_n hx hb dX7_read_197 rfl (lv_at hl 1 rfl) ?_
    exact hret ⟨congrArg Prod.fst (Option.some.inj h), congrArg Prod.snd (Option.some.inj h)⟩ hI rfl dX7_read_198
  · have h := zi_t hc h
    refine lv_iconst (v := 1) hx hb dX7_read_189 lc_1 ?_
    refine lv_goto (tgt := 194) hx hb dX7_read_190 (by decide) ?_
    refine pX7_13 hx hb hC hI rfl rfl q_fl_X7_97 dX7_read_194 (fun σ42 H locs e_σ42 hI => ?_)
    have h := zl_e h e_σ42
    refine lv_iload_n hx hb dX7_read_197 rfl (lv_at hl 1 rfl) ?_
    exact hret ⟨congrArg Prod.fst (Option.some.inj h), congrArg Prod.snd (Option.some.inj h)⟩ hI rfl dX7_read_198
set_option maxRecDepth 100000 in
set_option maxHeartbeats 4000000 in
theorem c_X7_fault (l : Launch) (G : zG)  {σ σ' : SF} {r : Int32} (h : F_X7_fault σ   = some (r, σ')) : zMi l WM G yX7_fault cX7_fault 1 .int 3 [.ref (za G 0)] σ r σ' := by
  refine zMi_of (by decide) (Nat.le_of_ble_eq_true rfl) (fun p e s m args below meth c ls Q hx hb hr hlk hml hC hI hl hret => ?_)
  have hl : lv_has ls 1 [(0, .ref (za G 0))] := hl
  have hC : zC WM G RX7 args s m := hC
  unfold F_X7_fault at h
  refine lv_aload_n hx hb dX7_fault_0 rfl (lv_at hl 0 rfl) ?_
  obtain ⟨r3, σ2, h1, h⟩ := zb2_e h
  refine z_cVi (As := []) (rest := []) hx hb hC (hml.trans hl.1.symm) hI (c_X7_read l G  h1) yyX7_read q_ml_X7_117 (oX7 G) rfl ⟨Nat.le_of_ble_eq_true rfl, Nat.le_of_ble_eq_true rfl⟩ rfl rfl (Nat.le_of_ble_eq_true rfl) ⟨Nat.le_refl _, Nat.le_refl _⟩ dX7_fault_1 (fun H locs hI => ?_)
  exact hret ⟨congrArg Prod.fst (Option.some.inj h), congrArg Prod.snd (Option.some.inj h)⟩ hI rfl dX7_fault_4
set_option maxRecDepth 100000 in
set_option maxHeartbeats 4000000 in
theorem c_X7_graph (l : Launch) (G : zG)  {σ σ' : SF} {r : Int32} (h : F_X7_graph σ   = some (r, σ')) : zMi l WM G yX7_graph cX7_graph 2 .int 3 [.ref (za G 0)] σ r σ' := by
  refine zMi_of (by decide) (Nat.le_of_ble_eq_true rfl) (fun p e s m args below meth c ls Q hx hb hr hlk hml hC hI hl hret => ?_)
  have hl : lv_has ls 2 [(0, .ref (za G 0))] := hl
  have hC : zC WM G RX7 args s m := hC
  have w_36 : ∀ (n : Nat) (y1 : Int32) (σ : SF) (y1o : Int32) (σo : SF), L_X7_graph_36 n y1 σ = some (y1o, σo) → ∀ (H : Heap) (locs : List Loc) (ls : Array Slot), zI WM G s σ H locs → lv_has ls 2 [(0, .ref (za G 0)), (1, .int y1)] → (∀ (H : Heap) (locs : List Loc) (ls : Array Slot), zI WM G s σo H locs → lv_has ls 2 [(0, .ref (za G 0)), (1, .int y1o)] → W p l e (zR 3) s m args below meth c H locs 0 0 Q (F0 m 98 ls [])) → W p l e (zR 3) s m args below meth c H locs 0 0 Q (F0 m 36 ls []) := by
    intro n
    induction n with
    | zero => intro y1 σ y1o σo h; cases h
    | succ n ih =>
      intro y1 σ y1o σo h H locs ls hI hl kE
      unfold L_X7_graph_36 at h
      refine lv_iload_n hx hb dX7_graph_36 rfl (lv_at hl 1 rfl) ?_
      refine lv_aload_n hx hb dX7_graph_37 rfl (lv_at hl 0 rfl) ?_
      refine gX7_1 hx hb hC hI q_fl_X7_121 dX7_graph_38 ?_
      refine lv_icmp_ge (tgt := 98) hx hb dX7_graph_41 (by decide) (fun hc => ?_) (fun hc => ?_)
      · have h := zi_t hc h
        cases h
        exact kE _ _ _ hI (lv_sub hl [0, 1] rfl)
      · have h := zi_f hc h
        refine lv_aload_n hx hb dX7_graph_44 rfl (lv_at hl 0 rfl) ?_
        refine gX7_2 hx hb hC hI q_fl_X7_7 dX7_graph_45 ?_
        refine lv_iload_n hx hb dX7_graph_48 rfl (lv_at hl 1 rfl) ?_
        refine lv_aload_n hx hb dX7_graph_49 rfl (lv_at hl 0 rfl) ?_
        refine gX7_16 hx hb hC hI q_fl_X7_32 dX7_graph_50 ?_
        refine lv_iload_n hx hb dX7_graph_53 rfl (lv_at hl 1 rfl) ?_
        obtain ⟨hg, h⟩ := zg_e h
        refine z_iald hx hb hC hI (vX7_16 G) hg dX7_graph_54 ?_
        obtain ⟨hg, h⟩ := zg_e h
        refine z_iast hx hb hC hI (vX7_2 G) hg dX7_graph_55 (fun σ5 H locs e_σ5 hI => ?_)
        have h := zl_e h e_σ5
        refine lv_aload_n hx hb dX7_graph_56 rfl (lv_at hl 0 rfl) ?_
        refine gX7_3 hx hb hC hI q_fl_X7_13 dX7_graph_57 ?_
        refine lv_iconst (v := 2) hx hb dX7_graph_60 lc_2 ?_
        refine lv_iload_n hx hb dX7_graph_61 rfl (lv_at hl 1 rfl) ?_
        refine lv_imul hx hb dX7_graph_62 ?_
        refine lv_aload_n hx hb dX7_graph_63 rfl (lv_at hl 0 rfl) ?_
        refine gX7_17 hx hb hC hI q_fl_X7_35 dX7_graph_64 ?_
        refine lv_iconst (v := 2) hx hb dX7_graph_67 lc_2 ?_
        refine lv_iload_n hx hb dX7_graph_68 rfl (lv_at hl 1 rfl) ?_
        refine lv_imul hx hb dX7_graph_69 ?_
        refine lv_topi (fun v6 e_v6 => ?_)
        have h := zl_e h e_v6
        obtain ⟨hg, h⟩ := zg_e h
        refine z_iald hx hb hC hI (vX7_17 G) hg dX7_graph_70 ?_
        obtain ⟨hg, h⟩ := zg_e h
        refine z_iast hx hb hC hI (vX7_3 G) hg dX7_graph_71 (fun σ7 H locs e_σ7 hI => ?_)
        have h := zl_e h e_σ7
        refine lv_aload_n hx hb dX7_graph_72 rfl (lv_at hl 0 rfl) ?_
        refine gX7_3 hx hb hC hI q_fl_X7_13 dX7_graph_73 ?_
        refine lv_iconst (v := 2) hx hb dX7_graph_76 lc_2 ?_
        refine lv_iload_n hx hb dX7_graph_77 rfl (lv_at hl 1 rfl) ?_
        refine lv_imul hx hb dX7_graph_78 ?_
        refine lv_iconst (v := 1) hx hb dX7_graph_79 lc_1 ?_
        refine lv_iadd hx hb dX7_graph_80 ?_
        refine lv_aload_n hx hb dX7_graph_81 rfl (lv_at hl 0 rfl) ?_
        refine gX7_17 hx hb hC hI q_fl_X7_35 dX7_graph_82 ?_
        refine lv_iconst (v := 2) hx hb dX7_graph_85 lc_2 ?_
        refine lv_iload_n hx hb dX7_graph_86 rfl (lv_at hl 1 rfl) ?_
        refine lv_imul hx hb dX7_graph_87 ?_
        refine lv_iconst (v := 1) hx hb dX7_graph_88 lc_1 ?_
        refine lv_iadd hx hb dX7_graph_89 ?_
        refine lv_topi (fun v8 e_v8 => ?_)
        have h := zl_e h e_v8
        obtain ⟨hg, h⟩ := zg_e h
        refine z_iald hx hb hC hI (vX7_17 G) hg dX7_graph_90 ?_
        obtain ⟨hg, h⟩ := zg_e h
        refine z_iast hx hb hC hI (vX7_3 G) hg dX7_graph_91 (fun σ9 H locs e_σ9 hI => ?_)
        have h := zl_e h e_σ9
        obtain ⟨v10, e_v10⟩ : ∃ y : Int32, y = y1 + 1 := ⟨_, rfl⟩
        have h := zl_e h e_v10
        refine lv_iinc (v := v10) (lv' := [(1, .int v10), (0, .ref (za G 0))]) hx hb dX7_graph_92 hl (k := 1) rfl (by rw [lc_1]; exact e_v10.symm) (by decide) rfl (fun ls hl => ?_)
        refine lv_goto (tgt := 36) hx hb dX7_graph_95 (by decide) ?_
        exact ih v10 σ9 y1o σo h _ _ _ hI (lv_sub hl [1, 0] rfl) kE
  unfold F_X7_graph at h
  refine lv_aload_n hx hb dX7_graph_0 rfl (lv_at hl 0 rfl) ?_
  obtain ⟨r3, σ2, h1, h⟩ := zb2_e h
  refine z_cVi (As := []) (rest := []) hx hb hC (hml.trans hl.1.symm) hI (c_X7_read l G  h1) yyX7_read q_ml_X7_117 (oX7 G) rfl ⟨Nat.le_of_ble_eq_true rfl, Nat.le_of_ble_eq_true rfl⟩ rfl rfl (Nat.le_of_ble_eq_true rfl) ⟨Nat.le_refl _, Nat.le_refl _⟩ dX7_graph_1 (fun H locs hI => ?_)
  refine lv_pop hx hb dX7_graph_4 rfl ?_
  refine lv_aload_n hx hb dX7_graph_5 rfl (lv_at hl 0 rfl) ?_
  refine gX7_13 hx hb hC hI q_fl_X7_97 dX7_graph_6 ?_
  refine lv_if_eq (tgt := 23) hx hb dX7_graph_9 (by decide) (fun hc => ?_) (fun hc => ?_)
  · have h := zi_t hc h
    refine lv_bipush (v := (-103)) hx hb dX7_graph_23 lb_m103 ?_
    exact hret ⟨congrArg Prod.fst (Option.some.inj h), congrArg Prod.snd (Option.some.inj h)⟩ hI rfl dX7_graph_25
  · have h := zi_f hc h
    refine lv_aload_n hx hb dX7_graph_12 rfl (lv_at hl 0 rfl) ?_
    refine gX7_15 hx hb hC hI q_fl_X7_104 dX7_graph_13 ?_
    refine lv_aload_n hx hb dX7_graph_16 rfl (lv_at hl 0 rfl) ?_
    refine gX7_14 hx hb hC hI q_fl_X7_101 dX7_graph_17 ?_
    refine lv_icmp_lt (tgt := 26) hx hb dX7_graph_20 (by decide) (fun hc => ?_) (fun hc => ?_)
    · have h := zi_t hc h
      refine lv_aload_n hx hb dX7_graph_26 rfl (lv_at hl 0 rfl) ?_
      refine lv_aload_n hx hb dX7_graph_27 rfl (lv_at hl 0 rfl) ?_
      refine gX7_14 hx hb hC hI q_fl_X7_101 dX7_graph_28 ?_
      refine pX7_1 hx hb hC hI q_fl_X7_121 dX7_graph_31 (fun σ4 H locs e_σ4 hI => ?_)
      have h := zl_e h e_σ4
      refine lv_iconst (v := 0) hx hb dX7_graph_34 lc_0 ?_
      refine lv_istore_n (lv' := [(1, .int 0), (0, .ref (za G 0))]) hx hb dX7_graph_35 rfl hl (by decide) rfl (fun ls hl => ?_)
      obtain ⟨v11, σ12, h13, h⟩ := zb2_e h
      refine w_36 100 0 σ4 v11 σ12 h13 _ _ _ hI (lv_sub hl [1, 0] rfl) (fun H locs ls hI hl => ?_)
      refine lv_aload_n hx hb dX7_graph_98 rfl (lv_at hl 0 rfl) ?_
      refine lv_iconst (v := 0) hx hb dX7_graph_99 lc_0 ?_
      refine pX7_4 hx hb hC hI q_fl_X7_124 dX7_graph_100 (fun σ14 H locs e_σ14 hI => ?_)
      have h := zl_e h e_σ14
      refine lv_aload_n hx hb dX7_graph_103 rfl (lv_at hl 0 rfl) ?_
      refine lv_dup hx hb dX7_graph_104 rfl ?_
      refine gX7_0 hx hb hC hI q_fl_X7_127 dX7_graph_105 ?_
      refine lv_iconst (v := 1) hx hb dX7_graph_108 lc_1 ?_
      refine lv_iadd hx hb dX7_graph_109 ?_
      refine pX7_0 hx hb hC hI q_fl_X7_127 dX7_graph_110 (fun σ15 H locs e_σ15 hI => ?_)
      have h := zl_e h e_σ15
      refine lv_aload_n hx hb dX7_graph_113 rfl (lv_at hl 0 rfl) ?_
      refine lv_iconst (v := 0) hx hb dX7_graph_114 lc_0 ?_
      refine pX7_7 hx hb hC hI q_fl_X7_130 dX7_graph_115 (fun σ16 H locs e_σ16 hI => ?_)
      have h := zl_e h e_σ16
      refine lv_aload_n hx hb dX7_graph_118 rfl (lv_at hl 0 rfl) ?_
      refine lv_iconst (v := 0) hx hb dX7_graph_119 lc_0 ?_
      refine pX7_11 hx hb hC hI q_fl_X7_93 dX7_graph_120 (fun σ17 H locs e_σ17 hI => ?_)
      have h := zl_e h e_σ17
      refine lv_aload_n hx hb dX7_graph_123 rfl (lv_at hl 0 rfl) ?_
      refine gX7_1 hx hb hC hI q_fl_X7_121 dX7_graph_124 ?_
      exact hret ⟨congrArg Prod.fst (Option.some.inj h), congrArg Prod.snd (Option.some.inj h)⟩ hI rfl dX7_graph_127
    · have h := zi_f hc h
      refine lv_bipush (v := (-103)) hx hb dX7_graph_23 lb_m103 ?_
      exact hret ⟨congrArg Prod.fst (Option.some.inj h), congrArg Prod.snd (Option.some.inj h)⟩ hI rfl dX7_graph_25
set_option maxRecDepth 100000 in
set_option maxHeartbeats 4000000 in
theorem c_X7_isNode (l : Launch) (G : zG)  {σ : SF} {r : Int32} {x1 : Int32} (h : F_X7_isNode σ  x1 = some r) : zMi l WM G yX7_isNode cX7_isNode 2 .boolean 2 [.ref (za G 0), .int x1] σ r σ := by
  refine zMi_of (by decide) (Nat.le_of_ble_eq_true rfl) (fun p e s m args below meth c ls Q hx hb hr hlk hml hC hI hl hret => ?_)
  have hl : lv_has ls 2 [(0, .ref (za G 0)), (1, .int x1)] := hl
  have hC : zC WM G RX7 args s m := hC
  unfold F_X7_isNode at h
  refine lv_iload_n hx hb dX7_isNode_0 rfl (lv_at hl 1 rfl) ?_
  refine lv_iconst (v := 0) hx hb dX7_isNode_1 lc_0 ?_
  refine lv_aload_n hx hb dX7_isNode_2 rfl (lv_at hl 0 rfl) ?_
  refine gX7_1 hx hb hC hI q_fl_X7_121 dX7_isNode_3 ?_
  refine lv_iconst (v := 1) hx hb dX7_isNode_6 lc_1 ?_
  refine lv_isub hx hb dX7_isNode_7 ?_
  obtain ⟨r2, h1, h⟩ := zb_e h
  refine z_cSi (As := [.int x1, .int 0, .int ((σ 0 1) - 1)]) (rest := []) hx hb hC (hml.trans hl.1.symm) hI (c_X7_within l G  (σ := σ) h1) yyX7_within q_ml_X7_89 ⟨Nat.le_of_ble_eq_true rfl, Nat.le_of_ble_eq_true rfl⟩ rfl rfl (Nat.le_of_ble_eq_true rfl) ⟨Nat.le_refl _, Nat.le_refl _⟩ dX7_isNode_8 (fun H locs hI => ?_)
  obtain ⟨hg, h⟩ := zg_e h
  exact hret ⟨(Option.some.inj h), rfl⟩ hI (zbl_p hg) dX7_isNode_11
set_option maxRecDepth 100000 in
set_option maxHeartbeats 4000000 in
theorem c_X7_layGraph (l : Launch) (G : zG)  {σ σ' : SF} (h : F_X7_layGraph σ   = some σ') : zMv l WM G yX7_layGraph cX7_layGraph 2 1 [.ref (za G 0)] σ σ' := by
  refine zMv_of (by decide) (Nat.le_of_ble_eq_true rfl) (fun p e s m args below meth c ls Q hx hb hr hlk hml hC hI hl hret => ?_)
  have hl : lv_has ls 2 [(0, .ref (za G 0))] := hl
  have hC : zC WM G RX7 args s m := hC
  have w_15 : ∀ (n : Nat) (y1 : Int32) (σ : SF) (y1o : Int32) (σo : SF), L_X7_layGraph_15 n y1 σ = some (y1o, σo) → ∀ (H : Heap) (locs : List Loc) (ls : Array Slot), zI WM G s σ H locs → lv_has ls 2 [(0, .ref (za G 0)), (1, .int y1)] → (∀ (H : Heap) (locs : List Loc) (ls : Array Slot), zI WM G s σo H locs → lv_has ls 2 [(0, .ref (za G 0)), (1, .int y1o)] → W p l e (zR 1) s m args below meth c H locs 0 0 Q (F0 m 77 ls [])) → W p l e (zR 1) s m args below meth c H locs 0 0 Q (F0 m 15 ls []) := by
    intro n
    induction n with
    | zero => intro y1 σ y1o σo h; cases h
    | succ n ih =>
      intro y1 σ y1o σo h H locs ls hI hl kE
      unfold L_X7_layGraph_15 at h
      refine lv_iload_n hx hb dX7_layGraph_15 rfl (lv_at hl 1 rfl) ?_
      refine lv_aload_n hx hb dX7_layGraph_16 rfl (lv_at hl 0 rfl) ?_
      refine gX7_1 hx hb hC hI q_fl_X7_121 dX7_layGraph_17 ?_
      refine lv_icmp_ge (tgt := 77) hx hb dX7_layGraph_20 (by decide) (fun hc => ?_) (fun hc => ?_)
      · have h := zi_t hc h
        cases h
        exact kE _ _ _ hI (lv_sub hl [0, 1] rfl)
      · have h := zi_f hc h
        refine lv_aload_n hx hb dX7_layGraph_23 rfl (lv_at hl 0 rfl) ?_
        refine gX7_20 hx hb hC hI q_fl_X7_38 dX7_layGraph_24 ?_
        refine lv_iload_n hx hb dX7_layGraph_27 rfl (lv_at hl 1 rfl) ?_
        refine lv_aload_n hx hb dX7_layGraph_28 rfl (lv_at hl 0 rfl) ?_
        refine gX7_2 hx hb hC hI q_fl_X7_7 dX7_layGraph_29 ?_
        refine lv_iload_n hx hb dX7_layGraph_32 rfl (lv_at hl 1 rfl) ?_
        obtain ⟨hg, h⟩ := zg_e h
        refine z_iald hx hb hC hI (vX7_2 G) hg dX7_layGraph_33 ?_
        obtain ⟨hg, h⟩ := zg_e h
        refine z_iast hx hb hC hI (vX7_20 G) hg dX7_layGraph_34 (fun σ3 H locs e_σ3 hI => ?_)
        have h := zl_e h e_σ3
        refine lv_aload_n hx hb dX7_layGraph_35 rfl (lv_at hl 0 rfl) ?_
        refine gX7_21 hx hb hC hI q_fl_X7_41 dX7_layGraph_36 ?_
        refine lv_iconst (v := 2) hx hb dX7_layGraph_39 lc_2 ?_
        refine lv_iload_n hx hb dX7_layGraph_40 rfl (lv_at hl 1 rfl) ?_
        refine lv_imul hx hb dX7_layGraph_41 ?_
        refine lv_aload_n hx hb dX7_layGraph_42 rfl (lv_at hl 0 rfl) ?_
        refine gX7_3 hx hb hC hI q_fl_X7_13 dX7_layGraph_43 ?_
        refine lv_iconst (v := 2) hx hb dX7_layGraph_46 lc_2 ?_
        refine lv_iload_n hx hb dX7_layGraph_47 rfl (lv_at hl 1 rfl) ?_
        refine lv_imul hx hb dX7_layGraph_48 ?_
        refine lv_topi (fun v4 e_v4 => ?_)
        have h := zl_e h e_v4
        obtain ⟨hg, h⟩ := zg_e h
        refine z_iald hx hb hC hI (vX7_3 G) hg dX7_layGraph_49 ?_
        obtain ⟨hg, h⟩ := zg_e h
        refine z_iast hx hb hC hI (vX7_21 G) hg dX7_layGraph_50 (fun σ5 H locs e_σ5 hI => ?_)
        have h := zl_e h e_σ5
        refine lv_aload_n hx hb dX7_layGraph_51 rfl (lv_at hl 0 rfl) ?_
        refine gX7_21 hx hb hC hI q_fl_X7_41 dX7_layGraph_52 ?_
        refine lv_iconst (v := 2) hx hb dX7_layGraph_55 lc_2 ?_
        refine lv_iload_n hx hb dX7_layGraph_56 rfl (lv_at hl 1 rfl) ?_
        refine lv_imul hx hb dX7_layGraph_57 ?_
        refine lv_iconst (v := 1) hx hb dX7_layGraph_58 lc_1 ?_
        refine lv_iadd hx hb dX7_layGraph_59 ?_
        refine lv_aload_n hx hb dX7_layGraph_60 rfl (lv_at hl 0 rfl) ?_
        refine gX7_3 hx hb hC hI q_fl_X7_13 dX7_layGraph_61 ?_
        refine lv_iconst (v := 2) hx hb dX7_layGraph_64 lc_2 ?_
        refine lv_iload_n hx hb dX7_layGraph_65 rfl (lv_at hl 1 rfl) ?_
        refine lv_imul hx hb dX7_layGraph_66 ?_
        refine lv_iconst (v := 1) hx hb dX7_layGraph_67 lc_1 ?_
        refine lv_iadd hx hb dX7_layGraph_68 ?_
        refine lv_topi (fun v6 e_v6 => ?_)
        have h := zl_e h e_v6
        obtain ⟨hg, h⟩ := zg_e h
        refine z_iald hx hb hC hI (vX7_3 G) hg dX7_layGraph_69 ?_
        obtain ⟨hg, h⟩ := zg_e h
        refine z_iast hx hb hC hI (vX7_21 G) hg dX7_layGraph_70 (fun σ7 H locs e_σ7 hI => ?_)
        have h := zl_e h e_σ7
        obtain ⟨v8, e_v8⟩ : ∃ y : Int32, y = y1 + 1 := ⟨_, rfl⟩
        have h := zl_e h e_v8
        refine lv_iinc (v := v8) (lv' := [(1, .int v8), (0, .ref (za G 0))]) hx hb dX7_layGraph_71 hl (k := 1) rfl (by rw [lc_1]; exact e_v8.symm) (by decide) rfl (fun ls hl => ?_)
        refine lv_goto (tgt := 15) hx hb dX7_layGraph_74 (by decide) ?_
        exact ih v8 σ7 y1o σo h _ _ _ hI (lv_sub hl [1, 0] rfl) kE
  unfold F_X7_layGraph at h
  refine lv_aload_n hx hb dX7_layGraph_0 rfl (lv_at hl 0 rfl) ?_
  refine lv_aload_n hx hb dX7_layGraph_1 rfl (lv_at hl 0 rfl) ?_
  refine gX7_1 hx hb hC hI q_fl_X7_121 dX7_layGraph_2 ?_
  refine pX7_18 hx hb hC hI q_fl_X7_133 dX7_layGraph_5 (fun σ1 H locs e_σ1 hI => ?_)
  have h := zl_e h e_σ1
  refine lv_aload_n hx hb dX7_layGraph_8 rfl (lv_at hl 0 rfl) ?_
  refine lv_iconst (v := 0) hx hb dX7_layGraph_9 lc_0 ?_
  refine pX7_19 hx hb hC hI q_fl_X7_136 dX7_layGraph_10 (fun σ2 H locs e_σ2 hI => ?_)
  have h := zl_e h e_σ2
  refine lv_iconst (v := 0) hx hb dX7_layGraph_13 lc_0 ?_
  refine lv_istore_n (lv' := [(1, .int 0), (0, .ref (za G 0))]) hx hb dX7_layGraph_14 rfl hl (by decide) rfl (fun ls hl => ?_)
  obtain ⟨v9, σ10, h11, h⟩ := zb2_e h
  refine w_15 100 0 σ2 v9 σ10 h11 _ _ _ hI (lv_sub hl [1, 0] rfl) (fun H locs ls hI hl => ?_)
  exact hret (Option.some.inj h) hI dX7_layGraph_77
set_option maxRecDepth 100000 in
set_option maxHeartbeats 4000000 in
theorem c_X7_isEdge (l : Launch) (G : zG)  {σ : SF} {r : Int32} {x1 : Int32} (h : F_X7_isEdge σ  x1 = some r) : zMi l WM G yX7_isEdge cX7_isEdge 2 .boolean 2 [.ref (za G 0), .int x1] σ r σ := by
  refine zMi_of (by decide) (Nat.le_of_ble_eq_true rfl) (fun p e s m args below meth c ls Q hx hb hr hlk hml hC hI hl hret => ?_)
  have hl : lv_has ls 2 [(0, .ref (za G 0)), (1, .int x1)] := hl
  have hC : zC WM G RX7 args s m := hC
  unfold F_X7_isEdge at h
  refine lv_iload_n hx hb dX7_isEdge_0 rfl (lv_at hl 1 rfl) ?_
  refine lv_iconst (v := 2) hx hb dX7_isEdge_1 lc_2 ?_
  refine lv_irem hx hb dX7_isEdge_2 (by decide) ?_
  refine lv_aload_n hx hb dX7_isEdge_3 rfl (lv_at hl 0 rfl) ?_
  refine gX7_20 hx hb hC hI q_fl_X7_38 dX7_isEdge_4 ?_
  refine lv_iload_n hx hb dX7_isEdge_7 rfl (lv_at hl 1 rfl) ?_
  refine lv_iconst (v := 2) hx hb dX7_isEdge_8 lc_2 ?_
  refine lv_idiv hx hb dX7_isEdge_9 (by decide) ?_
  refine lv_topi (fun v1 e_v1 => ?_)
  have h := zl_e h e_v1
  obtain ⟨hg, h⟩ := zg_e h
  refine z_iald hx hb hC hI (vX7_20 G) hg dX7_isEdge_10 ?_
  obtain ⟨r3, h2, h⟩ := zb_e h
  refine z_cSi (As := [.int (σ 10 (v1 : Int32).toNatClampNeg)]) (rest := [.int (x1 - x1 / 2 * 2)]) hx hb hC (hml.trans hl.1.symm) hI (c_X7_ends l G  (σ := σ) h2) yyX7_ends q_ml_X7_114 ⟨Nat.le_of_ble_eq_true rfl, Nat.le_of_ble_eq_true rfl⟩ rfl rfl (Nat.le_of_ble_eq_true rfl) ⟨Nat.le_refl _, Nat.le_refl _⟩ dX7_isEdge_11 (fun H locs hI => ?_)
  refine lv_icmp_ge (tgt := 32) hx hb dX7_isEdge_14 (by decide) (fun hc => ?_) (fun hc => ?_)
  · have h := zi_t hc h
    refine lv_iconst (v := 0) hx hb dX7_isEdge_32 lc_0 ?_
    exact hret ⟨(Option.some.inj h), rfl⟩ hI rfl dX7_isEdge_33
  · have h := zi_f hc h
    refine lv_aload_n hx hb dX7_isEdge_17 rfl (lv_at hl 0 rfl) ?_
    refine gX7_19 hx hb hC hI q_fl_X7_136 dX7_isEdge_18 ?_
    refine lv_iload_n hx hb dX7_isEdge_21 rfl (lv_at hl 1 rfl) ?_
    obtain ⟨r5, h4, h⟩ := zb_e h
    refine z_cSi (As := [.int (σ 0 19), .int x1]) (rest := []) hx hb hC (hml.trans hl.1.symm) hI (c_X7_isIn l G  (σ := σ) h4) yyX7_isIn q_ml_X7_139 ⟨Nat.le_of_ble_eq_true rfl, Nat.le_of_ble_eq_true rfl⟩ rfl rfl (Nat.le_of_ble_eq_true rfl) ⟨Nat.le_refl _, Nat.le_refl _⟩ dX7_isEdge_22 (fun H locs hI => ?_)
    refine lv_if_ne (tgt := 32) hx hb dX7_isEdge_25 (by decide) (fun hc => ?_) (fun hc => ?_)
    · have h := zi_f hc h
      refine lv_iconst (v := 0) hx hb dX7_isEdge_32 lc_0 ?_
      exact hret ⟨(Option.some.inj h), rfl⟩ hI rfl dX7_isEdge_33
    · have h := zi_t hc h
      refine lv_iconst (v := 1) hx hb dX7_isEdge_28 lc_1 ?_
      refine lv_goto (tgt := 33) hx hb dX7_isEdge_29 (by decide) ?_
      exact hret ⟨(Option.some.inj h), rfl⟩ hI rfl dX7_isEdge_33
set_option maxRecDepth 100000 in
set_option maxHeartbeats 4000000 in
theorem c_X7_layOrder (l : Launch) (G : zG)  {σ σ' : SF} (h : F_X7_layOrder σ   = some σ') : zMv l WM G yX7_layOrder cX7_layOrder 5 3 [.ref (za G 0)] σ σ' := by
  refine zMv_of (by decide) (Nat.le_of_ble_eq_true rfl) (fun p e s m args below meth c ls Q hx hb hr hlk hml hC hI hl hret => ?_)
  have hl : lv_has ls 5 [(0, .ref (za G 0))] := hl
  have hC : zC WM G RX7 args s m := hC
  have w_23 : ∀ (n : Nat) (y1 : Int32) (y2 : Int32) (σ : SF) (y1o : Int32) (y2o : Int32) (σo : SF), L_X7_layOrder_23 n y1 y2 σ = some (y1o, y2o, σo) → ∀ (H : Heap) (locs : List Loc) (ls : Array Slot), zI WM G s σ H locs → lv_has ls 5 [(0, .ref (za G 0)), (1, .int y1), (2, .int y2)] → (∀ (H : Heap) (locs : List Loc) (ls : Array Slot), zI WM G s σo H locs → lv_has ls 5 [(0, .ref (za G 0)), (1, .int y1o), (2, .int y2o)] → W p l e (zR 3) s m args below meth c H locs 0 0 Q (F0 m 160 ls [])) → W p l e (zR 3) s m args below meth c H locs 0 0 Q (F0 m 23 ls []) := by
    intro n
    induction n with
    | zero => intro y1 y2 σ y1o y2o σo h; cases h
    | succ n ih =>
      intro y1 y2 σ y1o y2o σo h H locs ls hI hl kE
      unfold L_X7_layOrder_23 at h
      refine lv_iload_n hx hb dX7_layOrder_23 rfl (lv_at hl 1 rfl) ?_
      refine lv_if_le (tgt := 160) hx hb dX7_layOrder_24 (by decide) (fun hc => ?_) (fun hc => ?_)
      · have h := zi_t hc h
        cases h
        exact kE _ _ _ hI (lv_sub hl [0, 1, 2] rfl)
      · have h := zi_f hc h
        refine lv_aload_n hx hb dX7_layOrder_27 rfl (lv_at hl 0 rfl) ?_
        refine gX7_33 hx hb hC hI q_fl_X7_56 dX7_layOrder_28 ?_
        refine lv_iload_n hx hb dX7_layOrder_31 rfl (lv_at hl 1 rfl) ?_
        refine lv_iconst (v := 1) hx hb dX7_layOrder_32 lc_1 ?_
        refine lv_isub hx hb dX7_layOrder_33 ?_
        refine lv_topi (fun v4 e_v4 => ?_)
        have h := zl_e h e_v4
        obtain ⟨hg, h⟩ := zg_e h
        refine z_iald hx hb hC hI (vX7_33 G) hg dX7_layOrder_34 ?_
        refine lv_topi (fun v5 e_v5 => ?_)
        have h := zl_e h e_v5
        refine lv_istore_n (lv' := [(3, .int v5), (0, .ref (za G 0)), (1, .int y1), (2, .int y2)]) hx hb dX7_layOrder_35 rfl hl (by decide) rfl (fun ls hl => ?_)
        refine lv_aload_n hx hb dX7_layOrder_36 rfl (lv_at hl 1 rfl) ?_
        refine gX7_34 hx hb hC hI q_fl_X7_59 dX7_layOrder_37 ?_
        refine lv_iload_n hx hb dX7_layOrder_40 rfl (lv_at hl 2 rfl) ?_
        refine lv_iconst (v := 1) hx hb dX7_layOrder_41 lc_1 ?_
        refine lv_isub hx hb dX7_layOrder_42 ?_
        refine lv_topi (fun v6 e_v6 => ?_)
        have h := zl_e h e_v6
        obtain ⟨hg, h⟩ := zg_e h
        refine z_iald hx hb hC hI (vX7_34 G) hg dX7_layOrder_43 ?_
        refine lv_iconst (v := 2) hx hb dX7_layOrder_44 lc_2 ?_
        refine lv_icmp_ne (tgt := 64) hx hb dX7_layOrder_45 (by decide) (fun hc => ?_) (fun hc => ?_)
        · have h := zi_f hc h
          refine lv_iconst (v := 2) hx hb dX7_layOrder_64 lc_2 ?_
          refine lv_iload_n hx hb dX7_layOrder_65 rfl (lv_at hl 0 rfl) ?_
          refine lv_imul hx hb dX7_layOrder_66 ?_
          refine lv_aload_n hx hb dX7_layOrder_67 rfl (lv_at hl 1 rfl) ?_
          refine gX7_34 hx hb hC hI q_fl_X7_59 dX7_layOrder_68 ?_
          refine lv_iload_n hx hb dX7_layOrder_71 rfl (lv_at hl 2 rfl) ?_
          refine lv_iconst (v := 1) hx hb dX7_layOrder_72 lc_1 ?_
          refine lv_isub hx hb dX7_layOrder_73 ?_
          refine lv_topi (fun v7 e_v7 => ?_)
          have h := zl_e h e_v7
          obtain ⟨hg, h⟩ := zg_e h
          refine z_iald hx hb hC hI (vX7_34 G) hg dX7_layOrder_74 ?_
          refine lv_iadd hx hb dX7_layOrder_75 ?_
          refine lv_topi (fun v8 e_v8 => ?_)
          have h := zl_e h e_v8
          refine lv_istore (lv' := [(4, .int v8), (3, .int v5), (0, .ref (za G 0)), (1, .int y1), (2, .int y2)]) hx hb dX7_layOrder_76 hl (by decide) rfl (fun ls hl => ?_)
          refine lv_aload_n hx hb dX7_layOrder_78 rfl (lv_at hl 2 rfl) ?_
          refine gX7_34 hx hb hC hI q_fl_X7_59 dX7_layOrder_79 ?_
          refine lv_iload_n hx hb dX7_layOrder_82 rfl (lv_at hl 3 rfl) ?_
          refine lv_iconst (v := 1) hx hb dX7_layOrder_83 lc_1 ?_
          refine lv_isub hx hb dX7_layOrder_84 ?_
          refine lv_topi (fun v9 e_v9 => ?_)
          have h := zl_e h e_v9
          refine lv_dup2_11 hx hb dX7_layOrder_85 rfl rfl ?_
          obtain ⟨hg, h⟩ := zg_e h
          refine z_iald hx hb hC hI (vX7_34 G) hg dX7_layOrder_86 ?_
          refine lv_iconst (v := 1) hx hb dX7_layOrder_87 lc_1 ?_
          refine lv_iadd hx hb dX7_layOrder_88 ?_
          obtain ⟨hg, h⟩ := zg_e h
          refine z_iast hx hb hC hI (vX7_34 G) hg dX7_layOrder_89 (fun σ10 H locs e_σ10 hI => ?_)
          have h := zl_e h e_σ10
          refine lv_aload_n hx hb dX7_layOrder_90 rfl (lv_at hl 2 rfl) ?_
          refine lv_iload hx hb dX7_layOrder_91 (lv_at hl 0 rfl) ?_
          obtain ⟨r12, h11, h⟩ := zb_e h
          refine z_cVi (As := [.int v8]) (rest := []) hx hb hC (hml.trans hl.1.symm) hI (c_X7_isEdge l G  h11) yyX7_isEdge q_ml_X7_146 (oX7 G) rfl ⟨Nat.le_of_ble_eq_true rfl, Nat.le_of_ble_eq_true rfl⟩ rfl rfl (Nat.le_of_ble_eq_true rfl) ⟨Nat.le_refl _, Nat.le_refl _⟩ dX7_layOrder_93 (fun H locs hI => ?_)
          refine lv_if_eq (tgt := 157) hx hb dX7_layOrder_96 (by decide) (fun hc => ?_) (fun hc => ?_)
          · have h := zi_t hc h
            refine lv_goto (tgt := 23) hx hb dX7_layOrder_157 (by decide) ?_
            exact ih y1 y2 σ10 y1o y2o σo h _ _ _ hI (lv_sub hl [2, 3, 4] rfl) kE
          · have h := zi_f hc h
            refine lv_aload_n hx hb dX7_layOrder_99 rfl (lv_at hl 2 rfl) ?_
            refine gX7_22 hx hb hC hI q_fl_X7_143 dX7_layOrder_100 ?_
            refine lv_aload_n hx hb dX7_layOrder_103 rfl (lv_at hl 2 rfl) ?_
            refine gX7_21 hx hb hC hI q_fl_X7_41 dX7_layOrder_104 ?_
            refine lv_iload hx hb dX7_layOrder_107 (lv_at hl 0 rfl) ?_
            obtain ⟨hg, h⟩ := zg_e h
            refine z_iald hx hb hC hI (vX7_21 G) hg dX7_layOrder_109 ?_
            obtain ⟨r14, h13, h⟩ := zb_e h
            refine z_cSi (As := [.int (σ10 0 22), .int (σ10 11 (v8 : Int32).toNatClampNeg)]) (rest := []) hx hb hC (hml.trans hl.1.symm) hI (c_X7_isIn l G  (σ := σ10) h13) yyX7_isIn q_ml_X7_139 ⟨Nat.le_of_ble_eq_true rfl, Nat.le_of_ble_eq_true rfl⟩ rfl rfl (Nat.le_of_ble_eq_true rfl) ⟨Nat.le_refl _, Nat.le_refl _⟩ dX7_layOrder_110 (fun H locs hI => ?_)
            refine lv_if_ne (tgt := 157) hx hb dX7_layOrder_113 (by decide) (fun hc => ?_) (fun hc => ?_)
            · have h := zi_f hc h
              refine lv_goto (tgt := 23) hx hb dX7_layOrder_157 (by decide) ?_
              exact ih y1 y2 σ10 y1o y2o σo h _ _ _ hI (lv_sub hl [2, 3, 4] rfl) kE
            · have h := zi_t hc h
              refine lv_aload_n hx hb dX7_layOrder_116 rfl (lv_at hl 2 rfl) ?_
              refine lv_dup hx hb dX7_layOrder_117 rfl ?_
              refine gX7_22 hx hb hC hI q_fl_X7_143 dX7_layOrder_118 ?_
              refine lv_iconst (v := 1) hx hb dX7_layOrder_121 lc_1 ?_
              refine lv_aload_n hx hb dX7_layOrder_122 rfl (lv_at hl 2 rfl) ?_
              refine gX7_21 hx hb hC hI q_fl_X7_41 dX7_layOrder_123 ?_
              refine lv_iload hx hb dX7_layOrder_126 (lv_at hl 0 rfl) ?_
              obtain ⟨hg, h⟩ := zg_e h
              refine z_iald hx hb hC hI (vX7_21 G) hg dX7_layOrder_128 ?_
              refine lv_ishl hx hb dX7_layOrder_129 ?_
              refine lv_ior hx hb dX7_layOrder_130 ?_
              refine pX7_22 hx hb hC hI q_fl_X7_143 dX7_layOrder_131 (fun σ15 H locs e_σ15 hI => ?_)
              have h := zl_e h e_σ15
              refine lv_aload_n hx hb dX7_layOrder_134 rfl (lv_at hl 2 rfl) ?_
              refine gX7_33 hx hb hC hI q_fl_X7_56 dX7_layOrder_135 ?_
              refine lv_iload_n hx hb dX7_layOrder_138 rfl (lv_at hl 3 rfl) ?_
              refine lv_aload_n hx hb dX7_layOrder_139 rfl (lv_at hl 2 rfl) ?_
              refine gX7_21 hx hb hC hI q_fl_X7_41 dX7_layOrder_140 ?_
              refine lv_iload hx hb dX7_layOrder_143 (lv_at hl 0 rfl) ?_
              obtain ⟨hg, h⟩ := zg_e h
              refine z_iald hx hb hC hI (vX7_21 G) hg dX7_layOrder_145 ?_
              obtain ⟨hg, h⟩ := zg_e h
              refine z_iast hx hb hC hI (vX7_33 G) hg dX7_layOrder_146 (fun σ16 H locs e_σ16 hI => ?_)
              have h := zl_e h e_σ16
              refine lv_aload_n hx hb dX7_layOrder_147 rfl (lv_at hl 2 rfl) ?_
              refine gX7_34 hx hb hC hI q_fl_X7_59 dX7_layOrder_148 ?_
              refine lv_iload_n hx hb dX7_layOrder_151 rfl (lv_at hl 3 rfl) ?_
              refine lv_iconst (v := 0) hx hb dX7_layOrder_152 lc_0 ?_
              obtain ⟨hg, h⟩ := zg_e h
              refine z_iast hx hb hC hI (vX7_34 G) hg dX7_layOrder_153 (fun σ17 H locs e_σ17 hI => ?_)
              have h := zl_e h e_σ17
              obtain ⟨v18, e_v18⟩ : ∃ y : Int32, y = y1 + 1 := ⟨_, rfl⟩
              have h := zl_e h e_v18
              refine lv_iinc (v := v18) (lv' := [(1, .int v18), (4, .int v8), (3, .int v5), (0, .ref (za G 0)), (2, .int y2)]) hx hb dX7_layOrder_154 hl (k := 3) rfl (by rw [lc_1]; exact e_v18.symm) (by decide) rfl (fun ls hl => ?_)
              refine lv_goto (tgt := 23) hx hb dX7_layOrder_157 (by decide) ?_
              exact ih v18 y2 σ17 y1o y2o σo h _ _ _ hI (lv_sub hl [3, 0, 4] rfl) kE
        · have h := zi_t hc h
          refine lv_aload_n hx hb dX7_layOrder_48 rfl (lv_at hl 1 rfl) ?_
          refine gX7_24 hx hb hC hI q_fl_X7_44 dX7_layOrder_49 ?_
          refine lv_iload_n hx hb dX7_layOrder_52 rfl (lv_at hl 3 rfl) ?_
          refine lv_iload_n hx hb dX7_layOrder_53 rfl (lv_at hl 0 rfl) ?_
          obtain ⟨hg, h⟩ := zg_e h
          refine z_iast hx hb hC hI (vX7_24 G) hg dX7_layOrder_54 (fun σ19 H locs e_σ19 hI => ?_)
          have h := zl_e h e_σ19
          obtain ⟨v20, e_v20⟩ : ∃ y : Int32, y = y2 + 1 := ⟨_, rfl⟩
          have h := zl_e h e_v20
          refine lv_iinc (v := v20) (lv' := [(2, .int v20), (3, .int v5), (0, .ref (za G 0)), (1, .int y1)]) hx hb dX7_layOrder_55 hl (k := 3) rfl (by rw [lc_1]; exact e_v20.symm) (by decide) rfl (fun ls hl => ?_)
          obtain ⟨v21, e_v21⟩ : ∃ y : Int32, y = y1 + (-1) := ⟨_, rfl⟩
          have h := zl_e h e_v21
          refine lv_iinc (v := v21) (lv' := [(1, .int v21), (2, .int v20), (3, .int v5), (0, .ref (za G 0))]) hx hb dX7_layOrder_58 hl (k := 3) rfl (by rw [lc_m1]; exact e_v21.symm) (by decide) rfl (fun ls hl => ?_)
          refine lv_goto (tgt := 157) hx hb dX7_layOrder_61 (by decide) ?_
          refine lv_goto (tgt := 23) hx hb dX7_layOrder_157 (by decide) ?_
          exact ih v21 v20 σ19 y1o y2o σo h _ _ _ hI (lv_sub hl [3, 0, 1] rfl) kE
  have w_167 : ∀ (n : Nat) (y2 : Int32) (y3 : Int32) (σ : SF) (y3o : Int32) (σo : SF), L_X7_layOrder_167 y2 n y3 σ = some (y3o, σo) → ∀ (H : Heap) (locs : List Loc) (ls : Array Slot), zI WM G s σ H locs → lv_has ls 5 [(0, .ref (za G 0)), (2, .int y2), (3, .int y3)] → (∀ (H : Heap) (locs : List Loc) (ls : Array Slot), zI WM G s σo H locs → lv_has ls 5 [(0, .ref (za G 0)), (2, .int y2), (3, .int y3o)] → W p l e (zR 3) s m args below meth c H locs 0 0 Q (F0 m 216 ls [])) → W p l e (zR 3) s m args below meth c H locs 0 0 Q (F0 m 167 ls []) := by
    intro n
    induction n with
    | zero => intro y2 y3 σ y3o σo h; cases h
    | succ n ih =>
      intro y2 y3 σ y3o σo h H locs ls hI hl kE
      unfold L_X7_layOrder_167 at h
      refine lv_iload_n hx hb dX7_layOrder_167 rfl (lv_at hl 2 rfl) ?_
      refine lv_iload_n hx hb dX7_layOrder_168 rfl (lv_at hl 1 rfl) ?_
      refine lv_iconst (v := 2) hx hb dX7_layOrder_169 lc_2 ?_
      refine lv_idiv hx hb dX7_layOrder_170 (by decide) ?_
      refine lv_icmp_ge (tgt := 216) hx hb dX7_layOrder_171 (by decide) (fun hc => ?_) (fun hc => ?_)
      · have h := zi_t hc h
        cases h
        exact kE _ _ _ hI (lv_sub hl [0, 1, 2] rfl)
      · have h := zi_f hc h
        refine lv_aload_n hx hb dX7_layOrder_174 rfl (lv_at hl 0 rfl) ?_
        refine gX7_24 hx hb hC hI q_fl_X7_44 dX7_layOrder_175 ?_
        refine lv_iload_n hx hb dX7_layOrder_178 rfl (lv_at hl 2 rfl) ?_
        obtain ⟨hg, h⟩ := zg_e h
        refine z_iald hx hb hC hI (vX7_24 G) hg dX7_layOrder_179 ?_
        refine lv_topi (fun v27 e_v27 => ?_)
        have h := zl_e h e_v27
        refine lv_istore (lv' := [(4, .int v27), (0, .ref (za G 0)), (2, .int y2), (3, .int y3)]) hx hb dX7_layOrder_180 hl (by decide) rfl (fun ls hl => ?_)
        refine lv_aload_n hx hb dX7_layOrder_182 rfl (lv_at hl 1 rfl) ?_
        refine gX7_24 hx hb hC hI q_fl_X7_44 dX7_layOrder_183 ?_
        refine lv_iload_n hx hb dX7_layOrder_186 rfl (lv_at hl 3 rfl) ?_
        refine lv_aload_n hx hb dX7_layOrder_187 rfl (lv_at hl 1 rfl) ?_
        refine gX7_24 hx hb hC hI q_fl_X7_44 dX7_layOrder_188 ?_
        refine lv_iload_n hx hb dX7_layOrder_191 rfl (lv_at hl 2 rfl) ?_
        refine lv_iconst (v := 1) hx hb dX7_layOrder_192 lc_1 ?_
        refine lv_isub hx hb dX7_layOrder_193 ?_
        refine lv_iload_n hx hb dX7_layOrder_194 rfl (lv_at hl 3 rfl) ?_
        refine lv_isub hx hb dX7_layOrder_195 ?_
        refine lv_topi (fun v28 e_v28 => ?_)
        have h := zl_e h e_v28
        obtain ⟨hg, h⟩ := zg_e h
        refine z_iald hx hb hC hI (vX7_24 G) hg dX7_layOrder_196 ?_
        obtain ⟨hg, h⟩ := zg_e h
        refine z_iast hx hb hC hI (vX7_24 G) hg dX7_layOrder_197 (fun σ29 H locs e_σ29 hI => ?_)
        have h := zl_e h e_σ29
        refine lv_aload_n hx hb dX7_layOrder_198 rfl (lv_at hl 1 rfl) ?_
        refine gX7_24 hx hb hC hI q_fl_X7_44 dX7_layOrder_199 ?_
        refine lv_iload_n hx hb dX7_layOrder_202 rfl (lv_at hl 2 rfl) ?_
        refine lv_iconst (v := 1) hx hb dX7_layOrder_203 lc_1 ?_
        refine lv_isub hx hb dX7_layOrder_204 ?_
        refine lv_iload_n hx hb dX7_layOrder_205 rfl (lv_at hl 3 rfl) ?_
        refine lv_isub hx hb dX7_layOrder_206 ?_
        refine lv_iload hx hb dX7_layOrder_207 (lv_at hl 0 rfl) ?_
        obtain ⟨hg, h⟩ := zg_e h
        refine z_iast hx hb hC hI (vX7_24 G) hg dX7_layOrder_209 (fun σ30 H locs e_σ30 hI => ?_)
        have h := zl_e h e_σ30
        obtain ⟨v31, e_v31⟩ : ∃ y : Int32, y = y3 + 1 := ⟨_, rfl⟩
        have h := zl_e h e_v31
        refine lv_iinc (v := v31) (lv' := [(3, .int v31), (4, .int v27), (0, .ref (za G 0)), (2, .int y2)]) hx hb dX7_layOrder_210 hl (k := 3) rfl (by rw [lc_1]; exact e_v31.symm) (by decide) rfl (fun ls hl => ?_)
        refine lv_goto (tgt := 167) hx hb dX7_layOrder_213 (by decide) ?_
        exact ih y2 v31 σ30 y3o σo h _ _ _ hI (lv_sub hl [2, 3, 0] rfl) kE
  have w_218 : ∀ (n : Nat) (y2 : Int32) (y3 : Int32) (σ : SF) (y3o : Int32) (σo : SF), L_X7_layOrder_218 y2 n y3 σ = some (y3o, σo) → ∀ (H : Heap) (locs : List Loc) (ls : Array Slot), zI WM G s σ H locs → lv_has ls 5 [(0, .ref (za G 0)), (2, .int y2), (3, .int y3)] → (∀ (H : Heap) (locs : List Loc) (ls : Array Slot), zI WM G s σo H locs → lv_has ls 5 [(0, .ref (za G 0)), (2, .int y2), (3, .int y3o)] → W p l e (zR 3) s m args below meth c H locs 0 0 Q (F0 m 241 ls [])) → W p l e (zR 3) s m args below meth c H locs 0 0 Q (F0 m 218 ls []) := by
    intro n
    induction n with
    | zero => intro y2 y3 σ y3o σo h; cases h
    | succ n ih =>
      intro y2 y3 σ y3o σo h H locs ls hI hl kE
      unfold L_X7_layOrder_218 at h
      refine lv_iload_n hx hb dX7_layOrder_218 rfl (lv_at hl 2 rfl) ?_
      refine lv_iload_n hx hb dX7_layOrder_219 rfl (lv_at hl 1 rfl) ?_
      refine lv_icmp_ge (tgt := 241) hx hb dX7_layOrder_220 (by decide) (fun hc => ?_) (fun hc => ?_)
      · have h := zi_t hc h
        cases h
        exact kE _ _ _ hI (lv_sub hl [0, 1, 2] rfl)
      · have h := zi_f hc h
        refine lv_aload_n hx hb dX7_layOrder_223 rfl (lv_at hl 0 rfl) ?_
        refine gX7_25 hx hb hC hI q_fl_X7_47 dX7_layOrder_224 ?_
        refine lv_aload_n hx hb dX7_layOrder_227 rfl (lv_at hl 0 rfl) ?_
        refine gX7_24 hx hb hC hI q_fl_X7_44 dX7_layOrder_228 ?_
        refine lv_iload_n hx hb dX7_layOrder_231 rfl (lv_at hl 2 rfl) ?_
        obtain ⟨hg, h⟩ := zg_e h
        refine z_iald hx hb hC hI (vX7_24 G) hg dX7_layOrder_232 ?_
        refine lv_iload_n hx hb dX7_layOrder_233 rfl (lv_at hl 2 rfl) ?_
        obtain ⟨hg, h⟩ := zg_e h
        refine z_iast hx hb hC hI (vX7_25 G) hg dX7_layOrder_234 (fun σ35 H locs e_σ35 hI => ?_)
        have h := zl_e h e_σ35
        obtain ⟨v36, e_v36⟩ : ∃ y : Int32, y = y3 + 1 := ⟨_, rfl⟩
        have h := zl_e h e_v36
        refine lv_iinc (v := v36) (lv' := [(3, .int v36), (0, .ref (za G 0)), (2, .int y2)]) hx hb dX7_layOrder_235 hl (k := 2) rfl (by rw [lc_1]; exact e_v36.symm) (by decide) rfl (fun ls hl => ?_)
        refine lv_goto (tgt := 218) hx hb dX7_layOrder_238 (by decide) ?_
        exact ih y2 v36 σ35 y3o σo h _ _ _ hI (lv_sub hl [1, 2, 0] rfl) kE
  unfold F_X7_layOrder at h
  refine lv_iconst (v := 1) hx hb dX7_layOrder_0 lc_1 ?_
  refine lv_istore_n (lv' := [(1, .int 1), (0, .ref (za G 0))]) hx hb dX7_layOrder_1 rfl hl (by decide) rfl (fun ls hl => ?_)
  refine lv_iconst (v := 0) hx hb dX7_layOrder_2 lc_0 ?_
  refine lv_istore_n (lv' := [(2, .int 0), (1, .int 1), (0, .ref (za G 0))]) hx hb dX7_layOrder_3 rfl hl (by decide) rfl (fun ls hl => ?_)
  refine lv_aload_n hx hb dX7_layOrder_4 rfl (lv_at hl 2 rfl) ?_
  refine gX7_33 hx hb hC hI q_fl_X7_56 dX7_layOrder_5 ?_
  refine lv_iconst (v := 0) hx hb dX7_layOrder_8 lc_0 ?_
  refine lv_iconst (v := 0) hx hb dX7_layOrder_9 lc_0 ?_
  obtain ⟨hg, h⟩ := zg_e h
  refine z_iast hx hb hC hI (vX7_33 G) hg dX7_layOrder_10 (fun σ1 H locs e_σ1 hI => ?_)
  have h := zl_e h e_σ1
  refine lv_aload_n hx hb dX7_layOrder_11 rfl (lv_at hl 2 rfl) ?_
  refine gX7_34 hx hb hC hI q_fl_X7_59 dX7_layOrder_12 ?_
  refine lv_iconst (v := 0) hx hb dX7_layOrder_15 lc_0 ?_
  refine lv_iconst (v := 0) hx hb dX7_layOrder_16 lc_0 ?_
  obtain ⟨hg, h⟩ := zg_e h
  refine z_iast hx hb hC hI (vX7_34 G) hg dX7_layOrder_17 (fun σ2 H locs e_σ2 hI => ?_)
  have h := zl_e h e_σ2
  refine lv_aload_n hx hb dX7_layOrder_18 rfl (lv_at hl 2 rfl) ?_
  refine lv_iconst (v := 1) hx hb dX7_layOrder_19 lc_1 ?_
  refine pX7_22 hx hb hC hI q_fl_X7_143 dX7_layOrder_20 (fun σ3 H locs e_σ3 hI => ?_)
  have h := zl_e h e_σ3
  obtain ⟨v22, v23, σ24, h25, h⟩ := zb3_e h
  refine w_23 100 1 0 σ3 v22 v23 σ24 h25 _ _ _ hI (lv_sub hl [2, 1, 0] rfl) (fun H locs ls hI hl => ?_)
  refine lv_aload_n hx hb dX7_layOrder_160 rfl (lv_at hl 0 rfl) ?_
  refine lv_iload_n hx hb dX7_layOrder_161 rfl (lv_at hl 2 rfl) ?_
  refine pX7_23 hx hb hC hI q_fl_X7_150 dX7_layOrder_162 (fun σ26 H locs e_σ26 hI => ?_)
  have h := zl_e h e_σ26
  refine lv_iconst (v := 0) hx hb dX7_layOrder_165 lc_0 ?_
  refine lv_istore_n (lv' := [(3, .int 0), (0, .ref (za G 0)), (1, .int v22), (2, .int v23)]) hx hb dX7_layOrder_166 rfl hl (by decide) rfl (fun ls hl => ?_)
  obtain ⟨v32, σ33, h34, h⟩ := zb2_e h
  refine w_167 100 v23 0 σ26 v32 σ33 h34 _ _ _ hI (lv_sub hl [1, 3, 0] rfl) (fun H locs ls hI hl => ?_)
  refine lv_iconst (v := 0) hx hb dX7_layOrder_216 lc_0 ?_
  refine lv_istore_n (lv' := [(3, .int 0), (0, .ref (za G 0)), (2, .int v23)]) hx hb dX7_layOrder_217 rfl hl (by decide) rfl (fun ls hl => ?_)
  obtain ⟨v37, σ38, h39, h⟩ := zb2_e h
  refine w_218 100 v23 0 σ33 v37 σ38 h39 _ _ _ hI (lv_sub hl [1, 2, 0] rfl) (fun H locs ls hI hl => ?_)
  exact hret (Option.some.inj h) hI dX7_layOrder_241
set_option maxRecDepth 100000 in
set_option maxHeartbeats 4000000 in
theorem c_X7_without (l : Launch) (G : zG)  {σ : SF} {r : Int32} {x1 : Int32} (h : F_X7_without σ  x1 = some r) : zMi l WM G yX7_without cX7_without 6 .int 3 [.ref (za G 0), .int x1] σ r σ := by
  refine zMi_of (by decide) (Nat.le_of_ble_eq_true rfl) (fun p e s m args below meth c ls Q hx hb hr hlk hml hC hI hl hret => ?_)
  have hl : lv_has ls 6 [(0, .ref (za G 0)), (1, .int x1)] := hl
  have hC : zC WM G RX7 args s m := hC
  have w_21 : ∀ (n : Nat) (y1 : Int32) (y3 : Int32) (y2 : Int32) (y4 : Int32) (y2o : Int32) (y4o : Int32), L_X7_without_21 σ y1 y3 n y2 y4 = some (y2o, y4o) → ∀ (H : Heap) (locs : List Loc) (ls : Array Slot), zI WM G s σ H locs → lv_has ls 6 [(0, .ref (za G 0)), (1, .int y1), (2, .int y2), (3, .int y3), (4, .int y4)] → (∀ (H : Heap) (locs : List Loc) (ls : Array Slot), zI WM G s σ H locs → lv_has ls 6 [(0, .ref (za G 0)), (1, .int y1), (2, .int y2o), (3, .int y3), (4, .int y4o)] → W p l e (zR 3) s m args below meth c H locs 0 0 Q (F0 m 97 ls [])) → W p l e (zR 3) s m args below meth c H locs 0 0 Q (F0 m 21 ls []) := by
    intro n
    induction n with
    | zero => intro y1 y3 y2 y4 y2o y4o h; cases h
    | succ n ih =>
      intro y1 y3 y2 y4 y2o y4o h H locs ls hI hl kE
      unfold L_X7_without_21 at h
      refine lv_iload hx hb dX7_without_21 (lv_at hl 4 rfl) ?_
      refine lv_iconst (v := 2) hx hb dX7_without_23 lc_2 ?_
      refine lv_aload_n hx hb dX7_without_24 rfl (lv_at hl 0 rfl) ?_
      refine gX7_18 hx hb hC hI q_fl_X7_133 dX7_without_25 ?_
      refine lv_imul hx hb dX7_without_28 ?_
      refine lv_icmp_ge (tgt := 97) hx hb dX7_without_29 (by decide) (fun hc => ?_) (fun hc => ?_)
      · have h := zi_t hc h
        cases h
        exact kE _ _ _ hI (lv_sub hl [0, 1, 2, 3, 4] rfl)
      · have h := zi_f hc h
        refine lv_iload_n hx hb dX7_without_32 rfl (lv_at hl 2 rfl) ?_
        refine lv_iload hx hb dX7_without_33 (lv_at hl 4 rfl) ?_
        refine lv_iconst (v := 2) hx hb dX7_without_35 lc_2 ?_
        refine lv_idiv hx hb dX7_without_36 (by decide) ?_
        obtain ⟨r2, h1, h⟩ := zb_e h
        refine z_cSi (As := [.int y2, .int (y4 / 2)]) (rest := []) hx hb hC (hml.trans hl.1.symm) hI (c_X7_isIn l G  (σ := σ) h1) yyX7_isIn q_ml_X7_139 ⟨Nat.le_of_ble_eq_true rfl, Nat.le_of_ble_eq_true rfl⟩ rfl rfl (Nat.le_of_ble_eq_true rfl) ⟨Nat.le_refl _, Nat.le_refl _⟩ dX7_without_37 (fun H locs hI => ?_)
        refine lv_if_eq (tgt := 67) hx hb dX7_without_40 (by decide) (fun hc => ?_) (fun hc => ?_)
        · have h := zi_t hc h
          refine lv_iconst (v := 0) hx hb dX7_without_67 lc_0 ?_
          refine lv_istore (lv' := [(5, .int 0), (0, .ref (za G 0)), (1, .int y1), (2, .int y2), (3, .int y3), (4, .int y4)]) hx hb dX7_without_68 hl (by decide) rfl (fun ls hl => ?_)
          refine lv_iload_n hx hb dX7_without_70 rfl (lv_at hl 3 rfl) ?_
          refine lv_iload hx hb dX7_without_71 (lv_at hl 0 rfl) ?_
          refine lv_if_eq (tgt := 88) hx hb dX7_without_73 (by decide) (fun _ => ?_) (fun hc => absurd hc (by decide))
          refine lv_iconst (v := 0) hx hb dX7_without_88 lc_0 ?_
          refine lv_ior hx hb dX7_without_89 ?_
          refine lv_topi (fun v3 e_v3 => ?_)
          have h := zl_e h e_v3
          refine lv_istore_n (lv' := [(2, .int v3), (5, .int 0), (0, .ref (za G 0)), (1, .int y1), (3, .int y3), (4, .int y4)]) hx hb dX7_without_90 rfl hl (by decide) rfl (fun ls hl => ?_)
          obtain ⟨v4, e_v4⟩ : ∃ y : Int32, y = y4 + 1 := ⟨_, rfl⟩
          have h := zl_e h e_v4
          refine lv_iinc (v := v4) (lv' := [(4, .int v4), (2, .int v3), (5, .int 0), (0, .ref (za G 0)), (1, .int y1), (3, .int y3)]) hx hb dX7_without_91 hl (k := 5) rfl (by rw [lc_1]; exact e_v4.symm) (by decide) rfl (fun ls hl => ?_)
          refine lv_goto (tgt := 21) hx hb dX7_without_94 (by decide) ?_
          exact ih y1 y3 v3 v4 y2o y4o h _ _ _ hI (lv_sub hl [3, 4, 1, 5, 0] rfl) kE
        · have h := zi_f hc h
          refine lv_aload_n hx hb dX7_without_43 rfl (lv_at hl 0 rfl) ?_
          refine lv_iload hx hb dX7_without_44 (lv_at hl 4 rfl) ?_
          obtain ⟨r6, h5, h⟩ := zb_e h
          refine z_cVi (As := [.int y4]) (rest := []) hx hb hC (hml.trans hl.1.symm) hI (c_X7_isEdge l G  h5) yyX7_isEdge q_ml_X7_146 (oX7 G) rfl ⟨Nat.le_of_ble_eq_true rfl, Nat.le_of_ble_eq_true rfl⟩ rfl rfl (Nat.le_of_ble_eq_true rfl) ⟨Nat.le_refl _, Nat.le_refl _⟩ dX7_without_46 (fun H locs hI => ?_)
          refine lv_if_eq (tgt := 67) hx hb dX7_without_49 (by decide) (fun hc => ?_) (fun hc => ?_)
          · have h := zi_t hc h
            refine lv_iconst (v := 0) hx hb dX7_without_67 lc_0 ?_
            refine lv_istore (lv' := [(5, .int 0), (0, .ref (za G 0)), (1, .int y1), (2, .int y2), (3, .int y3), (4, .int y4)]) hx hb dX7_without_68 hl (by decide) rfl (fun ls hl => ?_)
            refine lv_iload_n hx hb dX7_without_70 rfl (lv_at hl 3 rfl) ?_
            refine lv_iload hx hb dX7_without_71 (lv_at hl 0 rfl) ?_
            refine lv_if_eq (tgt := 88) hx hb dX7_without_73 (by decide) (fun _ => ?_) (fun hc => absurd hc (by decide))
            refine lv_iconst (v := 0) hx hb dX7_without_88 lc_0 ?_
            refine lv_ior hx hb dX7_without_89 ?_
            refine lv_topi (fun v7 e_v7 => ?_)
            have h := zl_e h e_v7
            refine lv_istore_n (lv' := [(2, .int v7), (5, .int 0), (0, .ref (za G 0)), (1, .int y1), (3, .int y3), (4, .int y4)]) hx hb dX7_without_90 rfl hl (by decide) rfl (fun ls hl => ?_)
            obtain ⟨v8, e_v8⟩ : ∃ y : Int32, y = y4 + 1 := ⟨_, rfl⟩
            have h := zl_e h e_v8
            refine lv_iinc (v := v8) (lv' := [(4, .int v8), (2, .int v7), (5, .int 0), (0, .ref (za G 0)), (1, .int y1), (3, .int y3)]) hx hb dX7_without_91 hl (k := 5) rfl (by rw [lc_1]; exact e_v8.symm) (by decide) rfl (fun ls hl => ?_)
            refine lv_goto (tgt := 21) hx hb dX7_without_94 (by decide) ?_
            exact ih y1 y3 v7 v8 y2o y4o h _ _ _ hI (lv_sub hl [3, 4, 1, 5, 0] rfl) kE
          · have h := zi_f hc h
            refine lv_aload_n hx hb dX7_without_52 rfl (lv_at hl 0 rfl) ?_
            refine gX7_21 hx hb hC hI q_fl_X7_41 dX7_without_53 ?_
            refine lv_iload hx hb dX7_without_56 (lv_at hl 4 rfl) ?_
            obtain ⟨hg, h⟩ := zg_e h
            refine z_iald hx hb hC hI (vX7_21 G) hg dX7_without_58 ?_
            refine lv_iload_n hx hb dX7_without_59 rfl (lv_at hl 1 rfl) ?_
            refine lv_icmp_eq (tgt := 67) hx hb dX7_without_60 (by decide) (fun hc => ?_) (fun hc => ?_)
            · have h := zi_t hc h
              refine lv_iconst (v := 0) hx hb dX7_without_67 lc_0 ?_
              refine lv_istore (lv' := [(5, .int 0), (0, .ref (za G 0)), (1, .int y1), (2, .int y2), (3, .int y3), (4, .int y4)]) hx hb dX7_without_68 hl (by decide) rfl (fun ls hl => ?_)
              refine lv_iload_n hx hb dX7_without_70 rfl (lv_at hl 3 rfl) ?_
              refine lv_iload hx hb dX7_without_71 (lv_at hl 0 rfl) ?_
              refine lv_if_eq (tgt := 88) hx hb dX7_without_73 (by decide) (fun _ => ?_) (fun hc => absurd hc (by decide))
              refine lv_iconst (v := 0) hx hb dX7_without_88 lc_0 ?_
              refine lv_ior hx hb dX7_without_89 ?_
              refine lv_topi (fun v9 e_v9 => ?_)
              have h := zl_e h e_v9
              refine lv_istore_n (lv' := [(2, .int v9), (5, .int 0), (0, .ref (za G 0)), (1, .int y1), (3, .int y3), (4, .int y4)]) hx hb dX7_without_90 rfl hl (by decide) rfl (fun ls hl => ?_)
              obtain ⟨v10, e_v10⟩ : ∃ y : Int32, y = y4 + 1 := ⟨_, rfl⟩
              have h := zl_e h e_v10
              refine lv_iinc (v := v10) (lv' := [(4, .int v10), (2, .int v9), (5, .int 0), (0, .ref (za G 0)), (1, .int y1), (3, .int y3)]) hx hb dX7_without_91 hl (k := 5) rfl (by rw [lc_1]; exact e_v10.symm) (by decide) rfl (fun ls hl => ?_)
              refine lv_goto (tgt := 21) hx hb dX7_without_94 (by decide) ?_
              exact ih y1 y3 v9 v10 y2o y4o h _ _ _ hI (lv_sub hl [3, 4, 1, 5, 0] rfl) kE
            · have h := zi_f hc h
              refine lv_iconst (v := 1) hx hb dX7_without_63 lc_1 ?_
              refine lv_goto (tgt := 68) hx hb dX7_without_64 (by decide) ?_
              refine lv_istore (lv' := [(5, .int 1), (0, .ref (za G 0)), (1, .int y1), (2, .int y2), (3, .int y3), (4, .int y4)]) hx hb dX7_without_68 hl (by decide) rfl (fun ls hl => ?_)
              refine lv_iload_n hx hb dX7_without_70 rfl (lv_at hl 3 rfl) ?_
              refine lv_iload hx hb dX7_without_71 (lv_at hl 0 rfl) ?_
              refine lv_if_eq (tgt := 88) hx hb dX7_without_73 (by decide) (fun hc => absurd hc (by decide)) (fun _ => ?_)
              refine lv_iconst (v := 1) hx hb dX7_without_76 lc_1 ?_
              refine lv_aload_n hx hb dX7_without_77 rfl (lv_at hl 1 rfl) ?_
              refine gX7_21 hx hb hC hI q_fl_X7_41 dX7_without_78 ?_
              refine lv_iload hx hb dX7_without_81 (lv_at hl 5 rfl) ?_
              obtain ⟨hg, h⟩ := zg_e h
              refine z_iald hx hb hC hI (vX7_21 G) hg dX7_without_83 ?_
              refine lv_ishl hx hb dX7_without_84 ?_
              refine lv_goto (tgt := 89) hx hb dX7_without_85 (by decide) ?_
              refine lv_ior hx hb dX7_without_89 ?_
              refine lv_topi (fun v11 e_v11 => ?_)
              have h := zl_e h e_v11
              refine lv_istore_n (lv' := [(2, .int v11), (5, .int 1), (0, .ref (za G 0)), (1, .int y1), (3, .int y3), (4, .int y4)]) hx hb dX7_without_90 rfl hl (by decide) rfl (fun ls hl => ?_)
              obtain ⟨v12, e_v12⟩ : ∃ y : Int32, y = y4 + 1 := ⟨_, rfl⟩
              have h := zl_e h e_v12
              refine lv_iinc (v := v12) (lv' := [(4, .int v12), (2, .int v11), (5, .int 1), (0, .ref (za G 0)), (1, .int y1), (3, .int y3)]) hx hb dX7_without_91 hl (k := 5) rfl (by rw [lc_1]; exact e_v12.symm) (by decide) rfl (fun ls hl => ?_)
              refine lv_goto (tgt := 21) hx hb dX7_without_94 (by decide) ?_
              exact ih y1 y3 v11 v12 y2o y4o h _ _ _ hI (lv_sub hl [3, 4, 1, 5, 0] rfl) kE
  have w_12 : ∀ (n : Nat) (y1 : Int32) (y2 : Int32) (y3 : Int32) (y2o : Int32) (y3o : Int32), L_X7_without_12 σ y1 n y2 y3 = some (y2o, y3o) → ∀ (H : Heap) (locs : List Loc) (ls : Array Slot), zI WM G s σ H locs → lv_has ls 6 [(0, .ref (za G 0)), (1, .int y1), (2, .int y2), (3, .int y3)] → (∀ (H : Heap) (locs : List Loc) (ls : Array Slot), zI WM G s σ H locs → lv_has ls 6 [(0, .ref (za G 0)), (1, .int y1), (2, .int y2o), (3, .int y3o)] → W p l e (zR 3) s m args below meth c H locs 0 0 Q (F0 m 103 ls [])) → W p l e (zR 3) s m args below meth c H locs 0 0 Q (F0 m 12 ls []) := by
    intro n
    induction n with
    | zero => intro y1 y2 y3 y2o y3o h; cases h
    | succ n ih =>
      intro y1 y2 y3 y2o y3o h H locs ls hI hl kE
      unfold L_X7_without_12 at h
      refine lv_iload_n hx hb dX7_without_12 rfl (lv_at hl 3 rfl) ?_
      refine lv_bipush (v := 8) hx hb dX7_without_13 lb_8 ?_
      refine lv_icmp_ge (tgt := 103) hx hb dX7_without_15 (by decide) (fun hc => ?_) (fun hc => ?_)
      · have h := zi_t hc h
        cases h
        exact kE _ _ _ hI (lv_sub hl [0, 1, 2, 3] rfl)
      · have h := zi_f hc h
        refine lv_iconst (v := 0) hx hb dX7_without_18 lc_0 ?_
        refine lv_istore (lv' := [(4, .int 0), (0, .ref (za G 0)), (1, .int y1), (2, .int y2), (3, .int y3)]) hx hb dX7_without_19 hl (by decide) rfl (fun ls hl => ?_)
        obtain ⟨v13, v14, h15, h⟩ := zb2_e h
        refine w_21 100 y1 y3 y2 0 v13 v14 h15 _ _ _ hI (lv_sub hl [1, 2, 3, 4, 0] rfl) (fun H locs ls hI hl => ?_)
        obtain ⟨v16, e_v16⟩ : ∃ y : Int32, y = y3 + 1 := ⟨_, rfl⟩
        have h := zl_e h e_v16
        refine lv_iinc (v := v16) (lv' := [(3, .int v16), (0, .ref (za G 0)), (1, .int y1), (2, .int v13), (4, .int v14)]) hx hb dX7_without_97 hl (k := 3) rfl (by rw [lc_1]; exact e_v16.symm) (by decide) rfl (fun ls hl => ?_)
        refine lv_goto (tgt := 12) hx hb dX7_without_100 (by decide) ?_
        exact ih y1 v13 v16 y2o y3o h _ _ _ hI (lv_sub hl [1, 2, 3, 0] rfl) kE
  unfold F_X7_without at h
  refine lv_iload_n hx hb dX7_without_0 rfl (lv_at hl 1 rfl) ?_
  refine lv_if_ne (tgt := 8) hx hb dX7_without_1 (by decide) (fun hc => ?_) (fun hc => ?_)
  · have h := zi_f hc h
    refine lv_iconst (v := 1) hx hb dX7_without_8 lc_1 ?_
    refine lv_istore_n (lv' := [(2, .int 1), (0, .ref (za G 0)), (1, .int x1)]) hx hb dX7_without_9 rfl hl (by decide) rfl (fun ls hl => ?_)
    refine lv_iconst (v := 0) hx hb dX7_without_10 lc_0 ?_
    refine lv_istore_n (lv' := [(3, .int 0), (2, .int 1), (0, .ref (za G 0)), (1, .int x1)]) hx hb dX7_without_11 rfl hl (by decide) rfl (fun ls hl => ?_)
    obtain ⟨v17, v18, h19, h⟩ := zb2_e h
    refine w_12 100 x1 1 0 v17 v18 h19 _ _ _ hI (lv_sub hl [2, 3, 1, 0] rfl) (fun H locs ls hI hl => ?_)
    refine lv_iload_n hx hb dX7_without_103 rfl (lv_at hl 2 rfl) ?_
    exact hret ⟨(Option.some.inj h), rfl⟩ hI rfl dX7_without_104
  · have h := zi_t hc h
    refine lv_iconst (v := 0) hx hb dX7_without_4 lc_0 ?_
    refine lv_goto (tgt := 9) hx hb dX7_without_5 (by decide) ?_
    refine lv_istore_n (lv' := [(2, .int 0), (0, .ref (za G 0)), (1, .int x1)]) hx hb dX7_without_9 rfl hl (by decide) rfl (fun ls hl => ?_)
    refine lv_iconst (v := 0) hx hb dX7_without_10 lc_0 ?_
    refine lv_istore_n (lv' := [(3, .int 0), (2, .int 0), (0, .ref (za G 0)), (1, .int x1)]) hx hb dX7_without_11 rfl hl (by decide) rfl (fun ls hl => ?_)
    obtain ⟨v20, v21, h22, h⟩ := zb2_e h
    refine w_12 100 x1 0 0 v20 v21 h22 _ _ _ hI (lv_sub hl [2, 3, 1, 0] rfl) (fun H locs ls hI hl => ?_)
    refine lv_iload_n hx hb dX7_without_103 rfl (lv_at hl 2 rfl) ?_
    exact hret ⟨(Option.some.inj h), rfl⟩ hI rfl dX7_without_104
set_option maxRecDepth 100000 in
set_option maxHeartbeats 4000000 in
theorem c_X7_layLords (l : Launch) (G : zG)  {σ σ' : SF} (h : F_X7_layLords σ   = some σ') : zMv l WM G yX7_layLords cX7_layLords 4 4 [.ref (za G 0)] σ σ' := by
  refine zMv_of (by decide) (Nat.le_of_ble_eq_true rfl) (fun p e s m args below meth c ls Q hx hb hr hlk hml hC hI hl hret => ?_)
  have hl : lv_has ls 4 [(0, .ref (za G 0))] := hl
  have hC : zC WM G RX7 args s m := hC
  have w_2 : ∀ (n : Nat) (y1 : Int32) (σ : SF) (y1o : Int32) (σo : SF), L_X7_layLords_2 n y1 σ = some (y1o, σo) → ∀ (H : Heap) (locs : List Loc) (ls : Array Slot), zI WM G s σ H locs → lv_has ls 4 [(0, .ref (za G 0)), (1, .int y1)] → (∀ (H : Heap) (locs : List Loc) (ls : Array Slot), zI WM G s σo H locs → lv_has ls 4 [(0, .ref (za G 0)), (1, .int y1o)] → W p l e (zR 4) s m args below meth c H locs 0 0 Q (F0 m 30 ls [])) → W p l e (zR 4) s m args below meth c H locs 0 0 Q (F0 m 2 ls []) := by
    intro n
    induction n with
    | zero => intro y1 σ y1o σo h; cases h
    | succ n ih =>
      intro y1 σ y1o σo h H locs ls hI hl kE
      unfold L_X7_layLords_2 at h
      refine lv_iload_n hx hb dX7_layLords_2 rfl (lv_at hl 1 rfl) ?_
      refine lv_aload_n hx hb dX7_layLords_3 rfl (lv_at hl 0 rfl) ?_
      refine gX7_18 hx hb hC hI q_fl_X7_133 dX7_layLords_4 ?_
      refine lv_icmp_ge (tgt := 30) hx hb dX7_layLords_7 (by decide) (fun hc => ?_) (fun hc => ?_)
      · have h := zi_t hc h
        cases h
        exact kE _ _ _ hI (lv_sub hl [0, 1] rfl)
      · have h := zi_f hc h
        refine lv_aload_n hx hb dX7_layLords_10 rfl (lv_at hl 0 rfl) ?_
        refine gX7_26 hx hb hC hI q_fl_X7_50 dX7_layLords_11 ?_
        refine lv_iload_n hx hb dX7_layLords_14 rfl (lv_at hl 1 rfl) ?_
        refine lv_iconst (v := 0) hx hb dX7_layLords_15 lc_0 ?_
        obtain ⟨hg, h⟩ := zg_e h
        refine z_iast hx hb hC hI (vX7_26 G) hg dX7_layLords_16 (fun σ1 H locs e_σ1 hI => ?_)
        have h := zl_e h e_σ1
        refine lv_aload_n hx hb dX7_layLords_17 rfl (lv_at hl 0 rfl) ?_
        refine gX7_27 hx hb hC hI q_fl_X7_53 dX7_layLords_18 ?_
        refine lv_iload_n hx hb dX7_layLords_21 rfl (lv_at hl 1 rfl) ?_
        refine lv_iconst (v := (-1)) hx hb dX7_layLords_22 lc_m1 ?_
        obtain ⟨hg, h⟩ := zg_e h
        refine z_iast hx hb hC hI (vX7_27 G) hg dX7_layLords_23 (fun σ2 H locs e_σ2 hI => ?_)
        have h := zl_e h e_σ2
        obtain ⟨v3, e_v3⟩ : ∃ y : Int32, y = y1 + 1 := ⟨_, rfl⟩
        have h := zl_e h e_v3
        refine lv_iinc (v := v3) (lv' := [(1, .int v3), (0, .ref (za G 0))]) hx hb dX7_layLords_24 hl (k := 1) rfl (by rw [lc_1]; exact e_v3.symm) (by decide) rfl (fun ls hl => ?_)
        refine lv_goto (tgt := 2) hx hb dX7_layLords_27 (by decide) ?_
        exact ih v3 σ2 y1o σo h _ _ _ hI (lv_sub hl [1, 0] rfl) kE
  have w_70 : ∀ (n : Nat) (y1 : Int32) (y2 : Int32) (y3 : Int32) (σ : SF) (y3o : Int32) (σo : SF), L_X7_layLords_70 y1 y2 n y3 σ = some (y3o, σo) → ∀ (H : Heap) (locs : List Loc) (ls : Array Slot), zI WM G s σ H locs → lv_has ls 4 [(0, .ref (za G 0)), (1, .int y1), (2, .int y2), (3, .int y3)] → (∀ (H : Heap) (locs : List Loc) (ls : Array Slot), zI WM G s σo H locs → lv_has ls 4 [(0, .ref (za G 0)), (1, .int y1), (2, .int y2), (3, .int y3o)] → W p l e (zR 4) s m args below meth c H locs 0 0 Q (F0 m 108 ls [])) → W p l e (zR 4) s m args below meth c H locs 0 0 Q (F0 m 70 ls []) := by
    intro n
    induction n with
    | zero => intro y1 y2 y3 σ y3o σo h; cases h
    | succ n ih =>
      intro y1 y2 y3 σ y3o σo h H locs ls hI hl kE
      unfold L_X7_layLords_70 at h
      refine lv_iload_n hx hb dX7_layLords_70 rfl (lv_at hl 3 rfl) ?_
      refine lv_aload_n hx hb dX7_layLords_71 rfl (lv_at hl 0 rfl) ?_
      refine gX7_18 hx hb hC hI q_fl_X7_133 dX7_layLords_72 ?_
      refine lv_icmp_ge (tgt := 108) hx hb dX7_layLords_75 (by decide) (fun hc => ?_) (fun hc => ?_)
      · have h := zi_t hc h
        cases h
        exact kE _ _ _ hI (lv_sub hl [0, 1, 2, 3] rfl)
      · have h := zi_f hc h
        refine lv_aload_n hx hb dX7_layLords_78 rfl (lv_at hl 0 rfl) ?_
        refine gX7_26 hx hb hC hI q_fl_X7_50 dX7_layLords_79 ?_
        refine lv_iload_n hx hb dX7_layLords_82 rfl (lv_at hl 3 rfl) ?_
        refine lv_dup2_11 hx hb dX7_layLords_83 rfl rfl ?_
        obtain ⟨hg, h⟩ := zg_e h
        refine z_iald hx hb hC hI (vX7_26 G) hg dX7_layLords_84 ?_
        refine lv_iload_n hx hb dX7_layLords_85 rfl (lv_at hl 2 rfl) ?_
        refine lv_iload_n hx hb dX7_layLords_86 rfl (lv_at hl 3 rfl) ?_
        obtain ⟨r10, h9, h⟩ := zb_e h
        refine z_cSi (As := [.int y2, .int y3]) (rest := [.int (σ 14 (y3 : Int32).toNatClampNeg), .int y3, .ref (za G 14)]) hx hb hC (hml.trans hl.1.symm) hI (c_X7_isIn l G  (σ := σ) h9) yyX7_isIn q_ml_X7_139 ⟨Nat.le_of_ble_eq_true rfl, Nat.le_of_ble_eq_true rfl⟩ rfl rfl (Nat.le_of_ble_eq_true rfl) ⟨Nat.le_refl _, Nat.le_refl _⟩ dX7_layLords_87 (fun H locs hI => ?_)
        refine lv_if_eq (tgt := 99) hx hb dX7_layLords_90 (by decide) (fun hc => ?_) (fun hc => ?_)
        · have h := zi_t hc h
          refine lv_iconst (v := 0) hx hb dX7_layLords_99 lc_0 ?_
          refine lv_ior hx hb dX7_layLords_100 ?_
          obtain ⟨hg, h⟩ := zg_e h
          refine z_iast hx hb hC hI (vX7_26 G) hg dX7_layLords_101 (fun σ11 H locs e_σ11 hI => ?_)
          have h := zl_e h e_σ11
          obtain ⟨v12, e_v12⟩ : ∃ y : Int32, y = y3 + 1 := ⟨_, rfl⟩
          have h := zl_e h e_v12
          refine lv_iinc (v := v12) (lv' := [(3, .int v12), (0, .ref (za G 0)), (1, .int y1), (2, .int y2)]) hx hb dX7_layLords_102 hl (k := 3) rfl (by rw [lc_1]; exact e_v12.symm) (by decide) rfl (fun ls hl => ?_)
          refine lv_goto (tgt := 70) hx hb dX7_layLords_105 (by decide) ?_
          exact ih y1 y2 v12 σ11 y3o σo h _ _ _ hI (lv_sub hl [1, 2, 3, 0] rfl) kE
        · have h := zi_f hc h
          refine lv_iconst (v := 1) hx hb dX7_layLords_93 lc_1 ?_
          refine lv_iload_n hx hb dX7_layLords_94 rfl (lv_at hl 1 rfl) ?_
          refine lv_ishl hx hb dX7_layLords_95 ?_
          refine lv_goto (tgt := 100) hx hb dX7_layLords_96 (by decide) ?_
          refine lv_ior hx hb dX7_layLords_100 ?_
          obtain ⟨hg, h⟩ := zg_e h
          refine z_iast hx hb hC hI (vX7_26 G) hg dX7_layLords_101 (fun σ13 H locs e_σ13 hI => ?_)
          have h := zl_e h e_σ13
          obtain ⟨v14, e_v14⟩ : ∃ y : Int32, y = y3 + 1 := ⟨_, rfl⟩
          have h := zl_e h e_v14
          refine lv_iinc (v := v14) (lv' := [(3, .int v14), (0, .ref (za G 0)), (1, .int y1), (2, .int y2)]) hx hb dX7_layLords_102 hl (k := 3) rfl (by rw [lc_1]; exact e_v14.symm) (by decide) rfl (fun ls hl => ?_)
          refine lv_goto (tgt := 70) hx hb dX7_layLords_105 (by decide) ?_
          exact ih y1 y2 v14 σ13 y3o σo h _ _ _ hI (lv_sub hl [1, 2, 3, 0] rfl) kE
  have w_32 : ∀ (n : Nat) (y1 : Int32) (σ : SF) (y1o : Int32) (σo : SF), L_X7_layLords_32 n y1 σ = some (y1o, σo) → ∀ (H : Heap) (locs : List Loc) (ls : Array Slot), zI WM G s σ H locs → lv_has ls 4 [(0, .ref (za G 0)), (1, .int y1)] → (∀ (H : Heap) (locs : List Loc) (ls : Array Slot), zI WM G s σo H locs → lv_has ls 4 [(0, .ref (za G 0)), (1, .int y1o)] → W p l e (zR 4) s m args below meth c H locs 0 0 Q (F0 m 114 ls [])) → W p l e (zR 4) s m args below meth c H locs 0 0 Q (F0 m 32 ls []) := by
    intro n
    induction n with
    | zero => intro y1 σ y1o σo h; cases h
    | succ n ih =>
      intro y1 σ y1o σo h H locs ls hI hl kE
      unfold L_X7_layLords_32 at h
      refine lv_iload_n hx hb dX7_layLords_32 rfl (lv_at hl 1 rfl) ?_
      refine lv_aload_n hx hb dX7_layLords_33 rfl (lv_at hl 0 rfl) ?_
      refine gX7_18 hx hb hC hI q_fl_X7_133 dX7_layLords_34 ?_
      refine lv_icmp_ge (tgt := 114) hx hb dX7_layLords_37 (by decide) (fun hc => ?_) (fun hc => ?_)
      · have h := zi_t hc h
        cases h
        exact kE _ _ _ hI (lv_sub hl [0, 1] rfl)
      · have h := zi_f hc h
        refine lv_aload_n hx hb dX7_layLords_40 rfl (lv_at hl 0 rfl) ?_
        refine gX7_22 hx hb hC hI q_fl_X7_143 dX7_layLords_41 ?_
        refine lv_iload_n hx hb dX7_layLords_44 rfl (lv_at hl 1 rfl) ?_
        obtain ⟨r8, h7, h⟩ := zb_e h
        refine z_cSi (As := [.int (σ 0 22), .int y1]) (rest := []) hx hb hC (hml.trans hl.1.symm) hI (c_X7_isIn l G  (σ := σ) h7) yyX7_isIn q_ml_X7_139 ⟨Nat.le_of_ble_eq_true rfl, Nat.le_of_ble_eq_true rfl⟩ rfl rfl (Nat.le_of_ble_eq_true rfl) ⟨Nat.le_refl _, Nat.le_refl _⟩ dX7_layLords_45 (fun H locs hI => ?_)
        refine lv_if_eq (tgt := 66) hx hb dX7_layLords_48 (by decide) (fun hc => ?_) (fun hc => ?_)
        · have h := zi_t hc h
          refine lv_iconst (v := 0) hx hb dX7_layLords_66 lc_0 ?_
          refine lv_istore_n (lv' := [(2, .int 0), (0, .ref (za G 0)), (1, .int y1)]) hx hb dX7_layLords_67 rfl hl (by decide) rfl (fun ls hl => ?_)
          refine lv_iconst (v := 0) hx hb dX7_layLords_68 lc_0 ?_
          refine lv_istore_n (lv' := [(3, .int 0), (2, .int 0), (0, .ref (za G 0)), (1, .int y1)]) hx hb dX7_layLords_69 rfl hl (by decide) rfl (fun ls hl => ?_)
          obtain ⟨v15, σ16, h17, h⟩ := zb2_e h
          refine w_70 100 y1 0 0 σ v15 σ16 h17 _ _ _ hI (lv_sub hl [2, 3, 1, 0] rfl) (fun H locs ls hI hl => ?_)
          obtain ⟨v18, e_v18⟩ : ∃ y : Int32, y = y1 + 1 := ⟨_, rfl⟩
          have h := zl_e h e_v18
          refine lv_iinc (v := v18) (lv' := [(1, .int v18), (0, .ref (za G 0)), (2, .int 0), (3, .int v15)]) hx hb dX7_layLords_108 hl (k := 1) rfl (by rw [lc_1]; exact e_v18.symm) (by decide) rfl (fun ls hl => ?_)
          refine lv_goto (tgt := 32) hx hb dX7_layLords_111 (by decide) ?_
          exact ih v18 σ16 y1o σo h _ _ _ hI (lv_sub hl [1, 0] rfl) kE
        · have h := zi_f hc h
          refine lv_aload_n hx hb dX7_layLords_51 rfl (lv_at hl 0 rfl) ?_
          refine gX7_22 hx hb hC hI q_fl_X7_143 dX7_layLords_52 ?_
          refine lv_aload_n hx hb dX7_layLords_55 rfl (lv_at hl 0 rfl) ?_
          refine lv_iload_n hx hb dX7_layLords_56 rfl (lv_at hl 1 rfl) ?_
          obtain ⟨r20, h19, h⟩ := zb_e h
          refine z_cVi (As := [.int y1]) (rest := [.int (σ 0 22)]) hx hb hC (hml.trans hl.1.symm) hI (c_X7_without l G  h19) yyX7_without q_ml_X7_153 (oX7 G) rfl ⟨Nat.le_of_ble_eq_true rfl, Nat.le_of_ble_eq_true rfl⟩ rfl rfl (Nat.le_of_ble_eq_true rfl) ⟨Nat.le_refl _, Nat.le_refl _⟩ dX7_layLords_57 (fun H locs hI => ?_)
          refine lv_iconst (v := (-1)) hx hb dX7_layLords_60 lc_m1 ?_
          refine lv_ixor hx hb dX7_layLords_61 ?_
          refine lv_iand hx hb dX7_layLords_62 ?_
          refine lv_goto (tgt := 67) hx hb dX7_layLords_63 (by decide) ?_
          refine lv_topi (fun v21 e_v21 => ?_)
          have h := zl_e h e_v21
          refine lv_istore_n (lv' := [(2, .int v21), (0, .ref (za G 0)), (1, .int y1)]) hx hb dX7_layLords_67 rfl hl (by decide) rfl (fun ls hl => ?_)
          refine lv_iconst (v := 0) hx hb dX7_layLords_68 lc_0 ?_
          refine lv_istore_n (lv' := [(3, .int 0), (2, .int v21), (0, .ref (za G 0)), (1, .int y1)]) hx hb dX7_layLords_69 rfl hl (by decide) rfl (fun ls hl => ?_)
          obtain ⟨v22, σ23, h24, h⟩ := zb2_e h
          refine w_70 100 y1 v21 0 σ v22 σ23 h24 _ _ _ hI (lv_sub hl [2, 3, 1, 0] rfl) (fun H locs ls hI hl => ?_)
          obtain ⟨v25, e_v25⟩ : ∃ y : Int32, y = y1 + 1 := ⟨_, rfl⟩
          have h := zl_e h e_v25
          refine lv_iinc (v := v25) (lv' := [(1, .int v25), (0, .ref (za G 0)), (2, .int v21), (3, .int v22)]) hx hb dX7_layLords_108 hl (k := 1) rfl (by rw [lc_1]; exact e_v25.symm) (by decide) rfl (fun ls hl => ?_)
          refine lv_goto (tgt := 32) hx hb dX7_layLords_111 (by decide) ?_
          exact ih v25 σ23 y1o σo h _ _ _ hI (lv_sub hl [1, 0] rfl) kE
  have w_126 : ∀ (n : Nat) (y1 : Int32) (y2 : Int32) (σ : SF) (y2o : Int32) (σo : SF), L_X7_layLords_126 y1 n y2 σ = some (y2o, σo) → ∀ (H : Heap) (locs : List Loc) (ls : Array Slot), zI WM G s σ H locs → lv_has ls 4 [(0, .ref (za G 0)), (1, .int y1), (2, .int y2)] → (∀ (H : Heap) (locs : List Loc) (ls : Array Slot), zI WM G s σo H locs → lv_has ls 4 [(0, .ref (za G 0)), (1, .int y1), (2, .int y2o)] → W p l e (zR 4) s m args below meth c H locs 0 0 Q (F0 m 207 ls [])) → W p l e (zR 4) s m args below meth c H locs 0 0 Q (F0 m 126 ls []) := by
    intro n
    induction n with
    | zero => intro y1 y2 σ y2o σo h; cases h
    | succ n ih =>
      intro y1 y2 σ y2o σo h H locs ls hI hl kE
      unfold L_X7_layLords_126 at h
      refine lv_iload_n hx hb dX7_layLords_126 rfl (lv_at hl 2 rfl) ?_
      refine lv_aload_n hx hb dX7_layLords_127 rfl (lv_at hl 0 rfl) ?_
      refine gX7_18 hx hb hC hI q_fl_X7_133 dX7_layLords_128 ?_
      refine lv_icmp_ge (tgt := 207) hx hb dX7_layLords_131 (by decide) (fun hc => ?_) (fun hc => ?_)
      · have h := zi_t hc h
        cases h
        exact kE _ _ _ hI (lv_sub hl [0, 1, 2] rfl)
      · have h := zi_f hc h
        refine lv_iload_n hx hb dX7_layLords_134 rfl (lv_at hl 2 rfl) ?_
        refine lv_iload_n hx hb dX7_layLords_135 rfl (lv_at hl 1 rfl) ?_
        refine lv_icmp_eq (tgt := 179) hx hb dX7_layLords_136 (by decide) (fun hc => ?_) (fun hc => ?_)
        · have h := zi_t hc h
          refine lv_iconst (v := 0) hx hb dX7_layLords_179 lc_0 ?_
          refine lv_istore_n (lv' := [(3, .int 0), (0, .ref (za G 0)), (1, .int y1), (2, .int y2)]) hx hb dX7_layLords_180 rfl hl (by decide) rfl (fun ls hl => ?_)
          refine lv_aload_n hx hb dX7_layLords_181 rfl (lv_at hl 1 rfl) ?_
          refine gX7_27 hx hb hC hI q_fl_X7_53 dX7_layLords_182 ?_
          refine lv_iload_n hx hb dX7_layLords_185 rfl (lv_at hl 2 rfl) ?_
          refine lv_iload_n hx hb dX7_layLords_186 rfl (lv_at hl 0 rfl) ?_
          refine lv_if_eq (tgt := 194) hx hb dX7_layLords_187 (by decide) (fun _ => ?_) (fun hc => absurd hc (by decide))
          refine lv_aload_n hx hb dX7_layLords_194 rfl (lv_at hl 1 rfl) ?_
          refine gX7_27 hx hb hC hI q_fl_X7_53 dX7_layLords_195 ?_
          refine lv_iload_n hx hb dX7_layLords_198 rfl (lv_at hl 2 rfl) ?_
          obtain ⟨hg, h⟩ := zg_e h
          refine z_iald hx hb hC hI (vX7_27 G) hg dX7_layLords_199 ?_
          obtain ⟨hg, h⟩ := zg_e h
          refine z_iast hx hb hC hI (vX7_27 G) hg dX7_layLords_200 (fun σ29 H locs e_σ29 hI => ?_)
          have h := zl_e h e_σ29
          obtain ⟨v30, e_v30⟩ : ∃ y : Int32, y = y2 + 1 := ⟨_, rfl⟩
          have h := zl_e h e_v30
          refine lv_iinc (v := v30) (lv' := [(2, .int v30), (3, .int 0), (0, .ref (za G 0)), (1, .int y1)]) hx hb dX7_layLords_201 hl (k := 3) rfl (by rw [lc_1]; exact e_v30.symm) (by decide) rfl (fun ls hl => ?_)
          refine lv_goto (tgt := 126) hx hb dX7_layLords_204 (by decide) ?_
          exact ih y1 v30 σ29 y2o σo h _ _ _ hI (lv_sub hl [2, 3, 0] rfl) kE
        · have h := zi_f hc h
          refine lv_aload_n hx hb dX7_layLords_139 rfl (lv_at hl 0 rfl) ?_
          refine gX7_26 hx hb hC hI q_fl_X7_50 dX7_layLords_140 ?_
          refine lv_iload_n hx hb dX7_layLords_143 rfl (lv_at hl 1 rfl) ?_
          obtain ⟨hg, h⟩ := zg_e h
          refine z_iald hx hb hC hI (vX7_26 G) hg dX7_layLords_144 ?_
          refine lv_iload_n hx hb dX7_layLords_145 rfl (lv_at hl 2 rfl) ?_
          obtain ⟨r32, h31, h⟩ := zb_e h
          refine z_cSi (As := [.int (σ 14 (y1 : Int32).toNatClampNeg), .int y2]) (rest := []) hx hb hC (hml.trans hl.1.symm) hI (c_X7_isIn l G  (σ := σ) h31) yyX7_isIn q_ml_X7_139 ⟨Nat.le_of_ble_eq_true rfl, Nat.le_of_ble_eq_true rfl⟩ rfl rfl (Nat.le_of_ble_eq_true rfl) ⟨Nat.le_refl _, Nat.le_refl _⟩ dX7_layLords_146 (fun H locs hI => ?_)
          refine lv_if_eq (tgt := 179) hx hb dX7_layLords_149 (by decide) (fun hc => ?_) (fun hc => ?_)
          · have h := zi_t hc h
            refine lv_iconst (v := 0) hx hb dX7_layLords_179 lc_0 ?_
            refine lv_istore_n (lv' := [(3, .int 0), (0, .ref (za G 0)), (1, .int y1), (2, .int y2)]) hx hb dX7_layLords_180 rfl hl (by decide) rfl (fun ls hl => ?_)
            refine lv_aload_n hx hb dX7_layLords_181 rfl (lv_at hl 1 rfl) ?_
            refine gX7_27 hx hb hC hI q_fl_X7_53 dX7_layLords_182 ?_
            refine lv_iload_n hx hb dX7_layLords_185 rfl (lv_at hl 2 rfl) ?_
            refine lv_iload_n hx hb dX7_layLords_186 rfl (lv_at hl 0 rfl) ?_
            refine lv_if_eq (tgt := 194) hx hb dX7_layLords_187 (by decide) (fun _ => ?_) (fun hc => absurd hc (by decide))
            refine lv_aload_n hx hb dX7_layLords_194 rfl (lv_at hl 1 rfl) ?_
            refine gX7_27 hx hb hC hI q_fl_X7_53 dX7_layLords_195 ?_
            refine lv_iload_n hx hb dX7_layLords_198 rfl (lv_at hl 2 rfl) ?_
            obtain ⟨hg, h⟩ := zg_e h
            refine z_iald hx hb hC hI (vX7_27 G) hg dX7_layLords_199 ?_
            obtain ⟨hg, h⟩ := zg_e h
            refine z_iast hx hb hC hI (vX7_27 G) hg dX7_layLords_200 (fun σ33 H locs e_σ33 hI => ?_)
            have h := zl_e h e_σ33
            obtain ⟨v34, e_v34⟩ : ∃ y : Int32, y = y2 + 1 := ⟨_, rfl⟩
            have h := zl_e h e_v34
            refine lv_iinc (v := v34) (lv' := [(2, .int v34), (3, .int 0), (0, .ref (za G 0)), (1, .int y1)]) hx hb dX7_layLords_201 hl (k := 3) rfl (by rw [lc_1]; exact e_v34.symm) (by decide) rfl (fun ls hl => ?_)
            refine lv_goto (tgt := 126) hx hb dX7_layLords_204 (by decide) ?_
            exact ih y1 v34 σ33 y2o σo h _ _ _ hI (lv_sub hl [2, 3, 0] rfl) kE
          · have h := zi_f hc h
            refine lv_aload_n hx hb dX7_layLords_152 rfl (lv_at hl 0 rfl) ?_
            refine gX7_26 hx hb hC hI q_fl_X7_50 dX7_layLords_153 ?_
            refine lv_iload_n hx hb dX7_layLords_156 rfl (lv_at hl 2 rfl) ?_
            obtain ⟨hg, h⟩ := zg_e h
            refine z_iald hx hb hC hI (vX7_26 G) hg dX7_layLords_157 ?_
            obtain ⟨r36, h35, h⟩ := zb_e h
            refine z_cSi (As := [.int (σ 14 (y2 : Int32).toNatClampNeg)]) (rest := []) hx hb hC (hml.trans hl.1.symm) hI (c_X7_size l G  (σ := σ) h35) yyX7_size q_ml_X7_156 ⟨Nat.le_of_ble_eq_true rfl, Nat.le_of_ble_eq_true rfl⟩ rfl rfl (Nat.le_of_ble_eq_true rfl) ⟨Nat.le_refl _, Nat.le_refl _⟩ dX7_layLords_158 (fun H locs hI => ?_)
            refine lv_aload_n hx hb dX7_layLords_161 rfl (lv_at hl 0 rfl) ?_
            refine gX7_26 hx hb hC hI q_fl_X7_50 dX7_layLords_162 ?_
            refine lv_iload_n hx hb dX7_layLords_165 rfl (lv_at hl 1 rfl) ?_
            obtain ⟨hg, h⟩ := zg_e h
            refine z_iald hx hb hC hI (vX7_26 G) hg dX7_layLords_166 ?_
            obtain ⟨r38, h37, h⟩ := zb_e h
            refine z_cSi (As := [.int (σ 14 (y1 : Int32).toNatClampNeg)]) (rest := [.int r36]) hx hb hC (hml.trans hl.1.symm) hI (c_X7_size l G  (σ := σ) h37) yyX7_size q_ml_X7_156 ⟨Nat.le_of_ble_eq_true rfl, Nat.le_of_ble_eq_true rfl⟩ rfl rfl (Nat.le_of_ble_eq_true rfl) ⟨Nat.le_refl _, Nat.le_refl _⟩ dX7_layLords_167 (fun H locs hI => ?_)
            refine lv_iconst (v := 1) hx hb dX7_layLords_170 lc_1 ?_
            refine lv_isub hx hb dX7_layLords_171 ?_
            refine lv_icmp_ne (tgt := 179) hx hb dX7_layLords_172 (by decide) (fun hc => ?_) (fun hc => ?_)
            · have h := zi_f hc h
              refine lv_iconst (v := 0) hx hb dX7_layLords_179 lc_0 ?_
              refine lv_istore_n (lv' := [(3, .int 0), (0, .ref (za G 0)), (1, .int y1), (2, .int y2)]) hx hb dX7_layLords_180 rfl hl (by decide) rfl (fun ls hl => ?_)
              refine lv_aload_n hx hb dX7_layLords_181 rfl (lv_at hl 1 rfl) ?_
              refine gX7_27 hx hb hC hI q_fl_X7_53 dX7_layLords_182 ?_
              refine lv_iload_n hx hb dX7_layLords_185 rfl (lv_at hl 2 rfl) ?_
              refine lv_iload_n hx hb dX7_layLords_186 rfl (lv_at hl 0 rfl) ?_
              refine lv_if_eq (tgt := 194) hx hb dX7_layLords_187 (by decide) (fun _ => ?_) (fun hc => absurd hc (by decide))
              refine lv_aload_n hx hb dX7_layLords_194 rfl (lv_at hl 1 rfl) ?_
              refine gX7_27 hx hb hC hI q_fl_X7_53 dX7_layLords_195 ?_
              refine lv_iload_n hx hb dX7_layLords_198 rfl (lv_at hl 2 rfl) ?_
              obtain ⟨hg, h⟩ := zg_e h
              refine z_iald hx hb hC hI (vX7_27 G) hg dX7_layLords_199 ?_
              obtain ⟨hg, h⟩ := zg_e h
              refine z_iast hx hb hC hI (vX7_27 G) hg dX7_layLords_200 (fun σ39 H locs e_σ39 hI => ?_)
              have h := zl_e h e_σ39
              obtain ⟨v40, e_v40⟩ : ∃ y : Int32, y = y2 + 1 := ⟨_, rfl⟩
              have h := zl_e h e_v40
              refine lv_iinc (v := v40) (lv' := [(2, .int v40), (3, .int 0), (0, .ref (za G 0)), (1, .int y1)]) hx hb dX7_layLords_201 hl (k := 3) rfl (by rw [lc_1]; exact e_v40.symm) (by decide) rfl (fun ls hl => ?_)
              refine lv_goto (tgt := 126) hx hb dX7_layLords_204 (by decide) ?_
              exact ih y1 v40 σ39 y2o σo h _ _ _ hI (lv_sub hl [2, 3, 0] rfl) kE
            · have h := zi_t hc h
              refine lv_iconst (v := 1) hx hb dX7_layLords_175 lc_1 ?_
              refine lv_goto (tgt := 180) hx hb dX7_layLords_176 (by decide) ?_
              refine lv_istore_n (lv' := [(3, .int 1), (0, .ref (za G 0)), (1, .int y1), (2, .int y2)]) hx hb dX7_layLords_180 rfl hl (by decide) rfl (fun ls hl => ?_)
              refine lv_aload_n hx hb dX7_layLords_181 rfl (lv_at hl 1 rfl) ?_
              refine gX7_27 hx hb hC hI q_fl_X7_53 dX7_layLords_182 ?_
              refine lv_iload_n hx hb dX7_layLords_185 rfl (lv_at hl 2 rfl) ?_
              refine lv_iload_n hx hb dX7_layLords_186 rfl (lv_at hl 0 rfl) ?_
              refine lv_if_eq (tgt := 194) hx hb dX7_layLords_187 (by decide) (fun hc => absurd hc (by decide)) (fun _ => ?_)
              refine lv_iload_n hx hb dX7_layLords_190 rfl (lv_at hl 3 rfl) ?_
              refine lv_goto (tgt := 200) hx hb dX7_layLords_191 (by decide) ?_
              obtain ⟨hg, h⟩ := zg_e h
              refine z_iast hx hb hC hI (vX7_27 G) hg dX7_layLords_200 (fun σ41 H locs e_σ41 hI => ?_)
              have h := zl_e h e_σ41
              obtain ⟨v42, e_v42⟩ : ∃ y : Int32, y = y2 + 1 := ⟨_, rfl⟩
              have h := zl_e h e_v42
              refine lv_iinc (v := v42) (lv' := [(2, .int v42), (3, .int 1), (0, .ref (za G 0)), (1, .int y1)]) hx hb dX7_layLords_201 hl (k := 3) rfl (by rw [lc_1]; exact e_v42.symm) (by decide) rfl (fun ls hl => ?_)
              refine lv_goto (tgt := 126) hx hb dX7_layLords_204 (by decide) ?_
              exact ih y1 v42 σ41 y2o σo h _ _ _ hI (lv_sub hl [2, 3, 0] rfl) kE
  have w_116 : ∀ (n : Nat) (y1 : Int32) (σ : SF) (y1o : Int32) (σo : SF), L_X7_layLords_116 n y1 σ = some (y1o, σo) → ∀ (H : Heap) (locs : List Loc) (ls : Array Slot), zI WM G s σ H locs → lv_has ls 4 [(0, .ref (za G 0)), (1, .int y1)] → (∀ (H : Heap) (locs : List Loc) (ls : Array Slot), zI WM G s σo H locs → lv_has ls 4 [(0, .ref (za G 0)), (1, .int y1o)] → W p l e (zR 4) s m args below meth c H locs 0 0 Q (F0 m 213 ls [])) → W p l e (zR 4) s m args below meth c H locs 0 0 Q (F0 m 116 ls []) := by
    intro n
    induction n with
    | zero => intro y1 σ y1o σo h; cases h
    | succ n ih =>
      intro y1 σ y1o σo h H locs ls hI hl kE
      unfold L_X7_layLords_116 at h
      refine lv_iload_n hx hb dX7_layLords_116 rfl (lv_at hl 1 rfl) ?_
      refine lv_aload_n hx hb dX7_layLords_117 rfl (lv_at hl 0 rfl) ?_
      refine gX7_18 hx hb hC hI q_fl_X7_133 dX7_layLords_118 ?_
      refine lv_icmp_ge (tgt := 213) hx hb dX7_layLords_121 (by decide) (fun hc => ?_) (fun hc => ?_)
      · have h := zi_t hc h
        cases h
        exact kE _ _ _ hI (lv_sub hl [0, 1] rfl)
      · have h := zi_f hc h
        refine lv_iconst (v := 0) hx hb dX7_layLords_124 lc_0 ?_
        refine lv_istore_n (lv' := [(2, .int 0), (0, .ref (za G 0)), (1, .int y1)]) hx hb dX7_layLords_125 rfl hl (by decide) rfl (fun ls hl => ?_)
        obtain ⟨v43, σ44, h45, h⟩ := zb2_e h
        refine w_126 100 y1 0 σ v43 σ44 h45 _ _ _ hI (lv_sub hl [1, 2, 0] rfl) (fun H locs ls hI hl => ?_)
        obtain ⟨v46, e_v46⟩ : ∃ y : Int32, y = y1 + 1 := ⟨_, rfl⟩
        have h := zl_e h e_v46
        refine lv_iinc (v := v46) (lv' := [(1, .int v46), (0, .ref (za G 0)), (2, .int v43)]) hx hb dX7_layLords_207 hl (k := 1) rfl (by rw [lc_1]; exact e_v46.symm) (by decide) rfl (fun ls hl => ?_)
        refine lv_goto (tgt := 116) hx hb dX7_layLords_210 (by decide) ?_
        exact ih v46 σ44 y1o σo h _ _ _ hI (lv_sub hl [1, 0] rfl) kE
  unfold F_X7_layLords at h
  refine lv_iconst (v := 0) hx hb dX7_layLords_0 lc_0 ?_
  refine lv_istore_n (lv' := [(1, .int 0), (0, .ref (za G 0))]) hx hb dX7_layLords_1 rfl hl (by decide) rfl (fun ls hl => ?_)
  obtain ⟨v4, σ5, h6, h⟩ := zb2_e h
  refine w_2 100 0 σ v4 σ5 h6 _ _ _ hI (lv_sub hl [1, 0] rfl) (fun H locs ls hI hl => ?_)
  refine lv_iconst (v := 0) hx hb dX7_layLords_30 lc_0 ?_
  refine lv_istore_n (lv' := [(1, .int 0), (0, .ref (za G 0))]) hx hb dX7_layLords_31 rfl hl (by decide) rfl (fun ls hl => ?_)
  obtain ⟨v26, σ27, h28, h⟩ := zb2_e h
  refine w_32 100 0 σ5 v26 σ27 h28 _ _ _ hI (lv_sub hl [1, 0] rfl) (fun H locs ls hI hl => ?_)
  refine lv_iconst (v := 0) hx hb dX7_layLords_114 lc_0 ?_
  refine lv_istore_n (lv' := [(1, .int 0), (0, .ref (za G 0))]) hx hb dX7_layLords_115 rfl hl (by decide) rfl (fun ls hl => ?_)
  obtain ⟨v47, σ48, h49, h⟩ := zb2_e h
  refine w_116 100 0 σ27 v47 σ48 h49 _ _ _ hI (lv_sub hl [1, 0] rfl) (fun H locs ls hI hl => ?_)
  exact hret (Option.some.inj h) hI dX7_layLords_213
set_option maxRecDepth 100000 in
set_option maxHeartbeats 4000000 in
theorem c_X7_isLive (l : Launch) (G : zG)  {σ : SF} {r : Int32} {x1 : Int32} (h : F_X7_isLive σ  x1 = some r) : zMi l WM G yX7_isLive cX7_isLive 2 .boolean 3 [.ref (za G 0), .int x1] σ r σ := by
  refine zMi_of (by decide) (Nat.le_of_ble_eq_true rfl) (fun p e s m args below meth c ls Q hx hb hr hlk hml hC hI hl hret => ?_)
  have hl : lv_has ls 2 [(0, .ref (za G 0)), (1, .int x1)] := hl
  have hC : zC WM G RX7 args s m := hC
  unfold F_X7_isLive at h
  refine lv_aload_n hx hb dX7_isLive_0 rfl (lv_at hl 0 rfl) ?_
  refine gX7_22 hx hb hC hI q_fl_X7_143 dX7_isLive_1 ?_
  refine lv_iload_n hx hb dX7_isLive_4 rfl (lv_at hl 1 rfl) ?_
  refine lv_iconst (v := 2) hx hb dX7_isLive_5 lc_2 ?_
  refine lv_idiv hx hb dX7_isLive_6 (by decide) ?_
  obtain ⟨r2, h1, h⟩ := zb_e h
  refine z_cSi (As := [.int (σ 0 22), .int (x1 / 2)]) (rest := []) hx hb hC (hml.trans hl.1.symm) hI (c_X7_isIn l G  (σ := σ) h1) yyX7_isIn q_ml_X7_139 ⟨Nat.le_of_ble_eq_true rfl, Nat.le_of_ble_eq_true rfl⟩ rfl rfl (Nat.le_of_ble_eq_true rfl) ⟨Nat.le_refl _, Nat.le_refl _⟩ dX7_isLive_7 (fun H locs hI => ?_)
  refine lv_if_eq (tgt := 25) hx hb dX7_isLive_10 (by decide) (fun hc => ?_) (fun hc => ?_)
  · have h := zi_t hc h
    refine lv_iconst (v := 0) hx hb dX7_isLive_25 lc_0 ?_
    exact hret ⟨(Option.some.inj h), rfl⟩ hI rfl dX7_isLive_26
  · have h := zi_f hc h
    refine lv_aload_n hx hb dX7_isLive_13 rfl (lv_at hl 0 rfl) ?_
    refine lv_iload_n hx hb dX7_isLive_14 rfl (lv_at hl 1 rfl) ?_
    obtain ⟨r4, h3, h⟩ := zb_e h
    refine z_cVi (As := [.int x1]) (rest := []) hx hb hC (hml.trans hl.1.symm) hI (c_X7_isEdge l G  h3) yyX7_isEdge q_ml_X7_146 (oX7 G) rfl ⟨Nat.le_of_ble_eq_true rfl, Nat.le_of_ble_eq_true rfl⟩ rfl rfl (Nat.le_of_ble_eq_true rfl) ⟨Nat.le_refl _, Nat.le_refl _⟩ dX7_isLive_15 (fun H locs hI => ?_)
    refine lv_if_eq (tgt := 25) hx hb dX7_isLive_18 (by decide) (fun hc => ?_) (fun hc => ?_)
    · have h := zi_t hc h
      refine lv_iconst (v := 0) hx hb dX7_isLive_25 lc_0 ?_
      exact hret ⟨(Option.some.inj h), rfl⟩ hI rfl dX7_isLive_26
    · have h := zi_f hc h
      refine lv_iconst (v := 1) hx hb dX7_isLive_21 lc_1 ?_
      refine lv_goto (tgt := 26) hx hb dX7_isLive_22 (by decide) ?_
      exact hret ⟨(Option.some.inj h), rfl⟩ hI rfl dX7_isLive_26
set_option maxRecDepth 100000 in
set_option maxHeartbeats 4000000 in
theorem c_X7_retreats (l : Launch) (G : zG)  {σ : SF} {r : Int32} {x1 : Int32} (h : F_X7_retreats σ  x1 = some r) : zMi l WM G yX7_retreats cX7_retreats 2 .boolean 1 [.ref (za G 0), .int x1] σ r σ := by
  refine zMi_of (by decide) (Nat.le_of_ble_eq_true rfl) (fun p e s m args below meth c ls Q hx hb hr hlk hml hC hI hl hret => ?_)
  have hl : lv_has ls 2 [(0, .ref (za G 0)), (1, .int x1)] := hl
  have hC : zC WM G RX7 args s m := hC
  unfold F_X7_retreats at h
  refine lv_aload_n hx hb dX7_retreats_0 rfl (lv_at hl 0 rfl) ?_
  refine gX7_25 hx hb hC hI q_fl_X7_47 dX7_retreats_1 ?_
  refine lv_aload_n hx hb dX7_retreats_4 rfl (lv_at hl 0 rfl) ?_
  refine gX7_21 hx hb hC hI q_fl_X7_41 dX7_retreats_5 ?_
  refine lv_iload_n hx hb dX7_retreats_8 rfl (lv_at hl 1 rfl) ?_
  obtain ⟨hg, h⟩ := zg_e h
  refine z_iald hx hb hC hI (vX7_21 G) hg dX7_retreats_9 ?_
  refine lv_topi (fun v1 e_v1 => ?_)
  have h := zl_e h e_v1
  obtain ⟨hg, h⟩ := zg_e h
  refine z_iald hx hb hC hI (vX7_25 G) hg dX7_retreats_10 ?_
  refine lv_aload_n hx hb dX7_retreats_11 rfl (lv_at hl 0 rfl) ?_
  refine gX7_25 hx hb hC hI q_fl_X7_47 dX7_retreats_12 ?_
  refine lv_iload_n hx hb dX7_retreats_15 rfl (lv_at hl 1 rfl) ?_
  refine lv_iconst (v := 2) hx hb dX7_retreats_16 lc_2 ?_
  refine lv_idiv hx hb dX7_retreats_17 (by decide) ?_
  refine lv_topi (fun v2 e_v2 => ?_)
  have h := zl_e h e_v2
  obtain ⟨hg, h⟩ := zg_e h
  refine z_iald hx hb hC hI (vX7_25 G) hg dX7_retreats_18 ?_
  refine lv_icmp_gt (tgt := 26) hx hb dX7_retreats_19 (by decide) (fun hc => ?_) (fun hc => ?_)
  · have h := zi_t hc h
    refine lv_iconst (v := 0) hx hb dX7_retreats_26 lc_0 ?_
    exact hret ⟨(Option.some.inj h), rfl⟩ hI rfl dX7_retreats_27
  · have h := zi_f hc h
    refine lv_iconst (v := 1) hx hb dX7_retreats_22 lc_1 ?_
    refine lv_goto (tgt := 27) hx hb dX7_retreats_23 (by decide) ?_
    exact hret ⟨(Option.some.inj h), rfl⟩ hI rfl dX7_retreats_27
set_option maxRecDepth 100000 in
set_option maxHeartbeats 4000000 in
theorem c_X7_isBack (l : Launch) (G : zG)  {σ : SF} {r : Int32} {x1 : Int32} (h : F_X7_isBack σ  x1 = some r) : zMi l WM G yX7_isBack cX7_isBack 2 .boolean 2 [.ref (za G 0), .int x1] σ r σ := by
  refine zMi_of (by decide) (Nat.le_of_ble_eq_true rfl) (fun p e s m args below meth c ls Q hx hb hr hlk hml hC hI hl hret => ?_)
  have hl : lv_has ls 2 [(0, .ref (za G 0)), (1, .int x1)] := hl
  have hC : zC WM G RX7 args s m := hC
  unfold F_X7_isBack at h
  refine lv_aload_n hx hb dX7_isBack_0 rfl (lv_at hl 0 rfl) ?_
  refine gX7_26 hx hb hC hI q_fl_X7_50 dX7_isBack_1 ?_
  refine lv_iload_n hx hb dX7_isBack_4 rfl (lv_at hl 1 rfl) ?_
  refine lv_iconst (v := 2) hx hb dX7_isBack_5 lc_2 ?_
  refine lv_idiv hx hb dX7_isBack_6 (by decide) ?_
  refine lv_topi (fun v1 e_v1 => ?_)
  have h := zl_e h e_v1
  obtain ⟨hg, h⟩ := zg_e h
  refine z_iald hx hb hC hI (vX7_26 G) hg dX7_isBack_7 ?_
  refine lv_aload_n hx hb dX7_isBack_8 rfl (lv_at hl 0 rfl) ?_
  refine gX7_21 hx hb hC hI q_fl_X7_41 dX7_isBack_9 ?_
  refine lv_iload_n hx hb dX7_isBack_12 rfl (lv_at hl 1 rfl) ?_
  obtain ⟨hg, h⟩ := zg_e h
  refine z_iald hx hb hC hI (vX7_21 G) hg dX7_isBack_13 ?_
  obtain ⟨r3, h2, h⟩ := zb_e h
  refine z_cSi (As := [.int (σ 14 (v1 : Int32).toNatClampNeg), .int (σ 11 (x1 : Int32).toNatClampNeg)]) (rest := []) hx hb hC (hml.trans hl.1.symm) hI (c_X7_isIn l G  (σ := σ) h2) yyX7_isIn q_ml_X7_139 ⟨Nat.le_of_ble_eq_true rfl, Nat.le_of_ble_eq_true rfl⟩ rfl rfl (Nat.le_of_ble_eq_true rfl) ⟨Nat.le_refl _, Nat.le_refl _⟩ dX7_isBack_14 (fun H locs hI => ?_)
  obtain ⟨hg, h⟩ := zg_e h
  exact hret ⟨(Option.some.inj h), rfl⟩ hI (zbl_p hg) dX7_isBack_17
set_option maxRecDepth 100000 in
set_option maxHeartbeats 4000000 in
theorem c_X7_layEdges (l : Launch) (G : zG)  {σ σ' : SF} (h : F_X7_layEdges σ   = some σ') : zMv l WM G yX7_layEdges cX7_layEdges 4 4 [.ref (za G 0)] σ σ' := by
  refine zMv_of (by decide) (Nat.le_of_ble_eq_true rfl) (fun p e s m args below meth c ls Q hx hb hr hlk hml hC hI hl hret => ?_)
  have hl : lv_has ls 4 [(0, .ref (za G 0))] := hl
  have hC : zC WM G RX7 args s m := hC
  have w_29 : ∀ (n : Nat) (y1 : Int32) (y2 : Int32) (σ : SF) (y1o : Int32) (y2o : Int32) (σo : SF), L_X7_layEdges_29 n y1 y2 σ = some (y1o, y2o, σo) → ∀ (H : Heap) (locs : List Loc) (ls : Array Slot), zI WM G s σ H locs → lv_has ls 4 [(0, .ref (za G 0)), (1, .int y1), (2, .int y2)] → (∀ (H : Heap) (locs : List Loc) (ls : Array Slot), zI WM G s σo H locs → lv_has ls 4 [(0, .ref (za G 0)), (1, .int y1o), (2, .int y2o)] → W p l e (zR 4) s m args below meth c H locs 0 0 Q (F0 m 159 ls [])) → W p l e (zR 4) s m args below meth c H locs 0 0 Q (F0 m 29 ls []) := by
    intro n
    induction n with
    | zero => intro y1 y2 σ y1o y2o σo h; cases h
    | succ n ih =>
      intro y1 y2 σ y1o y2o σo h H locs ls hI hl kE
      unfold L_X7_layEdges_29 at h
      refine lv_iload_n hx hb dX7_layEdges_29 rfl (lv_at hl 2 rfl) ?_
      refine lv_iconst (v := 2) hx hb dX7_layEdges_30 lc_2 ?_
      refine lv_aload_n hx hb dX7_layEdges_31 rfl (lv_at hl 0 rfl) ?_
      refine gX7_18 hx hb hC hI q_fl_X7_133 dX7_layEdges_32 ?_
      refine lv_imul hx hb dX7_layEdges_35 ?_
      refine lv_icmp_ge (tgt := 159) hx hb dX7_layEdges_36 (by decide) (fun hc => ?_) (fun hc => ?_)
      · have h := zi_t hc h
        cases h
        exact kE _ _ _ hI (lv_sub hl [0, 1, 2] rfl)
      · have h := zi_f hc h
        refine lv_aload_n hx hb dX7_layEdges_39 rfl (lv_at hl 0 rfl) ?_
        refine lv_iload_n hx hb dX7_layEdges_40 rfl (lv_at hl 2 rfl) ?_
        obtain ⟨r7, h6, h⟩ := zb_e h
        refine z_cVi (As := [.int y2]) (rest := []) hx hb hC (hml.trans hl.1.symm) hI (c_X7_isLive l G  h6) yyX7_isLive q_ml_X7_174 (oX7 G) rfl ⟨Nat.le_of_ble_eq_true rfl, Nat.le_of_ble_eq_true rfl⟩ rfl rfl (Nat.le_of_ble_eq_true rfl) ⟨Nat.le_refl _, Nat.le_refl _⟩ dX7_layEdges_41 (fun H locs hI => ?_)
        refine lv_if_eq (tgt := 153) hx hb dX7_layEdges_44 (by decide) (fun hc => ?_) (fun hc => ?_)
        · have h := zi_t hc h
          obtain ⟨v8, e_v8⟩ : ∃ y : Int32, y = y2 + 1 := ⟨_, rfl⟩
          have h := zl_e h e_v8
          refine lv_iinc (v := v8) (lv' := [(2, .int v8), (0, .ref (za G 0)), (1, .int y1)]) hx hb dX7_layEdges_153 hl (k := 2) rfl (by rw [lc_1]; exact e_v8.symm) (by decide) rfl (fun ls hl => ?_)
          refine lv_goto (tgt := 29) hx hb dX7_layEdges_156 (by decide) ?_
          exact ih y1 v8 σ y1o y2o σo h _ _ _ hI (lv_sub hl [1, 2, 0] rfl) kE
        · have h := zi_f hc h
          refine lv_aload_n hx hb dX7_layEdges_47 rfl (lv_at hl 0 rfl) ?_
          refine gX7_21 hx hb hC hI q_fl_X7_41 dX7_layEdges_48 ?_
          refine lv_iload_n hx hb dX7_layEdges_51 rfl (lv_at hl 2 rfl) ?_
          obtain ⟨hg, h⟩ := zg_e h
          refine z_iald hx hb hC hI (vX7_21 G) hg dX7_layEdges_52 ?_
          refine lv_topi (fun v9 e_v9 => ?_)
          have h := zl_e h e_v9
          refine lv_istore_n (lv' := [(3, .int v9), (0, .ref (za G 0)), (1, .int y1), (2, .int y2)]) hx hb dX7_layEdges_53 rfl hl (by decide) rfl (fun ls hl => ?_)
          refine lv_aload_n hx hb dX7_layEdges_54 rfl (lv_at hl 1 rfl) ?_
          refine lv_dup hx hb dX7_layEdges_55 rfl ?_
          refine gX7_28 hx hb hC hI q_fl_X7_159 dX7_layEdges_56 ?_
          refine lv_iconst (v := 1) hx hb dX7_layEdges_59 lc_1 ?_
          refine lv_iadd hx hb dX7_layEdges_60 ?_
          refine pX7_28 hx hb hC hI q_fl_X7_159 dX7_layEdges_61 (fun σ10 H locs e_σ10 hI => ?_)
          have h := zl_e h e_σ10
          refine lv_aload_n hx hb dX7_layEdges_64 rfl (lv_at hl 1 rfl) ?_
          refine lv_iload_n hx hb dX7_layEdges_65 rfl (lv_at hl 3 rfl) ?_
          obtain ⟨r12, h11, h⟩ := zb_e h
          refine z_cVi (As := [.int y2]) (rest := []) hx hb hC (hml.trans hl.1.symm) hI (c_X7_isBack l G  h11) yyX7_isBack q_ml_X7_177 (oX7 G) rfl ⟨Nat.le_of_ble_eq_true rfl, Nat.le_of_ble_eq_true rfl⟩ rfl rfl (Nat.le_of_ble_eq_true rfl) ⟨Nat.le_refl _, Nat.le_refl _⟩ dX7_layEdges_66 (fun H locs hI => ?_)
          refine lv_if_eq (tgt := 97) hx hb dX7_layEdges_69 (by decide) (fun hc => ?_) (fun hc => ?_)
          · have h := zi_t hc h
            refine lv_aload_n hx hb dX7_layEdges_97 rfl (lv_at hl 1 rfl) ?_
            refine lv_iload_n hx hb dX7_layEdges_98 rfl (lv_at hl 3 rfl) ?_
            obtain ⟨r14, h13, h⟩ := zb_e h
            refine z_cVi (As := [.int y2]) (rest := []) hx hb hC (hml.trans hl.1.symm) hI (c_X7_retreats l G  h13) yyX7_retreats q_ml_X7_180 (oX7 G) rfl ⟨Nat.le_of_ble_eq_true rfl, Nat.le_of_ble_eq_true rfl⟩ rfl rfl (Nat.le_of_ble_eq_true rfl) ⟨Nat.le_refl _, Nat.le_refl _⟩ dX7_layEdges_99 (fun H locs hI => ?_)
            refine lv_if_eq (tgt := 115) hx hb dX7_layEdges_102 (by decide) (fun hc => ?_) (fun hc => ?_)
            · have h := zi_t hc h
              refine lv_aload_n hx hb dX7_layEdges_115 rfl (lv_at hl 1 rfl) ?_
              refine lv_iload_n hx hb dX7_layEdges_116 rfl (lv_at hl 3 rfl) ?_
              obtain ⟨r16, h15, h⟩ := zb_e h
              refine z_cVi (As := [.int y2]) (rest := []) hx hb hC (hml.trans hl.1.symm) hI (c_X7_retreats l G  h15) yyX7_retreats q_ml_X7_180 (oX7 G) rfl ⟨Nat.le_of_ble_eq_true rfl, Nat.le_of_ble_eq_true rfl⟩ rfl rfl (Nat.le_of_ble_eq_true rfl) ⟨Nat.le_refl _, Nat.le_refl _⟩ dX7_layEdges_117 (fun H locs hI => ?_)
              refine lv_if_ne (tgt := 153) hx hb dX7_layEdges_120 (by decide) (fun hc => ?_) (fun hc => ?_)
              · have h := zi_f hc h
                obtain ⟨v17, e_v17⟩ : ∃ y : Int32, y = y2 + 1 := ⟨_, rfl⟩
                have h := zl_e h e_v17
                refine lv_iinc (v := v17) (lv' := [(2, .int v17), (3, .int v9), (0, .ref (za G 0)), (1, .int y1)]) hx hb dX7_layEdges_153 hl (k := 3) rfl (by rw [lc_1]; exact e_v17.symm) (by decide) rfl (fun ls hl => ?_)
                refine lv_goto (tgt := 29) hx hb dX7_layEdges_156 (by decide) ?_
                exact ih y1 v17 σ10 y1o y2o σo h _ _ _ hI (lv_sub hl [2, 3, 0] rfl) kE
              · have h := zi_t hc h
                refine lv_aload_n hx hb dX7_layEdges_123 rfl (lv_at hl 1 rfl) ?_
                refine lv_dup hx hb dX7_layEdges_124 rfl ?_
                refine gX7_32 hx hb hC hI q_fl_X7_171 dX7_layEdges_125 ?_
                refine lv_iload_n hx hb dX7_layEdges_128 rfl (lv_at hl 2 rfl) ?_
                refine lv_iload_n hx hb dX7_layEdges_129 rfl (lv_at hl 0 rfl) ?_
                obtain ⟨r19, h18, h⟩ := zb_e h
                refine z_cSi (As := [.int y1, .int v9]) (rest := [.int (σ10 0 32), .ref (za G 0)]) hx hb hC (hml.trans hl.1.symm) hI (c_X7_isIn l G  (σ := σ10) h18) yyX7_isIn q_ml_X7_139 ⟨Nat.le_of_ble_eq_true rfl, Nat.le_of_ble_eq_true rfl⟩ rfl rfl (Nat.le_of_ble_eq_true rfl) ⟨Nat.le_refl _, Nat.le_refl _⟩ dX7_layEdges_130 (fun H locs hI => ?_)
                refine lv_if_eq (tgt := 142) hx hb dX7_layEdges_133 (by decide) (fun hc => ?_) (fun hc => ?_)
                · have h := zi_t hc h
                  refine lv_iconst (v := 0) hx hb dX7_layEdges_142 lc_0 ?_
                  refine lv_ior hx hb dX7_layEdges_143 ?_
                  refine pX7_32 hx hb hC hI q_fl_X7_171 dX7_layEdges_144 (fun σ20 H locs e_σ20 hI => ?_)
                  have h := zl_e h e_σ20
                  refine lv_iload_n hx hb dX7_layEdges_147 rfl (lv_at hl 2 rfl) ?_
                  refine lv_iconst (v := 1) hx hb dX7_layEdges_148 lc_1 ?_
                  refine lv_iload_n hx hb dX7_layEdges_149 rfl (lv_at hl 0 rfl) ?_
                  refine lv_ishl hx hb dX7_layEdges_150 ?_
                  refine lv_ior hx hb dX7_layEdges_151 ?_
                  refine lv_topi (fun v21 e_v21 => ?_)
                  have h := zl_e h e_v21
                  refine lv_istore_n (lv' := [(1, .int v21), (3, .int v9), (0, .ref (za G 0)), (2, .int y2)]) hx hb dX7_layEdges_152 rfl hl (by decide) rfl (fun ls hl => ?_)
                  obtain ⟨v22, e_v22⟩ : ∃ y : Int32, y = y2 + 1 := ⟨_, rfl⟩
                  have h := zl_e h e_v22
                  refine lv_iinc (v := v22) (lv' := [(2, .int v22), (1, .int v21), (3, .int v9), (0, .ref (za G 0))]) hx hb dX7_layEdges_153 hl (k := 3) rfl (by rw [lc_1]; exact e_v22.symm) (by decide) rfl (fun ls hl => ?_)
                  refine lv_goto (tgt := 29) hx hb dX7_layEdges_156 (by decide) ?_
                  exact ih v21 v22 σ20 y1o y2o σo h _ _ _ hI (lv_sub hl [3, 1, 0] rfl) kE
                · have h := zi_f hc h
                  refine lv_iconst (v := 1) hx hb dX7_layEdges_136 lc_1 ?_
                  refine lv_iload_n hx hb dX7_layEdges_137 rfl (lv_at hl 0 rfl) ?_
                  refine lv_ishl hx hb dX7_layEdges_138 ?_
                  refine lv_goto (tgt := 143) hx hb dX7_layEdges_139 (by decide) ?_
                  refine lv_ior hx hb dX7_layEdges_143 ?_
                  refine pX7_32 hx hb hC hI q_fl_X7_171 dX7_layEdges_144 (fun σ23 H locs e_σ23 hI => ?_)
                  have h := zl_e h e_σ23
                  refine lv_iload_n hx hb dX7_layEdges_147 rfl (lv_at hl 2 rfl) ?_
                  refine lv_iconst (v := 1) hx hb dX7_layEdges_148 lc_1 ?_
                  refine lv_iload_n hx hb dX7_layEdges_149 rfl (lv_at hl 0 rfl) ?_
                  refine lv_ishl hx hb dX7_layEdges_150 ?_
                  refine lv_ior hx hb dX7_layEdges_151 ?_
                  refine lv_topi (fun v24 e_v24 => ?_)
                  have h := zl_e h e_v24
                  refine lv_istore_n (lv' := [(1, .int v24), (3, .int v9), (0, .ref (za G 0)), (2, .int y2)]) hx hb dX7_layEdges_152 rfl hl (by decide) rfl (fun ls hl => ?_)
                  obtain ⟨v25, e_v25⟩ : ∃ y : Int32, y = y2 + 1 := ⟨_, rfl⟩
                  have h := zl_e h e_v25
                  refine lv_iinc (v := v25) (lv' := [(2, .int v25), (1, .int v24), (3, .int v9), (0, .ref (za G 0))]) hx hb dX7_layEdges_153 hl (k := 3) rfl (by rw [lc_1]; exact e_v25.symm) (by decide) rfl (fun ls hl => ?_)
                  refine lv_goto (tgt := 29) hx hb dX7_layEdges_156 (by decide) ?_
                  exact ih v24 v25 σ23 y1o y2o σo h _ _ _ hI (lv_sub hl [3, 1, 0] rfl) kE
            · have h := zi_f hc h
              refine lv_aload_n hx hb dX7_layEdges_105 rfl (lv_at hl 1 rfl) ?_
              refine lv_dup hx hb dX7_layEdges_106 rfl ?_
              refine gX7_30 hx hb hC hI q_fl_X7_165 dX7_layEdges_107 ?_
              refine lv_iconst (v := 1) hx hb dX7_layEdges_110 lc_1 ?_
              refine lv_iadd hx hb dX7_layEdges_111 ?_
              refine pX7_30 hx hb hC hI q_fl_X7_165 dX7_layEdges_112 (fun σ26 H locs e_σ26 hI => ?_)
              have h := zl_e h e_σ26
              refine lv_aload_n hx hb dX7_layEdges_115 rfl (lv_at hl 1 rfl) ?_
              refine lv_iload_n hx hb dX7_layEdges_116 rfl (lv_at hl 3 rfl) ?_
              obtain ⟨r28, h27, h⟩ := zb_e h
              refine z_cVi (As := [.int y2]) (rest := []) hx hb hC (hml.trans hl.1.symm) hI (c_X7_retreats l G  h27) yyX7_retreats q_ml_X7_180 (oX7 G) rfl ⟨Nat.le_of_ble_eq_true rfl, Nat.le_of_ble_eq_true rfl⟩ rfl rfl (Nat.le_of_ble_eq_true rfl) ⟨Nat.le_refl _, Nat.le_refl _⟩ dX7_layEdges_117 (fun H locs hI => ?_)
              refine lv_if_ne (tgt := 153) hx hb dX7_layEdges_120 (by decide) (fun hc => ?_) (fun hc => ?_)
              · have h := zi_f hc h
                obtain ⟨v29, e_v29⟩ : ∃ y : Int32, y = y2 + 1 := ⟨_, rfl⟩
                have h := zl_e h e_v29
                refine lv_iinc (v := v29) (lv' := [(2, .int v29), (3, .int v9), (0, .ref (za G 0)), (1, .int y1)]) hx hb dX7_layEdges_153 hl (k := 3) rfl (by rw [lc_1]; exact e_v29.symm) (by decide) rfl (fun ls hl => ?_)
                refine lv_goto (tgt := 29) hx hb dX7_layEdges_156 (by decide) ?_
                exact ih y1 v29 σ26 y1o y2o σo h _ _ _ hI (lv_sub hl [2, 3, 0] rfl) kE
              · have h := zi_t hc h
                refine lv_aload_n hx hb dX7_layEdges_123 rfl (lv_at hl 1 rfl) ?_
                refine lv_dup hx hb dX7_layEdges_124 rfl ?_
                refine gX7_32 hx hb hC hI q_fl_X7_171 dX7_layEdges_125 ?_
                refine lv_iload_n hx hb dX7_layEdges_128 rfl (lv_at hl 2 rfl) ?_
                refine lv_iload_n hx hb dX7_layEdges_129 rfl (lv_at hl 0 rfl) ?_
                obtain ⟨r31, h30, h⟩ := zb_e h
                refine z_cSi (As := [.int y1, .int v9]) (rest := [.int (σ26 0 32), .ref (za G 0)]) hx hb hC (hml.trans hl.1.symm) hI (c_X7_isIn l G  (σ := σ26) h30) yyX7_isIn q_ml_X7_139 ⟨Nat.le_of_ble_eq_true rfl, Nat.le_of_ble_eq_true rfl⟩ rfl rfl (Nat.le_of_ble_eq_true rfl) ⟨Nat.le_refl _, Nat.le_refl _⟩ dX7_layEdges_130 (fun H locs hI => ?_)
                refine lv_if_eq (tgt := 142) hx hb dX7_layEdges_133 (by decide) (fun hc => ?_) (fun hc => ?_)
                · have h := zi_t hc h
                  refine lv_iconst (v := 0) hx hb dX7_layEdges_142 lc_0 ?_
                  refine lv_ior hx hb dX7_layEdges_143 ?_
                  refine pX7_32 hx hb hC hI q_fl_X7_171 dX7_layEdges_144 (fun σ32 H locs e_σ32 hI => ?_)
                  have h := zl_e h e_σ32
                  refine lv_iload_n hx hb dX7_layEdges_147 rfl (lv_at hl 2 rfl) ?_
                  refine lv_iconst (v := 1) hx hb dX7_layEdges_148 lc_1 ?_
                  refine lv_iload_n hx hb dX7_layEdges_149 rfl (lv_at hl 0 rfl) ?_
                  refine lv_ishl hx hb dX7_layEdges_150 ?_
                  refine lv_ior hx hb dX7_layEdges_151 ?_
                  refine lv_topi (fun v33 e_v33 => ?_)
                  have h := zl_e h e_v33
                  refine lv_istore_n (lv' := [(1, .int v33), (3, .int v9), (0, .ref (za G 0)), (2, .int y2)]) hx hb dX7_layEdges_152 rfl hl (by decide) rfl (fun ls hl => ?_)
                  obtain ⟨v34, e_v34⟩ : ∃ y : Int32, y = y2 + 1 := ⟨_, rfl⟩
                  have h := zl_e h e_v34
                  refine lv_iinc (v := v34) (lv' := [(2, .int v34), (1, .int v33), (3, .int v9), (0, .ref (za G 0))]) hx hb dX7_layEdges_153 hl (k := 3) rfl (by rw [lc_1]; exact e_v34.symm) (by decide) rfl (fun ls hl => ?_)
                  refine lv_goto (tgt := 29) hx hb dX7_layEdges_156 (by decide) ?_
                  exact ih v33 v34 σ32 y1o y2o σo h _ _ _ hI (lv_sub hl [3, 1, 0] rfl) kE
                · have h := zi_f hc h
                  refine lv_iconst (v := 1) hx hb dX7_layEdges_136 lc_1 ?_
                  refine lv_iload_n hx hb dX7_layEdges_137 rfl (lv_at hl 0 rfl) ?_
                  refine lv_ishl hx hb dX7_layEdges_138 ?_
                  refine lv_goto (tgt := 143) hx hb dX7_layEdges_139 (by decide) ?_
                  refine lv_ior hx hb dX7_layEdges_143 ?_
                  refine pX7_32 hx hb hC hI q_fl_X7_171 dX7_layEdges_144 (fun σ35 H locs e_σ35 hI => ?_)
                  have h := zl_e h e_σ35
                  refine lv_iload_n hx hb dX7_layEdges_147 rfl (lv_at hl 2 rfl) ?_
                  refine lv_iconst (v := 1) hx hb dX7_layEdges_148 lc_1 ?_
                  refine lv_iload_n hx hb dX7_layEdges_149 rfl (lv_at hl 0 rfl) ?_
                  refine lv_ishl hx hb dX7_layEdges_150 ?_
                  refine lv_ior hx hb dX7_layEdges_151 ?_
                  refine lv_topi (fun v36 e_v36 => ?_)
                  have h := zl_e h e_v36
                  refine lv_istore_n (lv' := [(1, .int v36), (3, .int v9), (0, .ref (za G 0)), (2, .int y2)]) hx hb dX7_layEdges_152 rfl hl (by decide) rfl (fun ls hl => ?_)
                  obtain ⟨v37, e_v37⟩ : ∃ y : Int32, y = y2 + 1 := ⟨_, rfl⟩
                  have h := zl_e h e_v37
                  refine lv_iinc (v := v37) (lv' := [(2, .int v37), (1, .int v36), (3, .int v9), (0, .ref (za G 0))]) hx hb dX7_layEdges_153 hl (k := 3) rfl (by rw [lc_1]; exact e_v37.symm) (by decide) rfl (fun ls hl => ?_)
                  refine lv_goto (tgt := 29) hx hb dX7_layEdges_156 (by decide) ?_
                  exact ih v36 v37 σ35 y1o y2o σo h _ _ _ hI (lv_sub hl [3, 1, 0] rfl) kE
          · have h := zi_f hc h
            refine lv_aload_n hx hb dX7_layEdges_72 rfl (lv_at hl 1 rfl) ?_
            refine lv_dup hx hb dX7_layEdges_73 rfl ?_
            refine gX7_29 hx hb hC hI q_fl_X7_162 dX7_layEdges_74 ?_
            refine lv_iconst (v := 1) hx hb dX7_layEdges_77 lc_1 ?_
            refine lv_iadd hx hb dX7_layEdges_78 ?_
            refine pX7_29 hx hb hC hI q_fl_X7_162 dX7_layEdges_79 (fun σ38 H locs e_σ38 hI => ?_)
            have h := zl_e h e_σ38
            refine lv_aload_n hx hb dX7_layEdges_82 rfl (lv_at hl 1 rfl) ?_
            refine lv_dup hx hb dX7_layEdges_83 rfl ?_
            refine gX7_31 hx hb hC hI q_fl_X7_168 dX7_layEdges_84 ?_
            refine lv_iconst (v := 1) hx hb dX7_layEdges_87 lc_1 ?_
            refine lv_iload_n hx hb dX7_layEdges_88 rfl (lv_at hl 0 rfl) ?_
            refine lv_ishl hx hb dX7_layEdges_89 ?_
            refine lv_ior hx hb dX7_layEdges_90 ?_
            refine pX7_31 hx hb hC hI q_fl_X7_168 dX7_layEdges_91 (fun σ39 H locs e_σ39 hI => ?_)
            have h := zl_e h e_σ39
            refine lv_goto (tgt := 115) hx hb dX7_layEdges_94 (by decide) ?_
            refine lv_aload_n hx hb dX7_layEdges_115 rfl (lv_at hl 1 rfl) ?_
            refine lv_iload_n hx hb dX7_layEdges_116 rfl (lv_at hl 3 rfl) ?_
            obtain ⟨r41, h40, h⟩ := zb_e h
            refine z_cVi (As := [.int y2]) (rest := []) hx hb hC (hml.trans hl.1.symm) hI (c_X7_retreats l G  h40) yyX7_retreats q_ml_X7_180 (oX7 G) rfl ⟨Nat.le_of_ble_eq_true rfl, Nat.le_of_ble_eq_true rfl⟩ rfl rfl (Nat.le_of_ble_eq_true rfl) ⟨Nat.le_refl _, Nat.le_refl _⟩ dX7_layEdges_117 (fun H locs hI => ?_)
            refine lv_if_ne (tgt := 153) hx hb dX7_layEdges_120 (by decide) (fun hc => ?_) (fun hc => ?_)
            · have h := zi_f hc h
              obtain ⟨v42, e_v42⟩ : ∃ y : Int32, y = y2 + 1 := ⟨_, rfl⟩
              have h := zl_e h e_v42
              refine lv_iinc (v := v42) (lv' := [(2, .int v42), (3, .int v9), (0, .ref (za G 0)), (1, .int y1)]) hx hb dX7_layEdges_153 hl (k := 3) rfl (by rw [lc_1]; exact e_v42.symm) (by decide) rfl (fun ls hl => ?_)
              refine lv_goto (tgt := 29) hx hb dX7_layEdges_156 (by decide) ?_
              exact ih y1 v42 σ39 y1o y2o σo h _ _ _ hI (lv_sub hl [2, 3, 0] rfl) kE
            · have h := zi_t hc h
              refine lv_aload_n hx hb dX7_layEdges_123 rfl (lv_at hl 1 rfl) ?_
              refine lv_dup hx hb dX7_layEdges_124 rfl ?_
              refine gX7_32 hx hb hC hI q_fl_X7_171 dX7_layEdges_125 ?_
              refine lv_iload_n hx hb dX7_layEdges_128 rfl (lv_at hl 2 rfl) ?_
              refine lv_iload_n hx hb dX7_layEdges_129 rfl (lv_at hl 0 rfl) ?_
              obtain ⟨r44, h43, h⟩ := zb_e h
              refine z_cSi (As := [.int y1, .int v9]) (rest := [.int (σ39 0 32), .ref (za G 0)]) hx hb hC (hml.trans hl.1.symm) hI (c_X7_isIn l G  (σ := σ39) h43) yyX7_isIn q_ml_X7_139 ⟨Nat.le_of_ble_eq_true rfl, Nat.le_of_ble_eq_true rfl⟩ rfl rfl (Nat.le_of_ble_eq_true rfl) ⟨Nat.le_refl _, Nat.le_refl _⟩ dX7_layEdges_130 (fun H locs hI => ?_)
              refine lv_if_eq (tgt := 142) hx hb dX7_layEdges_133 (by decide) (fun hc => ?_) (fun hc => ?_)
              · have h := zi_t hc h
                refine lv_iconst (v := 0) hx hb dX7_layEdges_142 lc_0 ?_
                refine lv_ior hx hb dX7_layEdges_143 ?_
                refine pX7_32 hx hb hC hI q_fl_X7_171 dX7_layEdges_144 (fun σ45 H locs e_σ45 hI => ?_)
                have h := zl_e h e_σ45
                refine lv_iload_n hx hb dX7_layEdges_147 rfl (lv_at hl 2 rfl) ?_
                refine lv_iconst (v := 1) hx hb dX7_layEdges_148 lc_1 ?_
                refine lv_iload_n hx hb dX7_layEdges_149 rfl (lv_at hl 0 rfl) ?_
                refine lv_ishl hx hb dX7_layEdges_150 ?_
                refine lv_ior hx hb dX7_layEdges_151 ?_
                refine lv_topi (fun v46 e_v46 => ?_)
                have h := zl_e h e_v46
                refine lv_istore_n (lv' := [(1, .int v46), (3, .int v9), (0, .ref (za G 0)), (2, .int y2)]) hx hb dX7_layEdges_152 rfl hl (by decide) rfl (fun ls hl => ?_)
                obtain ⟨v47, e_v47⟩ : ∃ y : Int32, y = y2 + 1 := ⟨_, rfl⟩
                have h := zl_e h e_v47
                refine lv_iinc (v := v47) (lv' := [(2, .int v47), (1, .int v46), (3, .int v9), (0, .ref (za G 0))]) hx hb dX7_layEdges_153 hl (k := 3) rfl (by rw [lc_1]; exact e_v47.symm) (by decide) rfl (fun ls hl => ?_)
                refine lv_goto (tgt := 29) hx hb dX7_layEdges_156 (by decide) ?_
                exact ih v46 v47 σ45 y1o y2o σo h _ _ _ hI (lv_sub hl [3, 1, 0] rfl) kE
              · have h := zi_f hc h
                refine lv_iconst (v := 1) hx hb dX7_layEdges_136 lc_1 ?_
                refine lv_iload_n hx hb dX7_layEdges_137 rfl (lv_at hl 0 rfl) ?_
                refine lv_ishl hx hb dX7_layEdges_138 ?_
                refine lv_goto (tgt := 143) hx hb dX7_layEdges_139 (by decide) ?_
                refine lv_ior hx hb dX7_layEdges_143 ?_
                refine pX7_32 hx hb hC hI q_fl_X7_171 dX7_layEdges_144 (fun σ48 H locs e_σ48 hI => ?_)
                have h := zl_e h e_σ48
                refine lv_iload_n hx hb dX7_layEdges_147 rfl (lv_at hl 2 rfl) ?_
                refine lv_iconst (v := 1) hx hb dX7_layEdges_148 lc_1 ?_
                refine lv_iload_n hx hb dX7_layEdges_149 rfl (lv_at hl 0 rfl) ?_
                refine lv_ishl hx hb dX7_layEdges_150 ?_
                refine lv_ior hx hb dX7_layEdges_151 ?_
                refine lv_topi (fun v49 e_v49 => ?_)
                have h := zl_e h e_v49
                refine lv_istore_n (lv' := [(1, .int v49), (3, .int v9), (0, .ref (za G 0)), (2, .int y2)]) hx hb dX7_layEdges_152 rfl hl (by decide) rfl (fun ls hl => ?_)
                obtain ⟨v50, e_v50⟩ : ∃ y : Int32, y = y2 + 1 := ⟨_, rfl⟩
                have h := zl_e h e_v50
                refine lv_iinc (v := v50) (lv' := [(2, .int v50), (1, .int v49), (3, .int v9), (0, .ref (za G 0))]) hx hb dX7_layEdges_153 hl (k := 3) rfl (by rw [lc_1]; exact e_v50.symm) (by decide) rfl (fun ls hl => ?_)
                refine lv_goto (tgt := 29) hx hb dX7_layEdges_156 (by decide) ?_
                exact ih v49 v50 σ48 y1o y2o σo h _ _ _ hI (lv_sub hl [3, 1, 0] rfl) kE
  unfold F_X7_layEdges at h
  refine lv_aload_n hx hb dX7_layEdges_0 rfl (lv_at hl 0 rfl) ?_
  refine lv_iconst (v := 0) hx hb dX7_layEdges_1 lc_0 ?_
  refine pX7_28 hx hb hC hI q_fl_X7_159 dX7_layEdges_2 (fun σ1 H locs e_σ1 hI => ?_)
  have h := zl_e h e_σ1
  refine lv_aload_n hx hb dX7_layEdges_5 rfl (lv_at hl 0 rfl) ?_
  refine lv_iconst (v := 0) hx hb dX7_layEdges_6 lc_0 ?_
  refine pX7_29 hx hb hC hI q_fl_X7_162 dX7_layEdges_7 (fun σ2 H locs e_σ2 hI => ?_)
  have h := zl_e h e_σ2
  refine lv_aload_n hx hb dX7_layEdges_10 rfl (lv_at hl 0 rfl) ?_
  refine lv_iconst (v := 0) hx hb dX7_layEdges_11 lc_0 ?_
  refine pX7_30 hx hb hC hI q_fl_X7_165 dX7_layEdges_12 (fun σ3 H locs e_σ3 hI => ?_)
  have h := zl_e h e_σ3
  refine lv_aload_n hx hb dX7_layEdges_15 rfl (lv_at hl 0 rfl) ?_
  refine lv_iconst (v := 0) hx hb dX7_layEdges_16 lc_0 ?_
  refine pX7_31 hx hb hC hI q_fl_X7_168 dX7_layEdges_17 (fun σ4 H locs e_σ4 hI => ?_)
  have h := zl_e h e_σ4
  refine lv_aload_n hx hb dX7_layEdges_20 rfl (lv_at hl 0 rfl) ?_
  refine lv_iconst (v := 0) hx hb dX7_layEdges_21 lc_0 ?_
  refine pX7_32 hx hb hC hI q_fl_X7_171 dX7_layEdges_22 (fun σ5 H locs e_σ5 hI => ?_)
  have h := zl_e h e_σ5
  refine lv_iconst (v := 0) hx hb dX7_layEdges_25 lc_0 ?_
  refine lv_istore_n (lv' := [(1, .int 0), (0, .ref (za G 0))]) hx hb dX7_layEdges_26 rfl hl (by decide) rfl (fun ls hl => ?_)
  refine lv_iconst (v := 0) hx hb dX7_layEdges_27 lc_0 ?_
  refine lv_istore_n (lv' := [(2, .int 0), (1, .int 0), (0, .ref (za G 0))]) hx hb dX7_layEdges_28 rfl hl (by decide) rfl (fun ls hl => ?_)
  obtain ⟨v51, v52, σ53, h54, h⟩ := zb3_e h
  refine w_29 100 0 0 σ5 v51 v52 σ53 h54 _ _ _ hI (lv_sub hl [2, 1, 0] rfl) (fun H locs ls hI hl => ?_)
  exact hret (Option.some.inj h) hI dX7_layEdges_159
set_option maxRecDepth 100000 in
set_option maxHeartbeats 4000000 in
theorem c_X7_lay (l : Launch) (G : zG)  {σ σ' : SF} (h : F_X7_lay σ   = some σ') : zMv l WM G yX7_lay cX7_lay 1 5 [.ref (za G 0)] σ σ' := by
  refine zMv_of (by decide) (Nat.le_of_ble_eq_true rfl) (fun p e s m args below meth c ls Q hx hb hr hlk hml hC hI hl hret => ?_)
  have hl : lv_has ls 1 [(0, .ref (za G 0))] := hl
  have hC : zC WM G RX7 args s m := hC
  unfold F_X7_lay at h
  refine lv_aload_n hx hb dX7_lay_0 rfl (lv_at hl 0 rfl) ?_
  obtain ⟨σ2, h1, h⟩ := zb_e h
  refine z_cVv (As := []) (rest := []) hx hb hC (hml.trans hl.1.symm) hI (c_X7_layOrder l G  h1) yyX7_layOrder q_ml_X7_183 (oX7 G) rfl ⟨Nat.le_of_ble_eq_true rfl, Nat.le_of_ble_eq_true rfl⟩ rfl rfl (Nat.le_of_ble_eq_true rfl) ⟨Nat.le_refl _, Nat.le_refl _⟩ dX7_lay_1 (fun H locs hI => ?_)
  refine lv_aload_n hx hb dX7_lay_4 rfl (lv_at hl 0 rfl) ?_
  obtain ⟨σ4, h3, h⟩ := zb_e h
  refine z_cVv (As := []) (rest := []) hx hb hC (hml.trans hl.1.symm) hI (c_X7_layLords l G  h3) yyX7_layLords q_ml_X7_186 (oX7 G) rfl ⟨Nat.le_of_ble_eq_true rfl, Nat.le_of_ble_eq_true rfl⟩ rfl rfl (Nat.le_of_ble_eq_true rfl) ⟨Nat.le_refl _, Nat.le_refl _⟩ dX7_lay_5 (fun H locs hI => ?_)
  refine lv_aload_n hx hb dX7_lay_8 rfl (lv_at hl 0 rfl) ?_
  obtain ⟨σ6, h5, h⟩ := zb_e h
  refine z_cVv (As := []) (rest := []) hx hb hC (hml.trans hl.1.symm) hI (c_X7_layEdges l G  h5) yyX7_layEdges q_ml_X7_189 (oX7 G) rfl ⟨Nat.le_of_ble_eq_true rfl, Nat.le_of_ble_eq_true rfl⟩ rfl rfl (Nat.le_of_ble_eq_true rfl) ⟨Nat.le_refl _, Nat.le_refl _⟩ dX7_lay_9 (fun H locs hI => ?_)
  exact hret (Option.some.inj h) hI dX7_lay_12
set_option maxRecDepth 100000 in
set_option maxHeartbeats 4000000 in
theorem c_X7_layNow (l : Launch) (G : zG)  {σ σ' : SF} (h : F_X7_layNow σ   = some σ') : zMv l WM G yX7_layNow cX7_layNow 1 6 [.ref (za G 0)] σ σ' := by
  refine zMv_of (by decide) (Nat.le_of_ble_eq_true rfl) (fun p e s m args below meth c ls Q hx hb hr hlk hml hC hI hl hret => ?_)
  have hl : lv_has ls 1 [(0, .ref (za G 0))] := hl
  have hC : zC WM G RX7 args s m := hC
  unfold F_X7_layNow at h
  refine lv_aload_n hx hb dX7_layNow_0 rfl (lv_at hl 0 rfl) ?_
  obtain ⟨σ2, h1, h⟩ := zb_e h
  refine z_cVv (As := []) (rest := []) hx hb hC (hml.trans hl.1.symm) hI (c_X7_layGraph l G  h1) yyX7_layGraph q_ml_X7_192 (oX7 G) rfl ⟨Nat.le_of_ble_eq_true rfl, Nat.le_of_ble_eq_true rfl⟩ rfl rfl (Nat.le_of_ble_eq_true rfl) ⟨Nat.le_refl _, Nat.le_refl _⟩ dX7_layNow_1 (fun H locs hI => ?_)
  refine lv_aload_n hx hb dX7_layNow_4 rfl (lv_at hl 0 rfl) ?_
  obtain ⟨σ4, h3, h⟩ := zb_e h
  refine z_cVv (As := []) (rest := []) hx hb hC (hml.trans hl.1.symm) hI (c_X7_lay l G  h3) yyX7_lay q_ml_X7_195 (oX7 G) rfl ⟨Nat.le_of_ble_eq_true rfl, Nat.le_of_ble_eq_true rfl⟩ rfl rfl (Nat.le_of_ble_eq_true rfl) ⟨Nat.le_refl _, Nat.le_refl _⟩ dX7_layNow_5 (fun H locs hI => ?_)
  exact hret (Option.some.inj h) hI dX7_layNow_8
set_option maxRecDepth 100000 in
set_option maxHeartbeats 4000000 in
theorem c_X7_dominated (l : Launch) (G : zG)  {σ : SF} {r : Int32} {x1 : Int32} (h : F_X7_dominated σ  x1 = some r) : zMi l WM G yX7_dominated cX7_dominated 4 .int 2 [.ref (za G 0), .int x1] σ r σ := by
  refine zMi_of (by decide) (Nat.le_of_ble_eq_true rfl) (fun p e s m args below meth c ls Q hx hb hr hlk hml hC hI hl hret => ?_)
  have hl : lv_has ls 4 [(0, .ref (za G 0)), (1, .int x1)] := hl
  have hC : zC WM G RX7 args s m := hC
  have w_4 : ∀ (n : Nat) (y1 : Int32) (y2 : Int32) (y3 : Int32) (y2o : Int32) (y3o : Int32), L_X7_dominated_4 σ y1 n y2 y3 = some (y2o, y3o) → ∀ (H : Heap) (locs : List Loc) (ls : Array Slot), zI WM G s σ H locs → lv_has ls 4 [(0, .ref (za G 0)), (1, .int y1), (2, .int y2), (3, .int y3)] → (∀ (H : Heap) (locs : List Loc) (ls : Array Slot), zI WM G s σ H locs → lv_has ls 4 [(0, .ref (za G 0)), (1, .int y1), (2, .int y2o), (3, .int y3o)] → W p l e (zR 2) s m args below meth c H locs 0 0 Q (F0 m 39 ls [])) → W p l e (zR 2) s m args below meth c H locs 0 0 Q (F0 m 4 ls []) := by
    intro n
    induction n with
    | zero => intro y1 y2 y3 y2o y3o h; cases h
    | succ n ih =>
      intro y1 y2 y3 y2o y3o h H locs ls hI hl kE
      unfold L_X7_dominated_4 at h
      refine lv_iload_n hx hb dX7_dominated_4 rfl (lv_at hl 3 rfl) ?_
      refine lv_aload_n hx hb dX7_dominated_5 rfl (lv_at hl 0 rfl) ?_
      refine gX7_1 hx hb hC hI q_fl_X7_121 dX7_dominated_6 ?_
      refine lv_icmp_ge (tgt := 39) hx hb dX7_dominated_9 (by decide) (fun hc => ?_) (fun hc => ?_)
      · have h := zi_t hc h
        cases h
        exact kE _ _ _ hI (lv_sub hl [0, 1, 2, 3] rfl)
      · have h := zi_f hc h
        refine lv_iload_n hx hb dX7_dominated_12 rfl (lv_at hl 2 rfl) ?_
        refine lv_aload_n hx hb dX7_dominated_13 rfl (lv_at hl 0 rfl) ?_
        refine gX7_26 hx hb hC hI q_fl_X7_50 dX7_dominated_14 ?_
        refine lv_iload_n hx hb dX7_dominated_17 rfl (lv_at hl 3 rfl) ?_
        obtain ⟨hg, h⟩ := zg_e h
        refine z_iald hx hb hC hI (vX7_26 G) hg dX7_dominated_18 ?_
        refine lv_iload_n hx hb dX7_dominated_19 rfl (lv_at hl 1 rfl) ?_
        obtain ⟨r2, h1, h⟩ := zb_e h
        refine z_cSi (As := [.int (σ 14 (y3 : Int32).toNatClampNeg), .int y1]) (rest := [.int y2]) hx hb hC (hml.trans hl.1.symm) hI (c_X7_isIn l G  (σ := σ) h1) yyX7_isIn q_ml_X7_139 ⟨Nat.le_of_ble_eq_true rfl, Nat.le_of_ble_eq_true rfl⟩ rfl rfl (Nat.le_of_ble_eq_true rfl) ⟨Nat.le_refl _, Nat.le_refl _⟩ dX7_dominated_20 (fun H locs hI => ?_)
        refine lv_if_eq (tgt := 30) hx hb dX7_dominated_23 (by decide) (fun hc => ?_) (fun hc => ?_)
        · have h := zi_t hc h
          refine lv_iconst (v := 0) hx hb dX7_dominated_30 lc_0 ?_
          refine lv_iadd hx hb dX7_dominated_31 ?_
          refine lv_topi (fun v3 e_v3 => ?_)
          have h := zl_e h e_v3
          refine lv_istore_n (lv' := [(2, .int v3), (0, .ref (za G 0)), (1, .int y1), (3, .int y3)]) hx hb dX7_dominated_32 rfl hl (by decide) rfl (fun ls hl => ?_)
          obtain ⟨v4, e_v4⟩ : ∃ y : Int32, y = y3 + 1 := ⟨_, rfl⟩
          have h := zl_e h e_v4
          refine lv_iinc (v := v4) (lv' := [(3, .int v4), (2, .int v3), (0, .ref (za G 0)), (1, .int y1)]) hx hb dX7_dominated_33 hl (k := 3) rfl (by rw [lc_1]; exact e_v4.symm) (by decide) rfl (fun ls hl => ?_)
          refine lv_goto (tgt := 4) hx hb dX7_dominated_36 (by decide) ?_
          exact ih y1 v3 v4 y2o y3o h _ _ _ hI (lv_sub hl [2, 3, 1, 0] rfl) kE
        · have h := zi_f hc h
          refine lv_iconst (v := 1) hx hb dX7_dominated_26 lc_1 ?_
          refine lv_goto (tgt := 31) hx hb dX7_dominated_27 (by decide) ?_
          refine lv_iadd hx hb dX7_dominated_31 ?_
          refine lv_topi (fun v5 e_v5 => ?_)
          have h := zl_e h e_v5
          refine lv_istore_n (lv' := [(2, .int v5), (0, .ref (za G 0)), (1, .int y1), (3, .int y3)]) hx hb dX7_dominated_32 rfl hl (by decide) rfl (fun ls hl => ?_)
          obtain ⟨v6, e_v6⟩ : ∃ y : Int32, y = y3 + 1 := ⟨_, rfl⟩
          have h := zl_e h e_v6
          refine lv_iinc (v := v6) (lv' := [(3, .int v6), (2, .int v5), (0, .ref (za G 0)), (1, .int y1)]) hx hb dX7_dominated_33 hl (k := 3) rfl (by rw [lc_1]; exact e_v6.symm) (by decide) rfl (fun ls hl => ?_)
          refine lv_goto (tgt := 4) hx hb dX7_dominated_36 (by decide) ?_
          exact ih y1 v5 v6 y2o y3o h _ _ _ hI (lv_sub hl [2, 3, 1, 0] rfl) kE
  unfold F_X7_dominated at h
  refine lv_iconst (v := 0) hx hb dX7_dominated_0 lc_0 ?_
  refine lv_istore_n (lv' := [(2, .int 0), (0, .ref (za G 0)), (1, .int x1)]) hx hb dX7_dominated_1 rfl hl (by decide) rfl (fun ls hl => ?_)
  refine lv_iconst (v := 0) hx hb dX7_dominated_2 lc_0 ?_
  refine lv_istore_n (lv' := [(3, .int 0), (2, .int 0), (0, .ref (za G 0)), (1, .int x1)]) hx hb dX7_dominated_3 rfl hl (by decide) rfl (fun ls hl => ?_)
  obtain ⟨v7, v8, h9, h⟩ := zb2_e h
  refine w_4 100 x1 0 0 v7 v8 h9 _ _ _ hI (lv_sub hl [2, 3, 1, 0] rfl) (fun H locs ls hI hl => ?_)
  refine lv_iload_n hx hb dX7_dominated_39 rfl (lv_at hl 2 rfl) ?_
  exact hret ⟨(Option.some.inj h), rfl⟩ hI rfl dX7_dominated_40
set_option maxRecDepth 100000 in
set_option maxHeartbeats 4000000 in
theorem c_X7_endBy (l : Launch) (G : zG)  {σ : SF} {r : Int32} {x0 : Int32} {x1 : Int32} {x2 : Int32} (h : F_X7_endBy   x0 x1 x2 = some r) : zMi l WM G yX7_endBy cX7_endBy 3 .int 1 [.int x0, .int x1, .int x2] σ r σ := by
  refine zMi_of (by decide) (Nat.le_of_ble_eq_true rfl) (fun p e s m args below meth c ls Q hx hb hr hlk hml hC hI hl hret => ?_)
  have hl : lv_has ls 3 [(0, .int x0), (1, .int x1), (2, .int x2)] := hl
  have hC : zC WM G RX7 args s m := hC
  unfold F_X7_endBy at h
  refine lv_iload_n hx hb dX7_endBy_0 rfl (lv_at hl 0 rfl) ?_
  by_cases n_1_1 : x0 = 1
  · have h := zi_t n_1_1 h
    refine lv_tableIn (tgt := 32) hx hb dX7_endBy_1 (by rw [n_1_1]; decide) (by rw [n_1_1]; decide) (by rw [n_1_1]; rfl) (by decide) ?_
    refine lv_iload_n hx hb dX7_endBy_32 rfl (lv_at hl 2 rfl) ?_
    exact hret ⟨(Option.some.inj h), rfl⟩ hI rfl dX7_endBy_33
  have h := zi_f n_1_1 h
  by_cases n_1_3 : x0 = 3
  · have h := zi_t n_1_3 h
    refine lv_tableIn (tgt := 34) hx hb dX7_endBy_1 (by rw [n_1_3]; decide) (by rw [n_1_3]; decide) (by rw [n_1_3]; rfl) (by decide) ?_
    refine lv_iload_n hx hb dX7_endBy_34 rfl (lv_at hl 1 rfl) ?_
    refine lv_iconst (v := 1) hx hb dX7_endBy_35 lc_1 ?_
    refine lv_iadd hx hb dX7_endBy_36 ?_
    refine lv_iconst (v := 2) hx hb dX7_endBy_37 lc_2 ?_
    refine lv_irem hx hb dX7_endBy_38 (by decide) ?_
    exact hret ⟨(Option.some.inj h), rfl⟩ hI rfl dX7_endBy_39
  have h := zi_f n_1_3 h
  by_cases n_1_4 : x0 = 4
  · have h := zi_t n_1_4 h
    refine lv_tableIn (tgt := 40) hx hb dX7_endBy_1 (by rw [n_1_4]; decide) (by rw [n_1_4]; decide) (by rw [n_1_4]; rfl) (by decide) ?_
    refine lv_iload_n hx hb dX7_endBy_40 rfl (lv_at hl 1 rfl) ?_
    refine lv_iconst (v := 3) hx hb dX7_endBy_41 lc_3 ?_
    refine lv_irem hx hb dX7_endBy_42 (by decide) ?_
    refine lv_if_ne (tgt := 50) hx hb dX7_endBy_43 (by decide) (fun hc => ?_) (fun hc => ?_)
    · have h := zi_f hc h
      refine lv_iconst (v := 0) hx hb dX7_endBy_50 lc_0 ?_
      exact hret ⟨(Option.some.inj h), rfl⟩ hI rfl dX7_endBy_51
    · have h := zi_t hc h
      refine lv_iconst (v := 1) hx hb dX7_endBy_46 lc_1 ?_
      refine lv_goto (tgt := 51) hx hb dX7_endBy_47 (by decide) ?_
      exact hret ⟨(Option.some.inj h), rfl⟩ hI rfl dX7_endBy_51
  have h := zi_f n_1_4 h
  have t_1 : (x0 : Int32).toInt ≠ 1 ∧ (x0 : Int32).toInt ≠ 3 ∧ (x0 : Int32).toInt ≠ 4 := by
    exact ⟨zne_toInt n_1_1, zne_toInt n_1_3, zne_toInt n_1_4⟩
  refine zTable hx hb dX7_endBy_1 (tgt := 52) (fun hlo hhi => ?_) (by decide) ?_
  · rcases (show (x0 : Int32).toInt = 2 by omega) with h9 <;> rw [h9] <;> rfl
  refine lv_iconst (v := 0) hx hb dX7_endBy_52 lc_0 ?_
  exact hret ⟨(Option.some.inj h), rfl⟩ hI rfl dX7_endBy_53
set_option maxRecDepth 100000 in
set_option maxHeartbeats 4000000 in
theorem c_X7_could (l : Launch) (G : zG)  {σ : SF} {r : Int32} {x0 : Int32} {x1 : Int32} {x2 : Int32} (h : F_X7_could   x0 x1 x2 = some r) : zMi l WM G yX7_could cX7_could 3 .boolean 2 [.int x0, .int x1, .int x2] σ r σ := by
  refine zMi_of (by decide) (Nat.le_of_ble_eq_true rfl) (fun p e s m args below meth c ls Q hx hb hr hlk hml hC hI hl hret => ?_)
  have hl : lv_has ls 3 [(0, .int x0), (1, .int x1), (2, .int x2)] := hl
  have hC : zC WM G RX7 args s m := hC
  unfold F_X7_could at h
  refine lv_iload_n hx hb dX7_could_0 rfl (lv_at hl 0 rfl) ?_
  refine lv_iconst (v := 2) hx hb dX7_could_1 lc_2 ?_
  refine lv_icmp_ne (tgt := 16) hx hb dX7_could_2 (by decide) (fun hc => ?_) (fun hc => ?_)
  · have h := zi_f hc h
    refine lv_iload_n hx hb dX7_could_16 rfl (lv_at hl 2 rfl) ?_
    refine lv_iconst (v := 2) hx hb dX7_could_17 lc_2 ?_
    refine lv_icmp_ge (tgt := 40) hx hb dX7_could_18 (by decide) (fun hc => ?_) (fun hc => ?_)
    · have h := zi_t hc h
      refine lv_iconst (v := 0) hx hb dX7_could_40 lc_0 ?_
      exact hret ⟨(Option.some.inj h), rfl⟩ hI rfl dX7_could_41
    · have h := zi_f hc h
      refine lv_iload_n hx hb dX7_could_21 rfl (lv_at hl 0 rfl) ?_
      refine lv_iconst (v := 1) hx hb dX7_could_22 lc_1 ?_
      refine lv_icmp_eq (tgt := 36) hx hb dX7_could_23 (by decide) (fun hc => ?_) (fun hc => ?_)
      · have h := zi_t hc h
        refine lv_iconst (v := 1) hx hb dX7_could_36 lc_1 ?_
        refine lv_goto (tgt := 41) hx hb dX7_could_37 (by decide) ?_
        exact hret ⟨(Option.some.inj h), rfl⟩ hI rfl dX7_could_41
      · have h := zi_f hc h
        refine lv_iload_n hx hb dX7_could_26 rfl (lv_at hl 0 rfl) ?_
        refine lv_iload_n hx hb dX7_could_27 rfl (lv_at hl 1 rfl) ?_
        refine lv_iconst (v := 0) hx hb dX7_could_28 lc_0 ?_
        obtain ⟨r2, h1, h⟩ := zb_e h
        refine z_cSi (As := [.int x0, .int x1, .int 0]) (rest := []) hx hb hC (hml.trans hl.1.symm) hI (c_X7_endBy l G  (σ := σ) h1) yyX7_endBy q_ml_X7_220 ⟨Nat.le_of_ble_eq_true rfl, Nat.le_of_ble_eq_true rfl⟩ rfl rfl (Nat.le_of_ble_eq_true rfl) ⟨Nat.le_refl _, Nat.le_refl _⟩ dX7_could_29 (fun H locs hI => ?_)
        refine lv_iload_n hx hb dX7_could_32 rfl (lv_at hl 2 rfl) ?_
        refine lv_icmp_ne (tgt := 40) hx hb dX7_could_33 (by decide) (fun hc => ?_) (fun hc => ?_)
        · have h := zi_f hc h
          refine lv_iconst (v := 0) hx hb dX7_could_40 lc_0 ?_
          exact hret ⟨(Option.some.inj h), rfl⟩ hI rfl dX7_could_41
        · have h := zi_t hc h
          refine lv_iconst (v := 1) hx hb dX7_could_36 lc_1 ?_
          refine lv_goto (tgt := 41) hx hb dX7_could_37 (by decide) ?_
          exact hret ⟨(Option.some.inj h), rfl⟩ hI rfl dX7_could_41
  · have h := zi_t hc h
    refine lv_iload_n hx hb dX7_could_5 rfl (lv_at hl 2 rfl) ?_
    refine lv_iconst (v := 2) hx hb dX7_could_6 lc_2 ?_
    refine lv_icmp_ne (tgt := 14) hx hb dX7_could_7 (by decide) (fun hc => ?_) (fun hc => ?_)
    · have h := zi_f hc h
      refine lv_iconst (v := 0) hx hb dX7_could_14 lc_0 ?_
      exact hret ⟨(Option.some.inj h), rfl⟩ hI rfl dX7_could_15
    · have h := zi_t hc h
      refine lv_iconst (v := 1) hx hb dX7_could_10 lc_1 ?_
      refine lv_goto (tgt := 15) hx hb dX7_could_11 (by decide) ?_
      exact hret ⟨(Option.some.inj h), rfl⟩ hI rfl dX7_could_15
set_option maxRecDepth 100000 in
set_option maxHeartbeats 4000000 in
theorem c_X7_sortsOf (l : Launch) (G : zG)  {σ : SF} {r : Int32} {x1 : Int32} (h : F_X7_sortsOf σ  x1 = some r) : zMi l WM G yX7_sortsOf cX7_sortsOf 6 .int 3 [.ref (za G 0), .int x1] σ r σ := by
  refine zMi_of (by decide) (Nat.le_of_ble_eq_true rfl) (fun p e s m args below meth c ls Q hx hb hr hlk hml hC hI hl hret => ?_)
  have hl : lv_has ls 6 [(0, .ref (za G 0)), (1, .int x1)] := hl
  have hC : zC WM G RX7 args s m := hC
  have w_15 : ∀ (n : Nat) (y1 : Int32) (y2 : Int32) (y3 : Int32) (y4 : Int32) (y5 : Int32) (y4o : Int32) (y5o : Int32), L_X7_sortsOf_15 σ y1 y2 y3 n y4 y5 = some (y4o, y5o) → ∀ (H : Heap) (locs : List Loc) (ls : Array Slot), zI WM G s σ H locs → lv_has ls 6 [(0, .ref (za G 0)), (1, .int y1), (2, .int y2), (3, .int y3), (4, .int y4), (5, .int y5)] → (∀ (H : Heap) (locs : List Loc) (ls : Array Slot), zI WM G s σ H locs → lv_has ls 6 [(0, .ref (za G 0)), (1, .int y1), (2, .int y2), (3, .int y3), (4, .int y4o), (5, .int y5o)] → W p l e (zR 3) s m args below meth c H locs 0 0 Q (F0 m 74 ls [])) → W p l e (zR 3) s m args below meth c H locs 0 0 Q (F0 m 15 ls []) := by
    intro n
    induction n with
    | zero => intro y1 y2 y3 y4 y5 y4o y5o h; cases h
    | succ n ih =>
      intro y1 y2 y3 y4 y5 y4o y5o h H locs ls hI hl kE
      unfold L_X7_sortsOf_15 at h
      refine lv_iload hx hb dX7_sortsOf_15 (lv_at hl 5 rfl) ?_
      refine lv_aload_n hx hb dX7_sortsOf_17 rfl (lv_at hl 0 rfl) ?_
      refine gX7_7 hx hb hC hI q_fl_X7_130 dX7_sortsOf_18 ?_
      refine lv_icmp_ge (tgt := 74) hx hb dX7_sortsOf_21 (by decide) (fun hc => ?_) (fun hc => ?_)
      · have h := zi_t hc h
        cases h
        exact kE _ _ _ hI (lv_sub hl [0, 1, 2, 3, 4, 5] rfl)
      · have h := zi_f hc h
        refine lv_iload hx hb dX7_sortsOf_24 (lv_at hl 4 rfl) ?_
        refine lv_if_eq (tgt := 65) hx hb dX7_sortsOf_26 (by decide) (fun hc => ?_) (fun hc => ?_)
        · have h := zi_t hc h
          refine lv_iconst (v := 0) hx hb dX7_sortsOf_65 lc_0 ?_
          refine lv_istore (lv' := [(4, .int 0), (0, .ref (za G 0)), (1, .int y1), (2, .int y2), (3, .int y3), (5, .int y5)]) hx hb dX7_sortsOf_66 hl (by decide) rfl (fun ls hl => ?_)
          obtain ⟨v1, e_v1⟩ : ∃ y : Int32, y = y5 + 1 := ⟨_, rfl⟩
          have h := zl_e h e_v1
          refine lv_iinc (v := v1) (lv' := [(5, .int v1), (4, .int 0), (0, .ref (za G 0)), (1, .int y1), (2, .int y2), (3, .int y3)]) hx hb dX7_sortsOf_68 hl (k := 5) rfl (by rw [lc_1]; exact e_v1.symm) (by decide) rfl (fun ls hl => ?_)
          refine lv_goto (tgt := 15) hx hb dX7_sortsOf_71 (by decide) ?_
          exact ih y1 y2 y3 0 v1 y4o y5o h _ _ _ hI (lv_sub hl [2, 3, 4, 5, 1, 0] rfl) kE
        · have h := zi_f hc h
          refine lv_aload_n hx hb dX7_sortsOf_29 rfl (lv_at hl 0 rfl) ?_
          refine gX7_8 hx hb hC hI q_fl_X7_19 dX7_sortsOf_30 ?_
          refine lv_iload hx hb dX7_sortsOf_33 (lv_at hl 5 rfl) ?_
          obtain ⟨hg, h⟩ := zg_e h
          refine z_iald hx hb hC hI (vX7_8 G) hg dX7_sortsOf_35 ?_
          refine lv_iload_n hx hb dX7_sortsOf_36 rfl (lv_at hl 1 rfl) ?_
          refine lv_icmp_ne (tgt := 61) hx hb dX7_sortsOf_37 (by decide) (fun hc => ?_) (fun hc => ?_)
          · have h := zi_f hc h
            refine lv_iconst (v := 1) hx hb dX7_sortsOf_61 lc_1 ?_
            refine lv_goto (tgt := 66) hx hb dX7_sortsOf_62 (by decide) ?_
            refine lv_istore (lv' := [(4, .int 1), (0, .ref (za G 0)), (1, .int y1), (2, .int y2), (3, .int y3), (5, .int y5)]) hx hb dX7_sortsOf_66 hl (by decide) rfl (fun ls hl => ?_)
            obtain ⟨v2, e_v2⟩ : ∃ y : Int32, y = y5 + 1 := ⟨_, rfl⟩
            have h := zl_e h e_v2
            refine lv_iinc (v := v2) (lv' := [(5, .int v2), (4, .int 1), (0, .ref (za G 0)), (1, .int y1), (2, .int y2), (3, .int y3)]) hx hb dX7_sortsOf_68 hl (k := 5) rfl (by rw [lc_1]; exact e_v2.symm) (by decide) rfl (fun ls hl => ?_)
            refine lv_goto (tgt := 15) hx hb dX7_sortsOf_71 (by decide) ?_
            exact ih y1 y2 y3 1 v2 y4o y5o h _ _ _ hI (lv_sub hl [2, 3, 4, 5, 1, 0] rfl) kE
          · have h := zi_t hc h
            refine lv_iload_n hx hb dX7_sortsOf_40 rfl (lv_at hl 3 rfl) ?_
            refine lv_aload_n hx hb dX7_sortsOf_41 rfl (lv_at hl 0 rfl) ?_
            refine gX7_9 hx hb hC hI q_fl_X7_22 dX7_sortsOf_42 ?_
            refine lv_iload hx hb dX7_sortsOf_45 (lv_at hl 5 rfl) ?_
            obtain ⟨hg, h⟩ := zg_e h
            refine z_iald hx hb hC hI (vX7_9 G) hg dX7_sortsOf_47 ?_
            refine lv_aload_n hx hb dX7_sortsOf_48 rfl (lv_at hl 0 rfl) ?_
            refine gX7_10 hx hb hC hI q_fl_X7_25 dX7_sortsOf_49 ?_
            refine lv_iload hx hb dX7_sortsOf_52 (lv_at hl 5 rfl) ?_
            obtain ⟨hg, h⟩ := zg_e h
            refine z_iald hx hb hC hI (vX7_10 G) hg dX7_sortsOf_54 ?_
            obtain ⟨r4, h3, h⟩ := zb_e h
            refine z_cSi (As := [.int y3, .int (σ 5 (y5 : Int32).toNatClampNeg), .int (σ 6 (y5 : Int32).toNatClampNeg)]) (rest := []) hx hb hC (hml.trans hl.1.symm) hI (c_X7_could l G  (σ := σ) h3) yyX7_could q_ml_X7_292 ⟨Nat.le_of_ble_eq_true rfl, Nat.le_of_ble_eq_true rfl⟩ rfl rfl (Nat.le_of_ble_eq_true rfl) ⟨Nat.le_refl _, Nat.le_refl _⟩ dX7_sortsOf_55 (fun H locs hI => ?_)
            refine lv_if_eq (tgt := 65) hx hb dX7_sortsOf_58 (by decide) (fun hc => ?_) (fun hc => ?_)
            · have h := zi_t hc h
              refine lv_iconst (v := 0) hx hb dX7_sortsOf_65 lc_0 ?_
              refine lv_istore (lv' := [(4, .int 0), (0, .ref (za G 0)), (1, .int y1), (2, .int y2), (3, .int y3), (5, .int y5)]) hx hb dX7_sortsOf_66 hl (by decide) rfl (fun ls hl => ?_)
              obtain ⟨v5, e_v5⟩ : ∃ y : Int32, y = y5 + 1 := ⟨_, rfl⟩
              have h := zl_e h e_v5
              refine lv_iinc (v := v5) (lv' := [(5, .int v5), (4, .int 0), (0, .ref (za G 0)), (1, .int y1), (2, .int y2), (3, .int y3)]) hx hb dX7_sortsOf_68 hl (k := 5) rfl (by rw [lc_1]; exact e_v5.symm) (by decide) rfl (fun ls hl => ?_)
              refine lv_goto (tgt := 15) hx hb dX7_sortsOf_71 (by decide) ?_
              exact ih y1 y2 y3 0 v5 y4o y5o h _ _ _ hI (lv_sub hl [2, 3, 4, 5, 1, 0] rfl) kE
            · have h := zi_f hc h
              refine lv_iconst (v := 1) hx hb dX7_sortsOf_61 lc_1 ?_
              refine lv_goto (tgt := 66) hx hb dX7_sortsOf_62 (by decide) ?_
              refine lv_istore (lv' := [(4, .int 1), (0, .ref (za G 0)), (1, .int y1), (2, .int y2), (3, .int y3), (5, .int y5)]) hx hb dX7_sortsOf_66 hl (by decide) rfl (fun ls hl => ?_)
              obtain ⟨v6, e_v6⟩ : ∃ y : Int32, y = y5 + 1 := ⟨_, rfl⟩
              have h := zl_e h e_v6
              refine lv_iinc (v := v6) (lv' := [(5, .int v6), (4, .int 1), (0, .ref (za G 0)), (1, .int y1), (2, .int y2), (3, .int y3)]) hx hb dX7_sortsOf_68 hl (k := 5) rfl (by rw [lc_1]; exact e_v6.symm) (by decide) rfl (fun ls hl => ?_)
              refine lv_goto (tgt := 15) hx hb dX7_sortsOf_71 (by decide) ?_
              exact ih y1 y2 y3 1 v6 y4o y5o h _ _ _ hI (lv_sub hl [2, 3, 4, 5, 1, 0] rfl) kE
  have w_4 : ∀ (n : Nat) (y1 : Int32) (y2 : Int32) (y3 : Int32) (y2o : Int32) (y3o : Int32), L_X7_sortsOf_4 σ y1 n y2 y3 = some (y2o, y3o) → ∀ (H : Heap) (locs : List Loc) (ls : Array Slot), zI WM G s σ H locs → lv_has ls 6 [(0, .ref (za G 0)), (1, .int y1), (2, .int y2), (3, .int y3)] → (∀ (H : Heap) (locs : List Loc) (ls : Array Slot), zI WM G s σ H locs → lv_has ls 6 [(0, .ref (za G 0)), (1, .int y1), (2, .int y2o), (3, .int y3o)] → W p l e (zR 3) s m args below meth c H locs 0 0 Q (F0 m 95 ls [])) → W p l e (zR 3) s m args below meth c H locs 0 0 Q (F0 m 4 ls []) := by
    intro n
    induction n with
    | zero => intro y1 y2 y3 y2o y3o h; cases h
    | succ n ih =>
      intro y1 y2 y3 y2o y3o h H locs ls hI hl kE
      unfold L_X7_sortsOf_4 at h
      refine lv_iload_n hx hb dX7_sortsOf_4 rfl (lv_at hl 3 rfl) ?_
      refine lv_iconst (v := 4) hx hb dX7_sortsOf_5 lc_4 ?_
      refine lv_icmp_gt (tgt := 95) hx hb dX7_sortsOf_6 (by decide) (fun hc => ?_) (fun hc => ?_)
      · have h := zi_t hc h
        cases h
        exact kE _ _ _ hI (lv_sub hl [0, 1, 2, 3] rfl)
      · have h := zi_f hc h
        refine lv_iconst (v := 1) hx hb dX7_sortsOf_9 lc_1 ?_
        refine lv_istore (lv' := [(4, .int 1), (0, .ref (za G 0)), (1, .int y1), (2, .int y2), (3, .int y3)]) hx hb dX7_sortsOf_10 hl (by decide) rfl (fun ls hl => ?_)
        refine lv_iconst (v := 0) hx hb dX7_sortsOf_12 lc_0 ?_
        refine lv_istore (lv' := [(5, .int 0), (4, .int 1), (0, .ref (za G 0)), (1, .int y1), (2, .int y2), (3, .int y3)]) hx hb dX7_sortsOf_13 hl (by decide) rfl (fun ls hl => ?_)
        obtain ⟨v7, v8, h9, h⟩ := zb2_e h
        refine w_15 100 y1 y2 y3 1 0 v7 v8 h9 _ _ _ hI (lv_sub hl [2, 3, 4, 5, 1, 0] rfl) (fun H locs ls hI hl => ?_)
        refine lv_iload_n hx hb dX7_sortsOf_74 rfl (lv_at hl 2 rfl) ?_
        refine lv_iload hx hb dX7_sortsOf_75 (lv_at hl 4 rfl) ?_
        refine lv_if_eq (tgt := 86) hx hb dX7_sortsOf_77 (by decide) (fun hc => ?_) (fun hc => ?_)
        · have h := zi_t hc h
          refine lv_iconst (v := 0) hx hb dX7_sortsOf_86 lc_0 ?_
          refine lv_ior hx hb dX7_sortsOf_87 ?_
          refine lv_topi (fun v10 e_v10 => ?_)
          have h := zl_e h e_v10
          refine lv_istore_n (lv' := [(2, .int v10), (0, .ref (za G 0)), (1, .int y1), (3, .int y3), (4, .int v7), (5, .int v8)]) hx hb dX7_sortsOf_88 rfl hl (by decide) rfl (fun ls hl => ?_)
          obtain ⟨v11, e_v11⟩ : ∃ y : Int32, y = y3 + 1 := ⟨_, rfl⟩
          have h := zl_e h e_v11
          refine lv_iinc (v := v11) (lv' := [(3, .int v11), (2, .int v10), (0, .ref (za G 0)), (1, .int y1), (4, .int v7), (5, .int v8)]) hx hb dX7_sortsOf_89 hl (k := 3) rfl (by rw [lc_1]; exact e_v11.symm) (by decide) rfl (fun ls hl => ?_)
          refine lv_goto (tgt := 4) hx hb dX7_sortsOf_92 (by decide) ?_
          exact ih y1 v10 v11 y2o y3o h _ _ _ hI (lv_sub hl [2, 3, 1, 0] rfl) kE
        · have h := zi_f hc h
          refine lv_iconst (v := 1) hx hb dX7_sortsOf_80 lc_1 ?_
          refine lv_iload_n hx hb dX7_sortsOf_81 rfl (lv_at hl 3 rfl) ?_
          refine lv_ishl hx hb dX7_sortsOf_82 ?_
          refine lv_goto (tgt := 87) hx hb dX7_sortsOf_83 (by decide) ?_
          refine lv_ior hx hb dX7_sortsOf_87 ?_
          refine lv_topi (fun v12 e_v12 => ?_)
          have h := zl_e h e_v12
          refine lv_istore_n (lv' := [(2, .int v12), (0, .ref (za G 0)), (1, .int y1), (3, .int y3), (4, .int v7), (5, .int v8)]) hx hb dX7_sortsOf_88 rfl hl (by decide) rfl (fun ls hl => ?_)
          obtain ⟨v13, e_v13⟩ : ∃ y : Int32, y = y3 + 1 := ⟨_, rfl⟩
          have h := zl_e h e_v13
          refine lv_iinc (v := v13) (lv' := [(3, .int v13), (2, .int v12), (0, .ref (za G 0)), (1, .int y1), (4, .int v7), (5, .int v8)]) hx hb dX7_sortsOf_89 hl (k := 3) rfl (by rw [lc_1]; exact e_v13.symm) (by decide) rfl (fun ls hl => ?_)
          refine lv_goto (tgt := 4) hx hb dX7_sortsOf_92 (by decide) ?_
          exact ih y1 v12 v13 y2o y3o h _ _ _ hI (lv_sub hl [2, 3, 1, 0] rfl) kE
  unfold F_X7_sortsOf at h
  refine lv_iconst (v := 0) hx hb dX7_sortsOf_0 lc_0 ?_
  refine lv_istore_n (lv' := [(2, .int 0), (0, .ref (za G 0)), (1, .int x1)]) hx hb dX7_sortsOf_1 rfl hl (by decide) rfl (fun ls hl => ?_)
  refine lv_iconst (v := 0) hx hb dX7_sortsOf_2 lc_0 ?_
  refine lv_istore_n (lv' := [(3, .int 0), (2, .int 0), (0, .ref (za G 0)), (1, .int x1)]) hx hb dX7_sortsOf_3 rfl hl (by decide) rfl (fun ls hl => ?_)
  obtain ⟨v14, v15, h16, h⟩ := zb2_e h
  refine w_4 100 x1 0 0 v14 v15 h16 _ _ _ hI (lv_sub hl [2, 3, 1, 0] rfl) (fun H locs ls hI hl => ?_)
  refine lv_iload_n hx hb dX7_sortsOf_95 rfl (lv_at hl 2 rfl) ?_
  exact hret ⟨(Option.some.inj h), rfl⟩ hI rfl dX7_sortsOf_96
set_option maxRecDepth 100000 in
set_option maxHeartbeats 4000000 in
theorem c_X7_askOf (l : Launch) (G : zG)  {σ : SF} {r : Int32} {x1 : Int32} (h : F_X7_askOf σ  x1 = some r) : zMi l WM G yX7_askOf cX7_askOf 10 .int 4 [.ref (za G 0), .int x1] σ r σ := by
  refine zMi_of (by decide) (Nat.le_of_ble_eq_true rfl) (fun p e s m args below meth c ls Q hx hb hr hlk hml hC hI hl hret => ?_)
  have hl : lv_has ls 10 [(0, .ref (za G 0)), (1, .int x1)] := hl
  have hC : zC WM G RX7 args s m := hC
  have w_44 : ∀ (n : Nat) (y2 : Int32) (y3 : Int32) (y4 : Int32) (y5 : Int32) (y6 : Int32) (y7 : Int32) (y8 : Int32) (y9 : Int32) (y8o : Int32) (y9o : Int32), L_X7_askOf_44 σ y2 y3 y4 y5 y6 y7 n y8 y9 = some (y8o, y9o) → ∀ (H : Heap) (locs : List Loc) (ls : Array Slot), zI WM G s σ H locs → lv_has ls 10 [(2, .int y2), (3, .int y3), (4, .int y4), (5, .int y5), (6, .int y6), (7, .int y7), (8, .int y8), (9, .int y9)] → (∀ (H : Heap) (locs : List Loc) (ls : Array Slot), zI WM G s σ H locs → lv_has ls 10 [(2, .int y2), (3, .int y3), (4, .int y4), (5, .int y5), (6, .int y6), (7, .int y7), (8, .int y8o), (9, .int y9o)] → W p l e (zR 4) s m args below meth c H locs 0 0 Q (F0 m 87 ls [])) → W p l e (zR 4) s m args below meth c H locs 0 0 Q (F0 m 44 ls []) := by
    intro n
    induction n with
    | zero => intro y2 y3 y4 y5 y6 y7 y8 y9 y8o y9o h; cases h
    | succ n ih =>
      intro y2 y3 y4 y5 y6 y7 y8 y9 y8o y9o h H locs ls hI hl kE
      unfold L_X7_askOf_44 at h
      refine lv_iload hx hb dX7_askOf_44 (lv_at hl 7 rfl) ?_
      refine lv_iconst (v := 4) hx hb dX7_askOf_46 lc_4 ?_
      refine lv_icmp_gt (tgt := 87) hx hb dX7_askOf_47 (by decide) (fun hc => ?_) (fun hc => ?_)
      · have h := zi_t hc h
        cases h
        exact kE _ _ _ hI (lv_sub hl [0, 1, 2, 3, 4, 5, 6, 7] rfl)
      · have h := zi_f hc h
        refine lv_iload hx hb dX7_askOf_50 (lv_at hl 6 rfl) ?_
        refine lv_iload_n hx hb dX7_askOf_52 rfl (lv_at hl 0 rfl) ?_
        refine lv_iload hx hb dX7_askOf_53 (lv_at hl 7 rfl) ?_
        obtain ⟨r4, h3, h⟩ := zb_e h
        refine z_cSi (As := [.int y2, .int y9]) (rest := [.int y8]) hx hb hC (hml.trans hl.1.symm) hI (c_X7_isIn l G  (σ := σ) h3) yyX7_isIn q_ml_X7_139 ⟨Nat.le_of_ble_eq_true rfl, Nat.le_of_ble_eq_true rfl⟩ rfl rfl (Nat.le_of_ble_eq_true rfl) ⟨Nat.le_refl _, Nat.le_refl _⟩ dX7_askOf_55 (fun H locs hI => ?_)
        refine lv_if_eq (tgt := 77) hx hb dX7_askOf_58 (by decide) (fun hc => ?_) (fun hc => ?_)
        · have h := zi_t hc h
          refine lv_iconst (v := 0) hx hb dX7_askOf_77 lc_0 ?_
          refine lv_iadd hx hb dX7_askOf_78 ?_
          refine lv_topi (fun v5 e_v5 => ?_)
          have h := zl_e h e_v5
          refine lv_istore (lv' := [(8, .int v5), (2, .int y2), (3, .int y3), (4, .int y4), (5, .int y5), (6, .int y6), (7, .int y7), (9, .int y9)]) hx hb dX7_askOf_79 hl (by decide) rfl (fun ls hl => ?_)
          obtain ⟨v6, e_v6⟩ : ∃ y : Int32, y = y9 + 1 := ⟨_, rfl⟩
          have h := zl_e h e_v6
          refine lv_iinc (v := v6) (lv' := [(9, .int v6), (8, .int v5), (2, .int y2), (3, .int y3), (4, .int y4), (5, .int y5), (6, .int y6), (7, .int y7)]) hx hb dX7_askOf_81 hl (k := 7) rfl (by rw [lc_1]; exact e_v6.symm) (by decide) rfl (fun ls hl => ?_)
          refine lv_goto (tgt := 44) hx hb dX7_askOf_84 (by decide) ?_
          exact ih y2 y3 y4 y5 y6 y7 v5 v6 y8o y9o h _ _ _ hI (lv_sub hl [2, 3, 4, 5, 6, 7, 1, 0] rfl) kE
        · have h := zi_f hc h
          refine lv_iload hx hb dX7_askOf_61 (lv_at hl 7 rfl) ?_
          refine lv_iload hx hb dX7_askOf_63 (lv_at hl 3 rfl) ?_
          refine lv_iload hx hb dX7_askOf_65 (lv_at hl 5 rfl) ?_
          obtain ⟨r8, h7, h⟩ := zb_e h
          refine z_cSi (As := [.int y9, .int y5, .int y7]) (rest := [.int y8]) hx hb hC (hml.trans hl.1.symm) hI (c_X7_could l G  (σ := σ) h7) yyX7_could q_ml_X7_292 ⟨Nat.le_of_ble_eq_true rfl, Nat.le_of_ble_eq_true rfl⟩ rfl rfl (Nat.le_of_ble_eq_true rfl) ⟨Nat.le_refl _, Nat.le_refl _⟩ dX7_askOf_67 (fun H locs hI => ?_)
          refine lv_if_eq (tgt := 77) hx hb dX7_askOf_70 (by decide) (fun hc => ?_) (fun hc => ?_)
          · have h := zi_t hc h
            refine lv_iconst (v := 0) hx hb dX7_askOf_77 lc_0 ?_
            refine lv_iadd hx hb dX7_askOf_78 ?_
            refine lv_topi (fun v9 e_v9 => ?_)
            have h := zl_e h e_v9
            refine lv_istore (lv' := [(8, .int v9), (2, .int y2), (3, .int y3), (4, .int y4), (5, .int y5), (6, .int y6), (7, .int y7), (9, .int y9)]) hx hb dX7_askOf_79 hl (by decide) rfl (fun ls hl => ?_)
            obtain ⟨v10, e_v10⟩ : ∃ y : Int32, y = y9 + 1 := ⟨_, rfl⟩
            have h := zl_e h e_v10
            refine lv_iinc (v := v10) (lv' := [(9, .int v10), (8, .int v9), (2, .int y2), (3, .int y3), (4, .int y4), (5, .int y5), (6, .int y6), (7, .int y7)]) hx hb dX7_askOf_81 hl (k := 7) rfl (by rw [lc_1]; exact e_v10.symm) (by decide) rfl (fun ls hl => ?_)
            refine lv_goto (tgt := 44) hx hb dX7_askOf_84 (by decide) ?_
            exact ih y2 y3 y4 y5 y6 y7 v9 v10 y8o y9o h _ _ _ hI (lv_sub hl [2, 3, 4, 5, 6, 7, 1, 0] rfl) kE
          · have h := zi_f hc h
            refine lv_iconst (v := 1) hx hb dX7_askOf_73 lc_1 ?_
            refine lv_goto (tgt := 78) hx hb dX7_askOf_74 (by decide) ?_
            refine lv_iadd hx hb dX7_askOf_78 ?_
            refine lv_topi (fun v11 e_v11 => ?_)
            have h := zl_e h e_v11
            refine lv_istore (lv' := [(8, .int v11), (2, .int y2), (3, .int y3), (4, .int y4), (5, .int y5), (6, .int y6), (7, .int y7), (9, .int y9)]) hx hb dX7_askOf_79 hl (by decide) rfl (fun ls hl => ?_)
            obtain ⟨v12, e_v12⟩ : ∃ y : Int32, y = y9 + 1 := ⟨_, rfl⟩
            have h := zl_e h e_v12
            refine lv_iinc (v := v12) (lv' := [(9, .int v12), (8, .int v11), (2, .int y2), (3, .int y3), (4, .int y4), (5, .int y5), (6, .int y6), (7, .int y7)]) hx hb dX7_askOf_81 hl (k := 7) rfl (by rw [lc_1]; exact e_v12.symm) (by decide) rfl (fun ls hl => ?_)
            refine lv_goto (tgt := 44) hx hb dX7_askOf_84 (by decide) ?_
            exact ih y2 y3 y4 y5 y6 y7 v11 v12 y8o y9o h _ _ _ hI (lv_sub hl [2, 3, 4, 5, 6, 7, 1, 0] rfl) kE
  have w_32 : ∀ (n : Nat) (y2 : Int32) (y3 : Int32) (y4 : Int32) (y5 : Int32) (y6 : Int32) (y7 : Int32) (y6o : Int32) (y7o : Int32), L_X7_askOf_32 σ y2 y3 y4 y5 n y6 y7 = some (y6o, y7o) → ∀ (H : Heap) (locs : List Loc) (ls : Array Slot), zI WM G s σ H locs → lv_has ls 10 [(2, .int y2), (3, .int y3), (4, .int y4), (5, .int y5), (6, .int y6), (7, .int y7)] → (∀ (H : Heap) (locs : List Loc) (ls : Array Slot), zI WM G s σ H locs → lv_has ls 10 [(2, .int y2), (3, .int y3), (4, .int y4), (5, .int y5), (6, .int y6o), (7, .int y7o)] → W p l e (zR 4) s m args below meth c H locs 0 0 Q (F0 m 109 ls [])) → W p l e (zR 4) s m args below meth c H locs 0 0 Q (F0 m 32 ls []) := by
    intro n
    induction n with
    | zero => intro y2 y3 y4 y5 y6 y7 y6o y7o h; cases h
    | succ n ih =>
      intro y2 y3 y4 y5 y6 y7 y6o y7o h H locs ls hI hl kE
      unfold L_X7_askOf_32 at h
      refine lv_iload hx hb dX7_askOf_32 (lv_at hl 5 rfl) ?_
      refine lv_iconst (v := 3) hx hb dX7_askOf_34 lc_3 ?_
      refine lv_icmp_ge (tgt := 109) hx hb dX7_askOf_35 (by decide) (fun hc => ?_) (fun hc => ?_)
      · have h := zi_t hc h
        cases h
        exact kE _ _ _ hI (lv_sub hl [0, 1, 2, 3, 4, 5] rfl)
      · have h := zi_f hc h
        refine lv_iconst (v := 0) hx hb dX7_askOf_38 lc_0 ?_
        refine lv_istore (lv' := [(8, .int 0), (2, .int y2), (3, .int y3), (4, .int y4), (5, .int y5), (6, .int y6), (7, .int y7)]) hx hb dX7_askOf_39 hl (by decide) rfl (fun ls hl => ?_)
        refine lv_iconst (v := 0) hx hb dX7_askOf_41 lc_0 ?_
        refine lv_istore (lv' := [(9, .int 0), (8, .int 0), (2, .int y2), (3, .int y3), (4, .int y4), (5, .int y5), (6, .int y6), (7, .int y7)]) hx hb dX7_askOf_42 hl (by decide) rfl (fun ls hl => ?_)
        obtain ⟨v13, v14, h15, h⟩ := zb2_e h
        refine w_44 100 y2 y3 y4 y5 y6 y7 0 0 v13 v14 h15 _ _ _ hI (lv_sub hl [2, 3, 4, 5, 6, 7, 1, 0] rfl) (fun H locs ls hI hl => ?_)
        refine lv_iload hx hb dX7_askOf_87 (lv_at hl 6 rfl) ?_
        refine lv_iload hx hb dX7_askOf_89 (lv_at hl 4 rfl) ?_
        refine lv_icmp_le (tgt := 99) hx hb dX7_askOf_91 (by decide) (fun hc => ?_) (fun hc => ?_)
        · have h := zi_t hc h
          refine lv_iload hx hb dX7_askOf_99 (lv_at hl 4 rfl) ?_
          refine lv_istore (lv' := [(6, .int y6), (2, .int y2), (3, .int y3), (4, .int y4), (5, .int y5), (7, .int y7), (8, .int v13), (9, .int v14)]) hx hb dX7_askOf_101 hl (by decide) rfl (fun ls hl => ?_)
          obtain ⟨v16, e_v16⟩ : ∃ y : Int32, y = y7 + 1 := ⟨_, rfl⟩
          have h := zl_e h e_v16
          refine lv_iinc (v := v16) (lv' := [(7, .int v16), (6, .int y6), (2, .int y2), (3, .int y3), (4, .int y4), (5, .int y5), (8, .int v13), (9, .int v14)]) hx hb dX7_askOf_103 hl (k := 5) rfl (by rw [lc_1]; exact e_v16.symm) (by decide) rfl (fun ls hl => ?_)
          refine lv_goto (tgt := 32) hx hb dX7_askOf_106 (by decide) ?_
          exact ih y2 y3 y4 y5 y6 v16 y6o y7o h _ _ _ hI (lv_sub hl [2, 3, 4, 5, 1, 0] rfl) kE
        · have h := zi_f hc h
          refine lv_iload hx hb dX7_askOf_94 (lv_at hl 6 rfl) ?_
          refine lv_goto (tgt := 101) hx hb dX7_askOf_96 (by decide) ?_
          refine lv_istore (lv' := [(6, .int v13), (2, .int y2), (3, .int y3), (4, .int y4), (5, .int y5), (7, .int y7), (8, .int v13), (9, .int v14)]) hx hb dX7_askOf_101 hl (by decide) rfl (fun ls hl => ?_)
          obtain ⟨v17, e_v17⟩ : ∃ y : Int32, y = y7 + 1 := ⟨_, rfl⟩
          have h := zl_e h e_v17
          refine lv_iinc (v := v17) (lv' := [(7, .int v17), (6, .int v13), (2, .int y2), (3, .int y3), (4, .int y4), (5, .int y5), (8, .int v13), (9, .int v14)]) hx hb dX7_askOf_103 hl (k := 5) rfl (by rw [lc_1]; exact e_v17.symm) (by decide) rfl (fun ls hl => ?_)
          refine lv_goto (tgt := 32) hx hb dX7_askOf_106 (by decide) ?_
          exact ih y2 y3 y4 y5 v13 v17 y6o y7o h _ _ _ hI (lv_sub hl [2, 3, 4, 5, 1, 0] rfl) kE
  have w_16 : ∀ (n : Nat) (y2 : Int32) (y3 : Int32) (y4 : Int32) (y5 : Int32) (y3o : Int32) (y4o : Int32) (y5o : Int32), L_X7_askOf_16 σ y2 n y3 y4 y5 = some (y3o, y4o, y5o) → ∀ (H : Heap) (locs : List Loc) (ls : Array Slot), zI WM G s σ H locs → lv_has ls 10 [(2, .int y2), (3, .int y3), (4, .int y4), (5, .int y5)] → (∀ (H : Heap) (locs : List Loc) (ls : Array Slot), zI WM G s σ H locs → lv_has ls 10 [(2, .int y2), (3, .int y3o), (4, .int y4o), (5, .int y5o)] → W p l e (zR 4) s m args below meth c H locs 0 0 Q (F0 m 145 ls [])) → W p l e (zR 4) s m args below meth c H locs 0 0 Q (F0 m 16 ls []) := by
    intro n
    induction n with
    | zero => intro y2 y3 y4 y5 y3o y4o y5o h; cases h
    | succ n ih =>
      intro y2 y3 y4 y5 y3o y4o y5o h H locs ls hI hl kE
      unfold L_X7_askOf_16 at h
      refine lv_iload hx hb dX7_askOf_16 (lv_at hl 3 rfl) ?_
      refine lv_iconst (v := 4) hx hb dX7_askOf_18 lc_4 ?_
      refine lv_icmp_ge (tgt := 145) hx hb dX7_askOf_19 (by decide) (fun hc => ?_) (fun hc => ?_)
      · have h := zi_t hc h
        cases h
        exact kE _ _ _ hI (lv_sub hl [0, 1, 2, 3] rfl)
      · have h := zi_f hc h
        refine lv_iload_n hx hb dX7_askOf_22 rfl (lv_at hl 0 rfl) ?_
        refine lv_if_eq (tgt := 145) hx hb dX7_askOf_23 (by decide) (fun hc => ?_) (fun hc => ?_)
        · have h := zi_t hc h
          cases h
          exact kE _ _ _ hI (lv_sub hl [0, 1, 2, 3] rfl)
        · have h := zi_f hc h
          refine lv_iconst (v := 0) hx hb dX7_askOf_26 lc_0 ?_
          refine lv_istore (lv' := [(6, .int 0), (2, .int y2), (3, .int y3), (4, .int y4), (5, .int y5)]) hx hb dX7_askOf_27 hl (by decide) rfl (fun ls hl => ?_)
          refine lv_iconst (v := 0) hx hb dX7_askOf_29 lc_0 ?_
          refine lv_istore (lv' := [(7, .int 0), (6, .int 0), (2, .int y2), (3, .int y3), (4, .int y4), (5, .int y5)]) hx hb dX7_askOf_30 hl (by decide) rfl (fun ls hl => ?_)
          obtain ⟨v18, v19, h20, h⟩ := zb2_e h
          refine w_32 100 y2 y3 y4 y5 0 0 v18 v19 h20 _ _ _ hI (lv_sub hl [2, 3, 4, 5, 1, 0] rfl) (fun H locs ls hI hl => ?_)
          refine lv_iload hx hb dX7_askOf_109 (lv_at hl 4 rfl) ?_
          refine lv_iload hx hb dX7_askOf_111 (lv_at hl 2 rfl) ?_
          refine lv_icmp_ge (tgt := 121) hx hb dX7_askOf_113 (by decide) (fun hc => ?_) (fun hc => ?_)
          · have h := zi_t hc h
            refine lv_iload_n hx hb dX7_askOf_121 rfl (lv_at hl 1 rfl) ?_
            refine lv_istore_n (lv' := [(3, .int y3), (2, .int y2), (4, .int y4), (5, .int y5), (6, .int v18), (7, .int v19)]) hx hb dX7_askOf_122 rfl hl (by decide) rfl (fun ls hl => ?_)
            refine lv_iload hx hb dX7_askOf_123 (lv_at hl 4 rfl) ?_
            refine lv_iload hx hb dX7_askOf_125 (lv_at hl 2 rfl) ?_
            refine lv_icmp_ge (tgt := 135) hx hb dX7_askOf_127 (by decide) (fun hc => ?_) (fun hc => ?_)
            · have h := zi_t hc h
              refine lv_iload hx hb dX7_askOf_135 (lv_at hl 2 rfl) ?_
              refine lv_istore (lv' := [(4, .int y4), (3, .int y3), (2, .int y2), (5, .int y5), (6, .int v18), (7, .int v19)]) hx hb dX7_askOf_137 hl (by decide) rfl (fun ls hl => ?_)
              obtain ⟨v21, e_v21⟩ : ∃ y : Int32, y = y5 + 1 := ⟨_, rfl⟩
              have h := zl_e h e_v21
              refine lv_iinc (v := v21) (lv' := [(5, .int v21), (4, .int y4), (3, .int y3), (2, .int y2), (6, .int v18), (7, .int v19)]) hx hb dX7_askOf_139 hl (k := 3) rfl (by rw [lc_1]; exact e_v21.symm) (by decide) rfl (fun ls hl => ?_)
              refine lv_goto (tgt := 16) hx hb dX7_askOf_142 (by decide) ?_
              exact ih y2 y3 y4 v21 y3o y4o y5o h _ _ _ hI (lv_sub hl [3, 2, 1, 0] rfl) kE
            · have h := zi_f hc h
              refine lv_iload hx hb dX7_askOf_130 (lv_at hl 4 rfl) ?_
              refine lv_goto (tgt := 137) hx hb dX7_askOf_132 (by decide) ?_
              refine lv_istore (lv' := [(4, .int v18), (3, .int y3), (2, .int y2), (5, .int y5), (6, .int v18), (7, .int v19)]) hx hb dX7_askOf_137 hl (by decide) rfl (fun ls hl => ?_)
              obtain ⟨v22, e_v22⟩ : ∃ y : Int32, y = y5 + 1 := ⟨_, rfl⟩
              have h := zl_e h e_v22
              refine lv_iinc (v := v22) (lv' := [(5, .int v22), (4, .int v18), (3, .int y3), (2, .int y2), (6, .int v18), (7, .int v19)]) hx hb dX7_askOf_139 hl (k := 3) rfl (by rw [lc_1]; exact e_v22.symm) (by decide) rfl (fun ls hl => ?_)
              refine lv_goto (tgt := 16) hx hb dX7_askOf_142 (by decide) ?_
              exact ih y2 y3 v18 v22 y3o y4o y5o h _ _ _ hI (lv_sub hl [3, 2, 1, 0] rfl) kE
          · have h := zi_f hc h
            refine lv_iload hx hb dX7_askOf_116 (lv_at hl 3 rfl) ?_
            refine lv_goto (tgt := 122) hx hb dX7_askOf_118 (by decide) ?_
            refine lv_istore_n (lv' := [(3, .int y5), (2, .int y2), (4, .int y4), (5, .int y5), (6, .int v18), (7, .int v19)]) hx hb dX7_askOf_122 rfl hl (by decide) rfl (fun ls hl => ?_)
            refine lv_iload hx hb dX7_askOf_123 (lv_at hl 4 rfl) ?_
            refine lv_iload hx hb dX7_askOf_125 (lv_at hl 2 rfl) ?_
            refine lv_icmp_ge (tgt := 135) hx hb dX7_askOf_127 (by decide) (fun hc => ?_) (fun hc => ?_)
            · have h := zi_t hc h
              refine lv_iload hx hb dX7_askOf_135 (lv_at hl 2 rfl) ?_
              refine lv_istore (lv' := [(4, .int y4), (3, .int y5), (2, .int y2), (5, .int y5), (6, .int v18), (7, .int v19)]) hx hb dX7_askOf_137 hl (by decide) rfl (fun ls hl => ?_)
              obtain ⟨v23, e_v23⟩ : ∃ y : Int32, y = y5 + 1 := ⟨_, rfl⟩
              have h := zl_e h e_v23
              refine lv_iinc (v := v23) (lv' := [(5, .int v23), (4, .int y4), (3, .int y5), (2, .int y2), (6, .int v18), (7, .int v19)]) hx hb dX7_askOf_139 hl (k := 3) rfl (by rw [lc_1]; exact e_v23.symm) (by decide) rfl (fun ls hl => ?_)
              refine lv_goto (tgt := 16) hx hb dX7_askOf_142 (by decide) ?_
              exact ih y2 y5 y4 v23 y3o y4o y5o h _ _ _ hI (lv_sub hl [3, 2, 1, 0] rfl) kE
            · have h := zi_f hc h
              refine lv_iload hx hb dX7_askOf_130 (lv_at hl 4 rfl) ?_
              refine lv_goto (tgt := 137) hx hb dX7_askOf_132 (by decide) ?_
              refine lv_istore (lv' := [(4, .int v18), (3, .int y5), (2, .int y2), (5, .int y5), (6, .int v18), (7, .int v19)]) hx hb dX7_askOf_137 hl (by decide) rfl (fun ls hl => ?_)
              obtain ⟨v24, e_v24⟩ : ∃ y : Int32, y = y5 + 1 := ⟨_, rfl⟩
              have h := zl_e h e_v24
              refine lv_iinc (v := v24) (lv' := [(5, .int v24), (4, .int v18), (3, .int y5), (2, .int y2), (6, .int v18), (7, .int v19)]) hx hb dX7_askOf_139 hl (k := 3) rfl (by rw [lc_1]; exact e_v24.symm) (by decide) rfl (fun ls hl => ?_)
              refine lv_goto (tgt := 16) hx hb dX7_askOf_142 (by decide) ?_
              exact ih y2 y5 v18 v24 y3o y4o y5o h _ _ _ hI (lv_sub hl [3, 2, 1, 0] rfl) kE
  unfold F_X7_askOf at h
  refine lv_aload_n hx hb dX7_askOf_0 rfl (lv_at hl 0 rfl) ?_
  refine lv_iload_n hx hb dX7_askOf_1 rfl (lv_at hl 1 rfl) ?_
  obtain ⟨r2, h1, h⟩ := zb_e h
  refine z_cVi (As := [.int x1]) (rest := []) hx hb hC (hml.trans hl.1.symm) hI (c_X7_sortsOf l G  h1) yyX7_sortsOf q_ml_X7_201 (oX7 G) rfl ⟨Nat.le_of_ble_eq_true rfl, Nat.le_of_ble_eq_true rfl⟩ rfl rfl (Nat.le_of_ble_eq_true rfl) ⟨Nat.le_refl _, Nat.le_refl _⟩ dX7_askOf_2 (fun H locs hI => ?_)
  refine lv_istore_n (lv' := [(2, .int r2), (0, .ref (za G 0)), (1, .int x1)]) hx hb dX7_askOf_5 rfl hl (by decide) rfl (fun ls hl => ?_)
  refine lv_iconst (v := (-1)) hx hb dX7_askOf_6 lc_m1 ?_
  refine lv_istore_n (lv' := [(3, .int (-1)), (2, .int r2), (0, .ref (za G 0)), (1, .int x1)]) hx hb dX7_askOf_7 rfl hl (by decide) rfl (fun ls hl => ?_)
  refine lv_ldcw hx hb hC.1 (hC.ts q_ct_X7_295) dX7_askOf_8 ?_
  refine lv_istore (lv' := [(4, .int 268435456), (3, .int (-1)), (2, .int r2), (0, .ref (za G 0)), (1, .int x1)]) hx hb dX7_askOf_11 hl (by decide) rfl (fun ls hl => ?_)
  refine lv_iconst (v := 1) hx hb dX7_askOf_13 lc_1 ?_
  refine lv_istore (lv' := [(5, .int 1), (4, .int 268435456), (3, .int (-1)), (2, .int r2), (0, .ref (za G 0)), (1, .int x1)]) hx hb dX7_askOf_14 hl (by decide) rfl (fun ls hl => ?_)
  obtain ⟨v25, v26, v27, h28, h⟩ := zb3_e h
  refine w_16 100 r2 (-1) 268435456 1 v25 v26 v27 h28 _ _ _ hI (lv_sub hl [3, 2, 1, 0] rfl) (fun H locs ls hI hl => ?_)
  refine lv_iload_n hx hb dX7_askOf_145 rfl (lv_at hl 1 rfl) ?_
  exact hret ⟨(Option.some.inj h), rfl⟩ hI rfl dX7_askOf_146
set_option maxRecDepth 100000 in
set_option maxHeartbeats 4000000 in
theorem c_X7_nodeNow (l : Launch) (G : zG)  {σ : SF} {r : Int32} {x1 : Int32} {x2 : Int32} (h : F_X7_nodeNow σ  x1 x2 = some r) : zMi l WM G yX7_nodeNow cX7_nodeNow 3 .int 5 [.ref (za G 0), .int x1, .int x2] σ r σ := by
  refine zMi_of (by decide) (Nat.le_of_ble_eq_true rfl) (fun p e s m args below meth c ls Q hx hb hr hlk hml hC hI hl hret => ?_)
  have hl : lv_has ls 3 [(0, .ref (za G 0)), (1, .int x1), (2, .int x2)] := hl
  have hC : zC WM G RX7 args s m := hC
  unfold F_X7_nodeNow at h
  refine lv_iload_n hx hb dX7_nodeNow_0 rfl (lv_at hl 2 rfl) ?_
  by_cases n_1_0 : x2 = 0
  · have h := zi_t n_1_0 h
    refine lv_tableIn (tgt := 52) hx hb dX7_nodeNow_1 (by rw [n_1_0]; decide) (by rw [n_1_0]; decide) (by rw [n_1_0]; rfl) (by decide) ?_
    refine lv_aload_n hx hb dX7_nodeNow_52 rfl (lv_at hl 0 rfl) ?_
    refine gX7_2 hx hb hC hI q_fl_X7_7 dX7_nodeNow_53 ?_
    refine lv_iload_n hx hb dX7_nodeNow_56 rfl (lv_at hl 1 rfl) ?_
    obtain ⟨hg, h⟩ := zg_e h
    refine z_iald hx hb hC hI (vX7_2 G) hg dX7_nodeNow_57 ?_
    exact hret ⟨(Option.some.inj h), rfl⟩ hI rfl dX7_nodeNow_58
  have h := zi_f n_1_0 h
  by_cases n_1_1 : x2 = 1
  · have h := zi_t n_1_1 h
    refine lv_tableIn (tgt := 59) hx hb dX7_nodeNow_1 (by rw [n_1_1]; decide) (by rw [n_1_1]; decide) (by rw [n_1_1]; rfl) (by decide) ?_
    refine lv_aload_n hx hb dX7_nodeNow_59 rfl (lv_at hl 0 rfl) ?_
    refine gX7_3 hx hb hC hI q_fl_X7_13 dX7_nodeNow_60 ?_
    refine lv_iconst (v := 2) hx hb dX7_nodeNow_63 lc_2 ?_
    refine lv_iload_n hx hb dX7_nodeNow_64 rfl (lv_at hl 1 rfl) ?_
    refine lv_imul hx hb dX7_nodeNow_65 ?_
    refine lv_iload_n hx hb dX7_nodeNow_66 rfl (lv_at hl 2 rfl) ?_
    refine lv_iadd hx hb dX7_nodeNow_67 ?_
    refine lv_iconst (v := 1) hx hb dX7_nodeNow_68 lc_1 ?_
    refine lv_isub hx hb dX7_nodeNow_69 ?_
    refine lv_topi (fun v1 e_v1 => ?_)
    have h := zl_e h e_v1
    obtain ⟨hg, h⟩ := zg_e h
    refine z_iald hx hb hC hI (vX7_3 G) hg dX7_nodeNow_70 ?_
    exact hret ⟨(Option.some.inj h), rfl⟩ hI rfl dX7_nodeNow_71
  have h := zi_f n_1_1 h
  by_cases n_1_2 : x2 = 2
  · have h := zi_t n_1_2 h
    refine lv_tableIn (tgt := 59) hx hb dX7_nodeNow_1 (by rw [n_1_2]; decide) (by rw [n_1_2]; decide) (by rw [n_1_2]; rfl) (by decide) ?_
    refine lv_aload_n hx hb dX7_nodeNow_59 rfl (lv_at hl 0 rfl) ?_
    refine gX7_3 hx hb hC hI q_fl_X7_13 dX7_nodeNow_60 ?_
    refine lv_iconst (v := 2) hx hb dX7_nodeNow_63 lc_2 ?_
    refine lv_iload_n hx hb dX7_nodeNow_64 rfl (lv_at hl 1 rfl) ?_
    refine lv_imul hx hb dX7_nodeNow_65 ?_
    refine lv_iload_n hx hb dX7_nodeNow_66 rfl (lv_at hl 2 rfl) ?_
    refine lv_iadd hx hb dX7_nodeNow_67 ?_
    refine lv_iconst (v := 1) hx hb dX7_nodeNow_68 lc_1 ?_
    refine lv_isub hx hb dX7_nodeNow_69 ?_
    refine lv_topi (fun v2 e_v2 => ?_)
    have h := zl_e h e_v2
    obtain ⟨hg, h⟩ := zg_e h
    refine z_iald hx hb hC hI (vX7_3 G) hg dX7_nodeNow_70 ?_
    exact hret ⟨(Option.some.inj h), rfl⟩ hI rfl dX7_nodeNow_71
  have h := zi_f n_1_2 h
  by_cases n_1_3 : x2 = 3
  · have h := zi_t n_1_3 h
    refine lv_tableIn (tgt := 72) hx hb dX7_nodeNow_1 (by rw [n_1_3]; decide) (by rw [n_1_3]; decide) (by rw [n_1_3]; rfl) (by decide) ?_
    refine lv_aload_n hx hb dX7_nodeNow_72 rfl (lv_at hl 0 rfl) ?_
    refine gX7_22 hx hb hC hI q_fl_X7_143 dX7_nodeNow_73 ?_
    refine lv_iload_n hx hb dX7_nodeNow_76 rfl (lv_at hl 1 rfl) ?_
    obtain ⟨r4, h3, h⟩ := zb_e h
    refine z_cSi (As := [.int (σ 0 22), .int x1]) (rest := []) hx hb hC (hml.trans hl.1.symm) hI (c_X7_isIn l G  (σ := σ) h3) yyX7_isIn q_ml_X7_139 ⟨Nat.le_of_ble_eq_true rfl, Nat.le_of_ble_eq_true rfl⟩ rfl rfl (Nat.le_of_ble_eq_true rfl) ⟨Nat.le_refl _, Nat.le_refl _⟩ dX7_nodeNow_77 (fun H locs hI => ?_)
    refine lv_if_eq (tgt := 92) hx hb dX7_nodeNow_80 (by decide) (fun hc => ?_) (fun hc => ?_)
    · have h := zi_t hc h
      refine lv_iconst (v := (-1)) hx hb dX7_nodeNow_92 lc_m1 ?_
      exact hret ⟨(Option.some.inj h), rfl⟩ hI rfl dX7_nodeNow_93
    · have h := zi_f hc h
      refine lv_aload_n hx hb dX7_nodeNow_83 rfl (lv_at hl 0 rfl) ?_
      refine gX7_25 hx hb hC hI q_fl_X7_47 dX7_nodeNow_84 ?_
      refine lv_iload_n hx hb dX7_nodeNow_87 rfl (lv_at hl 1 rfl) ?_
      obtain ⟨hg, h⟩ := zg_e h
      refine z_iald hx hb hC hI (vX7_25 G) hg dX7_nodeNow_88 ?_
      refine lv_goto (tgt := 93) hx hb dX7_nodeNow_89 (by decide) ?_
      exact hret ⟨(Option.some.inj h), rfl⟩ hI rfl dX7_nodeNow_93
  have h := zi_f n_1_3 h
  by_cases n_1_4 : x2 = 4
  · have h := zi_t n_1_4 h
    refine lv_tableIn (tgt := 94) hx hb dX7_nodeNow_1 (by rw [n_1_4]; decide) (by rw [n_1_4]; decide) (by rw [n_1_4]; rfl) (by decide) ?_
    refine lv_aload_n hx hb dX7_nodeNow_94 rfl (lv_at hl 0 rfl) ?_
    refine gX7_27 hx hb hC hI q_fl_X7_53 dX7_nodeNow_95 ?_
    refine lv_iload_n hx hb dX7_nodeNow_98 rfl (lv_at hl 1 rfl) ?_
    obtain ⟨hg, h⟩ := zg_e h
    refine z_iald hx hb hC hI (vX7_27 G) hg dX7_nodeNow_99 ?_
    exact hret ⟨(Option.some.inj h), rfl⟩ hI rfl dX7_nodeNow_100
  have h := zi_f n_1_4 h
  by_cases n_1_5 : x2 = 5
  · have h := zi_t n_1_5 h
    refine lv_tableIn (tgt := 101) hx hb dX7_nodeNow_1 (by rw [n_1_5]; decide) (by rw [n_1_5]; decide) (by rw [n_1_5]; rfl) (by decide) ?_
    refine lv_aload_n hx hb dX7_nodeNow_101 rfl (lv_at hl 0 rfl) ?_
    refine gX7_31 hx hb hC hI q_fl_X7_168 dX7_nodeNow_102 ?_
    refine lv_iload_n hx hb dX7_nodeNow_105 rfl (lv_at hl 1 rfl) ?_
    obtain ⟨r6, h5, h⟩ := zb_e h
    refine z_cSi (As := [.int (σ 0 31), .int x1]) (rest := []) hx hb hC (hml.trans hl.1.symm) hI (c_X7_isIn l G  (σ := σ) h5) yyX7_isIn q_ml_X7_139 ⟨Nat.le_of_ble_eq_true rfl, Nat.le_of_ble_eq_true rfl⟩ rfl rfl (Nat.le_of_ble_eq_true rfl) ⟨Nat.le_refl _, Nat.le_refl _⟩ dX7_nodeNow_106 (fun H locs hI => ?_)
    refine lv_if_eq (tgt := 116) hx hb dX7_nodeNow_109 (by decide) (fun hc => ?_) (fun hc => ?_)
    · have h := zi_t hc h
      refine lv_iconst (v := 0) hx hb dX7_nodeNow_116 lc_0 ?_
      exact hret ⟨(Option.some.inj h), rfl⟩ hI rfl dX7_nodeNow_117
    · have h := zi_f hc h
      refine lv_iconst (v := 1) hx hb dX7_nodeNow_112 lc_1 ?_
      refine lv_goto (tgt := 117) hx hb dX7_nodeNow_113 (by decide) ?_
      exact hret ⟨(Option.some.inj h), rfl⟩ hI rfl dX7_nodeNow_117
  have h := zi_f n_1_5 h
  by_cases n_1_6 : x2 = 6
  · have h := zi_t n_1_6 h
    refine lv_tableIn (tgt := 118) hx hb dX7_nodeNow_1 (by rw [n_1_6]; decide) (by rw [n_1_6]; decide) (by rw [n_1_6]; rfl) (by decide) ?_
    refine lv_aload_n hx hb dX7_nodeNow_118 rfl (lv_at hl 0 rfl) ?_
    refine gX7_32 hx hb hC hI q_fl_X7_171 dX7_nodeNow_119 ?_
    refine lv_iload_n hx hb dX7_nodeNow_122 rfl (lv_at hl 1 rfl) ?_
    obtain ⟨r8, h7, h⟩ := zb_e h
    refine z_cSi (As := [.int (σ 0 32), .int x1]) (rest := []) hx hb hC (hml.trans hl.1.symm) hI (c_X7_isIn l G  (σ := σ) h7) yyX7_isIn q_ml_X7_139 ⟨Nat.le_of_ble_eq_true rfl, Nat.le_of_ble_eq_true rfl⟩ rfl rfl (Nat.le_of_ble_eq_true rfl) ⟨Nat.le_refl _, Nat.le_refl _⟩ dX7_nodeNow_123 (fun H locs hI => ?_)
    refine lv_if_eq (tgt := 133) hx hb dX7_nodeNow_126 (by decide) (fun hc => ?_) (fun hc => ?_)
    · have h := zi_t hc h
      refine lv_iconst (v := 0) hx hb dX7_nodeNow_133 lc_0 ?_
      exact hret ⟨(Option.some.inj h), rfl⟩ hI rfl dX7_nodeNow_134
    · have h := zi_f hc h
      refine lv_iconst (v := 1) hx hb dX7_nodeNow_129 lc_1 ?_
      refine lv_goto (tgt := 134) hx hb dX7_nodeNow_130 (by decide) ?_
      exact hret ⟨(Option.some.inj h), rfl⟩ hI rfl dX7_nodeNow_134
  have h := zi_f n_1_6 h
  by_cases n_1_7 : x2 = 7
  · have h := zi_t n_1_7 h
    refine lv_tableIn (tgt := 135) hx hb dX7_nodeNow_1 (by rw [n_1_7]; decide) (by rw [n_1_7]; decide) (by rw [n_1_7]; rfl) (by decide) ?_
    refine lv_aload_n hx hb dX7_nodeNow_135 rfl (lv_at hl 0 rfl) ?_
    refine lv_iload_n hx hb dX7_nodeNow_136 rfl (lv_at hl 1 rfl) ?_
    obtain ⟨r10, h9, h⟩ := zb_e h
    refine z_cVi (As := [.int x1]) (rest := []) hx hb hC (hml.trans hl.1.symm) hI (c_X7_dominated l G  h9) yyX7_dominated q_ml_X7_198 (oX7 G) rfl ⟨Nat.le_of_ble_eq_true rfl, Nat.le_of_ble_eq_true rfl⟩ rfl rfl (Nat.le_of_ble_eq_true rfl) ⟨Nat.le_refl _, Nat.le_refl _⟩ dX7_nodeNow_137 (fun H locs hI => ?_)
    exact hret ⟨(Option.some.inj h), rfl⟩ hI rfl dX7_nodeNow_140
  have h := zi_f n_1_7 h
  by_cases n_1_8 : x2 = 8
  · have h := zi_t n_1_8 h
    refine lv_tableIn (tgt := 141) hx hb dX7_nodeNow_1 (by rw [n_1_8]; decide) (by rw [n_1_8]; decide) (by rw [n_1_8]; rfl) (by decide) ?_
    refine lv_aload_n hx hb dX7_nodeNow_141 rfl (lv_at hl 0 rfl) ?_
    refine lv_iload_n hx hb dX7_nodeNow_142 rfl (lv_at hl 1 rfl) ?_
    obtain ⟨r12, h11, h⟩ := zb_e h
    refine z_cVi (As := [.int x1]) (rest := []) hx hb hC (hml.trans hl.1.symm) hI (c_X7_sortsOf l G  h11) yyX7_sortsOf q_ml_X7_201 (oX7 G) rfl ⟨Nat.le_of_ble_eq_true rfl, Nat.le_of_ble_eq_true rfl⟩ rfl rfl (Nat.le_of_ble_eq_true rfl) ⟨Nat.le_refl _, Nat.le_refl _⟩ dX7_nodeNow_143 (fun H locs hI => ?_)
    exact hret ⟨(Option.some.inj h), rfl⟩ hI rfl dX7_nodeNow_146
  have h := zi_f n_1_8 h
  have t_1 : (x2 : Int32).toInt ≠ 0 ∧ (x2 : Int32).toInt ≠ 1 ∧ (x2 : Int32).toInt ≠ 2 ∧ (x2 : Int32).toInt ≠ 3 ∧ (x2 : Int32).toInt ≠ 4 ∧ (x2 : Int32).toInt ≠ 5 ∧ (x2 : Int32).toInt ≠ 6 ∧ (x2 : Int32).toInt ≠ 7 ∧ (x2 : Int32).toInt ≠ 8 := by
    exact ⟨zne_toInt n_1_0, zne_toInt n_1_1, zne_toInt n_1_2, zne_toInt n_1_3, zne_toInt n_1_4, zne_toInt n_1_5, zne_toInt n_1_6, zne_toInt n_1_7, zne_toInt n_1_8⟩
  refine lv_tableOut (tgt := 147) hx hb dX7_nodeNow_1 (by omega) (by decide) ?_
  refine lv_aload_n hx hb dX7_nodeNow_147 rfl (lv_at hl 0 rfl) ?_
  refine lv_iload_n hx hb dX7_nodeNow_148 rfl (lv_at hl 1 rfl) ?_
  obtain ⟨r14, h13, h⟩ := zb_e h
  refine z_cVi (As := [.int x1]) (rest := []) hx hb hC (hml.trans hl.1.symm) hI (c_X7_askOf l G  h13) yyX7_askOf q_ml_X7_204 (oX7 G) rfl ⟨Nat.le_of_ble_eq_true rfl, Nat.le_of_ble_eq_true rfl⟩ rfl rfl (Nat.le_of_ble_eq_true rfl) ⟨Nat.le_refl _, Nat.le_refl _⟩ dX7_nodeNow_149 (fun H locs hI => ?_)
  exact hret ⟨(Option.some.inj h), rfl⟩ hI rfl dX7_nodeNow_152
set_option maxRecDepth 100000 in
set_option maxHeartbeats 4000000 in
theorem c_X7_node (l : Launch) (G : zG)  {σ σ' : SF} {r : Int32} {x1 : Int32} {x2 : Int32} (h : F_X7_node σ  x1 x2 = some (r, σ')) : zMi l WM G yX7_node cX7_node 3 .int 7 [.ref (za G 0), .int x1, .int x2] σ r σ' := by
  refine zMi_of (by decide) (Nat.le_of_ble_eq_true rfl) (fun p e s m args below meth c ls Q hx hb hr hlk hml hC hI hl hret => ?_)
  have hl : lv_has ls 3 [(0, .ref (za G 0)), (1, .int x1), (2, .int x2)] := hl
  have hC : zC WM G RX7 args s m := hC
  unfold F_X7_node at h
  refine lv_aload_n hx hb dX7_node_0 rfl (lv_at hl 0 rfl) ?_
  refine lv_iload_n hx hb dX7_node_1 rfl (lv_at hl 1 rfl) ?_
  obtain ⟨r2, h1, h⟩ := zb_e h
  refine z_cVi (As := [.int x1]) (rest := []) hx hb hC (hml.trans hl.1.symm) hI (c_X7_isNode l G  h1) yyX7_isNode q_ml_X7_207 (oX7 G) rfl ⟨Nat.le_of_ble_eq_true rfl, Nat.le_of_ble_eq_true rfl⟩ rfl rfl (Nat.le_of_ble_eq_true rfl) ⟨Nat.le_refl _, Nat.le_refl _⟩ dX7_node_2 (fun H locs hI => ?_)
  refine lv_if_ne (tgt := 11) hx hb dX7_node_5 (by decide) (fun hc => ?_) (fun hc => ?_)
  · have h := zi_f hc h
    refine lv_iload_n hx hb dX7_node_11 rfl (lv_at hl 2 rfl) ?_
    refine lv_iconst (v := 0) hx hb dX7_node_12 lc_0 ?_
    refine lv_bipush (v := 9) hx hb dX7_node_13 lb_9 ?_
    obtain ⟨r4, h3, h⟩ := zb_e h
    refine z_cSi (As := [.int x2, .int 0, .int 9]) (rest := []) hx hb hC (hml.trans hl.1.symm) hI (c_X7_within l G  (σ := σ) h3) yyX7_within q_ml_X7_89 ⟨Nat.le_of_ble_eq_true rfl, Nat.le_of_ble_eq_true rfl⟩ rfl rfl (Nat.le_of_ble_eq_true rfl) ⟨Nat.le_refl _, Nat.le_refl _⟩ dX7_node_15 (fun H locs hI => ?_)
    refine lv_if_ne (tgt := 24) hx hb dX7_node_18 (by decide) (fun hc => ?_) (fun hc => ?_)
    · have h := zi_f hc h
      refine lv_aload_n hx hb dX7_node_24 rfl (lv_at hl 0 rfl) ?_
      obtain ⟨σ6, h5, h⟩ := zb_e h
      refine z_cVv (As := []) (rest := []) hx hb hC (hml.trans hl.1.symm) hI (c_X7_layNow l G  h5) yyX7_layNow q_ml_X7_210 (oX7 G) rfl ⟨Nat.le_of_ble_eq_true rfl, Nat.le_of_ble_eq_true rfl⟩ rfl rfl (Nat.le_of_ble_eq_true rfl) ⟨Nat.le_refl _, Nat.le_refl _⟩ dX7_node_25 (fun H locs hI => ?_)
      refine lv_aload_n hx hb dX7_node_28 rfl (lv_at hl 0 rfl) ?_
      refine lv_iload_n hx hb dX7_node_29 rfl (lv_at hl 1 rfl) ?_
      refine lv_iload_n hx hb dX7_node_30 rfl (lv_at hl 2 rfl) ?_
      obtain ⟨r8, h7, h⟩ := zb_e h
      refine z_cVi (As := [.int x1, .int x2]) (rest := []) hx hb hC (hml.trans hl.1.symm) hI (c_X7_nodeNow l G  h7) yyX7_nodeNow q_ml_X7_213 (oX7 G) rfl ⟨Nat.le_of_ble_eq_true rfl, Nat.le_of_ble_eq_true rfl⟩ rfl rfl (Nat.le_of_ble_eq_true rfl) ⟨Nat.le_refl _, Nat.le_refl _⟩ dX7_node_31 (fun H locs hI => ?_)
      exact hret ⟨congrArg Prod.fst (Option.some.inj h), congrArg Prod.snd (Option.some.inj h)⟩ hI rfl dX7_node_34
    · have h := zi_t hc h
      refine lv_bipush (v := (-102)) hx hb dX7_node_21 lb_m102 ?_
      exact hret ⟨congrArg Prod.fst (Option.some.inj h), congrArg Prod.snd (Option.some.inj h)⟩ hI rfl dX7_node_23
  · have h := zi_t hc h
    refine lv_bipush (v := (-101)) hx hb dX7_node_8 lb_m101 ?_
    exact hret ⟨congrArg Prod.fst (Option.some.inj h), congrArg Prod.snd (Option.some.inj h)⟩ hI rfl dX7_node_10
set_option maxRecDepth 100000 in
set_option maxHeartbeats 4000000 in
theorem c_X7_as (l : Launch) (G : zG)  {σ : SF} {r : Int32} {x1 : Int32} {x2 : Int32} (h : F_X7_as σ  x1 x2 = some r) : zMi l WM G yX7_as cX7_as 4 .int 3 [.ref (za G 0), .int x1, .int x2] σ r σ := by
  refine zMi_of (by decide) (Nat.le_of_ble_eq_true rfl) (fun p e s m args below meth c ls Q hx hb hr hlk hml hC hI hl hret => ?_)
  have hl : lv_has ls 4 [(0, .ref (za G 0)), (1, .int x1), (2, .int x2)] := hl
  have hC : zC WM G RX7 args s m := hC
  unfold F_X7_as at h
  refine lv_aload_n hx hb dX7_as_0 rfl (lv_at hl 0 rfl) ?_
  refine lv_iload_n hx hb dX7_as_1 rfl (lv_at hl 1 rfl) ?_
  obtain ⟨r2, h1, h⟩ := zb_e h
  refine z_cVi (As := [.int x1]) (rest := []) hx hb hC (hml.trans hl.1.symm) hI (c_X7_isNode l G  h1) yyX7_isNode q_ml_X7_207 (oX7 G) rfl ⟨Nat.le_of_ble_eq_true rfl, Nat.le_of_ble_eq_true rfl⟩ rfl rfl (Nat.le_of_ble_eq_true rfl) ⟨Nat.le_refl _, Nat.le_refl _⟩ dX7_as_2 (fun H locs hI => ?_)
  refine lv_if_ne (tgt := 11) hx hb dX7_as_5 (by decide) (fun hc => ?_) (fun hc => ?_)
  · have h := zi_f hc h
    refine lv_iload_n hx hb dX7_as_11 rfl (lv_at hl 2 rfl) ?_
    refine lv_iconst (v := 0) hx hb dX7_as_12 lc_0 ?_
    refine lv_iconst (v := 4) hx hb dX7_as_13 lc_4 ?_
    obtain ⟨r4, h3, h⟩ := zb_e h
    refine z_cSi (As := [.int x2, .int 0, .int 4]) (rest := []) hx hb hC (hml.trans hl.1.symm) hI (c_X7_within l G  (σ := σ) h3) yyX7_within q_ml_X7_89 ⟨Nat.le_of_ble_eq_true rfl, Nat.le_of_ble_eq_true rfl⟩ rfl rfl (Nat.le_of_ble_eq_true rfl) ⟨Nat.le_refl _, Nat.le_refl _⟩ dX7_as_14 (fun H locs hI => ?_)
    refine lv_if_ne (tgt := 23) hx hb dX7_as_17 (by decide) (fun hc => ?_) (fun hc => ?_)
    · have h := zi_f hc h
      refine lv_aload_n hx hb dX7_as_23 rfl (lv_at hl 0 rfl) ?_
      refine gX7_2 hx hb hC hI q_fl_X7_7 dX7_as_24 ?_
      refine lv_iload_n hx hb dX7_as_27 rfl (lv_at hl 1 rfl) ?_
      obtain ⟨hg, h⟩ := zg_e h
      refine z_iald hx hb hC hI (vX7_2 G) hg dX7_as_28 ?_
      refine lv_topi (fun v5 e_v5 => ?_)
      have h := zl_e h e_v5
      refine lv_istore_n (lv' := [(3, .int v5), (0, .ref (za G 0)), (1, .int x1), (2, .int x2)]) hx hb dX7_as_29 rfl hl (by decide) rfl (fun ls hl => ?_)
      refine lv_iload_n hx hb dX7_as_30 rfl (lv_at hl 3 rfl) ?_
      refine lv_if_eq (tgt := 49) hx hb dX7_as_31 (by decide) (fun hc => ?_) (fun hc => ?_)
      · have h := zi_t hc h
        refine lv_iload_n hx hb dX7_as_49 rfl (lv_at hl 2 rfl) ?_
        refine lv_goto (tgt := 54) hx hb dX7_as_50 (by decide) ?_
        exact hret ⟨(Option.some.inj h), rfl⟩ hI rfl dX7_as_54
      · have h := zi_f hc h
        refine lv_iload_n hx hb dX7_as_34 rfl (lv_at hl 0 rfl) ?_
        refine lv_iload_n hx hb dX7_as_35 rfl (lv_at hl 3 rfl) ?_
        refine lv_icmp_eq (tgt := 49) hx hb dX7_as_36 (by decide) (fun hc => ?_) (fun hc => ?_)
        · have h := zi_t hc h
          refine lv_iload_n hx hb dX7_as_49 rfl (lv_at hl 2 rfl) ?_
          refine lv_goto (tgt := 54) hx hb dX7_as_50 (by decide) ?_
          exact hret ⟨(Option.some.inj h), rfl⟩ hI rfl dX7_as_54
        · have h := zi_f hc h
          refine lv_iload_n hx hb dX7_as_39 rfl (lv_at hl 3 rfl) ?_
          refine lv_iconst (v := 3) hx hb dX7_as_40 lc_3 ?_
          refine lv_icmp_ne (tgt := 53) hx hb dX7_as_41 (by decide) (fun hc => ?_) (fun hc => ?_)
          · have h := zi_f hc h
            refine lv_iconst (v := (-1)) hx hb dX7_as_53 lc_m1 ?_
            exact hret ⟨(Option.some.inj h), rfl⟩ hI rfl dX7_as_54
          · have h := zi_t hc h
            refine lv_iload_n hx hb dX7_as_44 rfl (lv_at hl 0 rfl) ?_
            refine lv_iconst (v := 4) hx hb dX7_as_45 lc_4 ?_
            refine lv_icmp_ne (tgt := 53) hx hb dX7_as_46 (by decide) (fun hc => ?_) (fun hc => ?_)
            · have h := zi_f hc h
              refine lv_iconst (v := (-1)) hx hb dX7_as_53 lc_m1 ?_
              exact hret ⟨(Option.some.inj h), rfl⟩ hI rfl dX7_as_54
            · have h := zi_t hc h
              refine lv_iload_n hx hb dX7_as_49 rfl (lv_at hl 2 rfl) ?_
              refine lv_goto (tgt := 54) hx hb dX7_as_50 (by decide) ?_
              exact hret ⟨(Option.some.inj h), rfl⟩ hI rfl dX7_as_54
    · have h := zi_t hc h
      refine lv_bipush (v := (-102)) hx hb dX7_as_20 lb_m102 ?_
      exact hret ⟨(Option.some.inj h), rfl⟩ hI rfl dX7_as_22
  · have h := zi_t hc h
    refine lv_bipush (v := (-101)) hx hb dX7_as_8 lb_m101 ?_
    exact hret ⟨(Option.some.inj h), rfl⟩ hI rfl dX7_as_10
set_option maxRecDepth 100000 in
set_option maxHeartbeats 4000000 in
theorem c_X7_dominates (l : Launch) (G : zG)  {σ σ' : SF} {r : Int32} {x1 : Int32} {x2 : Int32} (h : F_X7_dominates σ  x1 x2 = some (r, σ')) : zMi l WM G yX7_dominates cX7_dominates 3 .int 7 [.ref (za G 0), .int x1, .int x2] σ r σ' := by
  refine zMi_of (by decide) (Nat.le_of_ble_eq_true rfl) (fun p e s m args below meth c ls Q hx hb hr hlk hml hC hI hl hret => ?_)
  have hl : lv_has ls 3 [(0, .ref (za G 0)), (1, .int x1), (2, .int x2)] := hl
  have hC : zC WM G RX7 args s m := hC
  unfold F_X7_dominates at h
  refine lv_aload_n hx hb dX7_dominates_0 rfl (lv_at hl 0 rfl) ?_
  refine lv_iload_n hx hb dX7_dominates_1 rfl (lv_at hl 1 rfl) ?_
  obtain ⟨r2, h1, h⟩ := zb_e h
  refine z_cVi (As := [.int x1]) (rest := []) hx hb hC (hml.trans hl.1.symm) hI (c_X7_isNode l G  h1) yyX7_isNode q_ml_X7_207 (oX7 G) rfl ⟨Nat.le_of_ble_eq_true rfl, Nat.le_of_ble_eq_true rfl⟩ rfl rfl (Nat.le_of_ble_eq_true rfl) ⟨Nat.le_refl _, Nat.le_refl _⟩ dX7_dominates_2 (fun H locs hI => ?_)
  refine lv_if_eq (tgt := 16) hx hb dX7_dominates_5 (by decide) (fun hc => ?_) (fun hc => ?_)
  · have h := zi_t hc h
    refine lv_bipush (v := (-101)) hx hb dX7_dominates_16 lb_m101 ?_
    exact hret ⟨congrArg Prod.fst (Option.some.inj h), congrArg Prod.snd (Option.some.inj h)⟩ hI rfl dX7_dominates_18
  · have h := zi_f hc h
    refine lv_aload_n hx hb dX7_dominates_8 rfl (lv_at hl 0 rfl) ?_
    refine lv_iload_n hx hb dX7_dominates_9 rfl (lv_at hl 2 rfl) ?_
    obtain ⟨r4, h3, h⟩ := zb_e h
    refine z_cVi (As := [.int x2]) (rest := []) hx hb hC (hml.trans hl.1.symm) hI (c_X7_isNode l G  h3) yyX7_isNode q_ml_X7_207 (oX7 G) rfl ⟨Nat.le_of_ble_eq_true rfl, Nat.le_of_ble_eq_true rfl⟩ rfl rfl (Nat.le_of_ble_eq_true rfl) ⟨Nat.le_refl _, Nat.le_refl _⟩ dX7_dominates_10 (fun H locs hI => ?_)
    refine lv_if_ne (tgt := 19) hx hb dX7_dominates_13 (by decide) (fun hc => ?_) (fun hc => ?_)
    · have h := zi_f hc h
      refine lv_aload_n hx hb dX7_dominates_19 rfl (lv_at hl 0 rfl) ?_
      obtain ⟨σ6, h5, h⟩ := zb_e h
      refine z_cVv (As := []) (rest := []) hx hb hC (hml.trans hl.1.symm) hI (c_X7_layNow l G  h5) yyX7_layNow q_ml_X7_210 (oX7 G) rfl ⟨Nat.le_of_ble_eq_true rfl, Nat.le_of_ble_eq_true rfl⟩ rfl rfl (Nat.le_of_ble_eq_true rfl) ⟨Nat.le_refl _, Nat.le_refl _⟩ dX7_dominates_20 (fun H locs hI => ?_)
      refine lv_aload_n hx hb dX7_dominates_23 rfl (lv_at hl 0 rfl) ?_
      refine gX7_26 hx hb hC hI q_fl_X7_50 dX7_dominates_24 ?_
      refine lv_iload_n hx hb dX7_dominates_27 rfl (lv_at hl 2 rfl) ?_
      obtain ⟨hg, h⟩ := zg_e h
      refine z_iald hx hb hC hI (vX7_26 G) hg dX7_dominates_28 ?_
      refine lv_iload_n hx hb dX7_dominates_29 rfl (lv_at hl 1 rfl) ?_
      obtain ⟨r8, h7, h⟩ := zb_e h
      refine z_cSi (As := [.int (σ6 14 (x2 : Int32).toNatClampNeg), .int x1]) (rest := []) hx hb hC (hml.trans hl.1.symm) hI (c_X7_isIn l G  (σ := σ6) h7) yyX7_isIn q_ml_X7_139 ⟨Nat.le_of_ble_eq_true rfl, Nat.le_of_ble_eq_true rfl⟩ rfl rfl (Nat.le_of_ble_eq_true rfl) ⟨Nat.le_refl _, Nat.le_refl _⟩ dX7_dominates_30 (fun H locs hI => ?_)
      refine lv_if_eq (tgt := 40) hx hb dX7_dominates_33 (by decide) (fun hc => ?_) (fun hc => ?_)
      · have h := zi_t hc h
        refine lv_iconst (v := 0) hx hb dX7_dominates_40 lc_0 ?_
        exact hret ⟨congrArg Prod.fst (Option.some.inj h), congrArg Prod.snd (Option.some.inj h)⟩ hI rfl dX7_dominates_41
      · have h := zi_f hc h
        refine lv_iconst (v := 1) hx hb dX7_dominates_36 lc_1 ?_
        refine lv_goto (tgt := 41) hx hb dX7_dominates_37 (by decide) ?_
        exact hret ⟨congrArg Prod.fst (Option.some.inj h), congrArg Prod.snd (Option.some.inj h)⟩ hI rfl dX7_dominates_41
    · have h := zi_t hc h
      refine lv_bipush (v := (-101)) hx hb dX7_dominates_16 lb_m101 ?_
      exact hret ⟨congrArg Prod.fst (Option.some.inj h), congrArg Prod.snd (Option.some.inj h)⟩ hI rfl dX7_dominates_18
set_option maxRecDepth 100000 in
set_option maxHeartbeats 4000000 in
theorem c_X7_edgeNow (l : Launch) (G : zG)  {σ : SF} {r : Int32} {x1 : Int32} (h : F_X7_edgeNow σ  x1 = some r) : zMi l WM G yX7_edgeNow cX7_edgeNow 2 .int 4 [.ref (za G 0), .int x1] σ r σ := by
  refine zMi_of (by decide) (Nat.le_of_ble_eq_true rfl) (fun p e s m args below meth c ls Q hx hb hr hlk hml hC hI hl hret => ?_)
  have hl : lv_has ls 2 [(0, .ref (za G 0)), (1, .int x1)] := hl
  have hC : zC WM G RX7 args s m := hC
  unfold F_X7_edgeNow at h
  refine lv_aload_n hx hb dX7_edgeNow_0 rfl (lv_at hl 0 rfl) ?_
  refine lv_iload_n hx hb dX7_edgeNow_1 rfl (lv_at hl 1 rfl) ?_
  obtain ⟨r2, h1, h⟩ := zb_e h
  refine z_cVi (As := [.int x1]) (rest := []) hx hb hC (hml.trans hl.1.symm) hI (c_X7_isLive l G  h1) yyX7_isLive q_ml_X7_174 (oX7 G) rfl ⟨Nat.le_of_ble_eq_true rfl, Nat.le_of_ble_eq_true rfl⟩ rfl rfl (Nat.le_of_ble_eq_true rfl) ⟨Nat.le_refl _, Nat.le_refl _⟩ dX7_edgeNow_2 (fun H locs hI => ?_)
  refine lv_if_ne (tgt := 12) hx hb dX7_edgeNow_5 (by decide) (fun hc => ?_) (fun hc => ?_)
  · have h := zi_f hc h
    refine lv_aload_n hx hb dX7_edgeNow_12 rfl (lv_at hl 0 rfl) ?_
    refine lv_iload_n hx hb dX7_edgeNow_13 rfl (lv_at hl 1 rfl) ?_
    obtain ⟨r4, h3, h⟩ := zb_e h
    refine z_cVi (As := [.int x1]) (rest := []) hx hb hC (hml.trans hl.1.symm) hI (c_X7_isBack l G  h3) yyX7_isBack q_ml_X7_177 (oX7 G) rfl ⟨Nat.le_of_ble_eq_true rfl, Nat.le_of_ble_eq_true rfl⟩ rfl rfl (Nat.le_of_ble_eq_true rfl) ⟨Nat.le_refl _, Nat.le_refl _⟩ dX7_edgeNow_14 (fun H locs hI => ?_)
    refine lv_if_eq (tgt := 24) hx hb dX7_edgeNow_17 (by decide) (fun hc => ?_) (fun hc => ?_)
    · have h := zi_t hc h
      refine lv_aload_n hx hb dX7_edgeNow_24 rfl (lv_at hl 0 rfl) ?_
      refine lv_iload_n hx hb dX7_edgeNow_25 rfl (lv_at hl 1 rfl) ?_
      obtain ⟨r6, h5, h⟩ := zb_e h
      refine z_cVi (As := [.int x1]) (rest := []) hx hb hC (hml.trans hl.1.symm) hI (c_X7_retreats l G  h5) yyX7_retreats q_ml_X7_180 (oX7 G) rfl ⟨Nat.le_of_ble_eq_true rfl, Nat.le_of_ble_eq_true rfl⟩ rfl rfl (Nat.le_of_ble_eq_true rfl) ⟨Nat.le_refl _, Nat.le_refl _⟩ dX7_edgeNow_26 (fun H locs hI => ?_)
      refine lv_if_eq (tgt := 36) hx hb dX7_edgeNow_29 (by decide) (fun hc => ?_) (fun hc => ?_)
      · have h := zi_t hc h
        refine lv_iconst (v := 0) hx hb dX7_edgeNow_36 lc_0 ?_
        exact hret ⟨(Option.some.inj h), rfl⟩ hI rfl dX7_edgeNow_37
      · have h := zi_f hc h
        refine lv_iconst (v := 2) hx hb dX7_edgeNow_32 lc_2 ?_
        refine lv_goto (tgt := 37) hx hb dX7_edgeNow_33 (by decide) ?_
        exact hret ⟨(Option.some.inj h), rfl⟩ hI rfl dX7_edgeNow_37
    · have h := zi_f hc h
      refine lv_iconst (v := 1) hx hb dX7_edgeNow_20 lc_1 ?_
      refine lv_goto (tgt := 37) hx hb dX7_edgeNow_21 (by decide) ?_
      exact hret ⟨(Option.some.inj h), rfl⟩ hI rfl dX7_edgeNow_37
  · have h := zi_t hc h
    refine lv_iconst (v := (-1)) hx hb dX7_edgeNow_8 lc_m1 ?_
    refine lv_goto (tgt := 37) hx hb dX7_edgeNow_9 (by decide) ?_
    exact hret ⟨(Option.some.inj h), rfl⟩ hI rfl dX7_edgeNow_37
set_option maxRecDepth 100000 in
set_option maxHeartbeats 4000000 in
theorem c_X7_edge (l : Launch) (G : zG)  {σ σ' : SF} {r : Int32} {x1 : Int32} {x2 : Int32} (h : F_X7_edge σ  x1 x2 = some (r, σ')) : zMi l WM G yX7_edge cX7_edge 3 .int 7 [.ref (za G 0), .int x1, .int x2] σ r σ' := by
  refine zMi_of (by decide) (Nat.le_of_ble_eq_true rfl) (fun p e s m args below meth c ls Q hx hb hr hlk hml hC hI hl hret => ?_)
  have hl : lv_has ls 3 [(0, .ref (za G 0)), (1, .int x1), (2, .int x2)] := hl
  have hC : zC WM G RX7 args s m := hC
  unfold F_X7_edge at h
  refine lv_aload_n hx hb dX7_edge_0 rfl (lv_at hl 0 rfl) ?_
  refine lv_iload_n hx hb dX7_edge_1 rfl (lv_at hl 1 rfl) ?_
  obtain ⟨r2, h1, h⟩ := zb_e h
  refine z_cVi (As := [.int x1]) (rest := []) hx hb hC (hml.trans hl.1.symm) hI (c_X7_isNode l G  h1) yyX7_isNode q_ml_X7_207 (oX7 G) rfl ⟨Nat.le_of_ble_eq_true rfl, Nat.le_of_ble_eq_true rfl⟩ rfl rfl (Nat.le_of_ble_eq_true rfl) ⟨Nat.le_refl _, Nat.le_refl _⟩ dX7_edge_2 (fun H locs hI => ?_)
  refine lv_if_ne (tgt := 11) hx hb dX7_edge_5 (by decide) (fun hc => ?_) (fun hc => ?_)
  · have h := zi_f hc h
    refine lv_iload_n hx hb dX7_edge_11 rfl (lv_at hl 2 rfl) ?_
    refine lv_iconst (v := 0) hx hb dX7_edge_12 lc_0 ?_
    refine lv_iconst (v := 1) hx hb dX7_edge_13 lc_1 ?_
    obtain ⟨r4, h3, h⟩ := zb_e h
    refine z_cSi (As := [.int x2, .int 0, .int 1]) (rest := []) hx hb hC (hml.trans hl.1.symm) hI (c_X7_within l G  (σ := σ) h3) yyX7_within q_ml_X7_89 ⟨Nat.le_of_ble_eq_true rfl, Nat.le_of_ble_eq_true rfl⟩ rfl rfl (Nat.le_of_ble_eq_true rfl) ⟨Nat.le_refl _, Nat.le_refl _⟩ dX7_edge_14 (fun H locs hI => ?_)
    refine lv_if_ne (tgt := 23) hx hb dX7_edge_17 (by decide) (fun hc => ?_) (fun hc => ?_)
    · have h := zi_f hc h
      refine lv_aload_n hx hb dX7_edge_23 rfl (lv_at hl 0 rfl) ?_
      obtain ⟨σ6, h5, h⟩ := zb_e h
      refine z_cVv (As := []) (rest := []) hx hb hC (hml.trans hl.1.symm) hI (c_X7_layNow l G  h5) yyX7_layNow q_ml_X7_210 (oX7 G) rfl ⟨Nat.le_of_ble_eq_true rfl, Nat.le_of_ble_eq_true rfl⟩ rfl rfl (Nat.le_of_ble_eq_true rfl) ⟨Nat.le_refl _, Nat.le_refl _⟩ dX7_edge_24 (fun H locs hI => ?_)
      refine lv_aload_n hx hb dX7_edge_27 rfl (lv_at hl 0 rfl) ?_
      refine lv_iconst (v := 2) hx hb dX7_edge_28 lc_2 ?_
      refine lv_iload_n hx hb dX7_edge_29 rfl (lv_at hl 1 rfl) ?_
      refine lv_imul hx hb dX7_edge_30 ?_
      refine lv_iload_n hx hb dX7_edge_31 rfl (lv_at hl 2 rfl) ?_
      refine lv_iadd hx hb dX7_edge_32 ?_
      obtain ⟨r8, h7, h⟩ := zb_e h
      refine z_cVi (As := [.int (((2 : Int32) * x1) + x2)]) (rest := []) hx hb hC (hml.trans hl.1.symm) hI (c_X7_edgeNow l G  h7) yyX7_edgeNow q_ml_X7_217 (oX7 G) rfl ⟨Nat.le_of_ble_eq_true rfl, Nat.le_of_ble_eq_true rfl⟩ rfl rfl (Nat.le_of_ble_eq_true rfl) ⟨Nat.le_refl _, Nat.le_refl _⟩ dX7_edge_33 (fun H locs hI => ?_)
      exact hret ⟨congrArg Prod.fst (Option.some.inj h), congrArg Prod.snd (Option.some.inj h)⟩ hI rfl dX7_edge_36
    · have h := zi_t hc h
      refine lv_bipush (v := (-102)) hx hb dX7_edge_20 lb_m102 ?_
      exact hret ⟨congrArg Prod.fst (Option.some.inj h), congrArg Prod.snd (Option.some.inj h)⟩ hI rfl dX7_edge_22
  · have h := zi_t hc h
    refine lv_bipush (v := (-101)) hx hb dX7_edge_8 lb_m101 ?_
    exact hret ⟨congrArg Prod.fst (Option.some.inj h), congrArg Prod.snd (Option.some.inj h)⟩ hI rfl dX7_edge_10
