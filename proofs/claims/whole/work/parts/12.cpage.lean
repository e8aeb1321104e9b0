set_option maxRecDepth 100000 in
set_option maxHeartbeats 4000000 in
theorem c_J0_isLatin1_aae02 (l : Launch) (G : zG)  {σ : SF} {r : Int32} (h : F_J0_isLatin1_aae02 σ   = some r) : zMi l WF G yJ0_isLatin1_aae02 cJ0_isLatin1_aae02 1 .boolean 1 [.ref G.2.2.2.2.1] σ r σ := by
  refine zMi_of (by decide) (Nat.le_of_ble_eq_true rfl) (fun p e s m args below meth c ls Q hx hb hr hlk hml hC hI hl hret => ?_)
  have hl : lv_has ls 1 [(0, .ref G.2.2.2.2.1)] := hl
  have hC : zC WF G RJ0 args s m := hC
  unfold F_J0_isLatin1_aae02 at h
  refine va_gets hx hb hC.2.2.2.2.2.2.1 hI.2 hC.1 (hC.ts q_fl_J0_38) (fun _ h => h) dJ0_isLatin1_aae02_0 ?_
  refine lv_if_eq (tgt := 17) hx hb dJ0_isLatin1_aae02_3 (by decide) (fun hc => absurd hc (by decide)) (fun _ => ?_)
  refine lv_aload_n hx hb dJ0_isLatin1_aae02_6 rfl (lv_at hl 0 rfl) ?_
  refine vk_getf hx hb (hC.2.2.2.2.2.2.2.1 0 (by decide)).2.1 hI.2 hC.1 (hC.ts q_fl_J0_15) (fun _ h => h) dJ0_isLatin1_aae02_7 ?_
  refine lv_if_ne (tgt := 17) hx hb dJ0_isLatin1_aae02_10 (by decide) (fun hc => absurd hc (by decide)) (fun _ => ?_)
  refine lv_iconst (v := 1) hx hb dJ0_isLatin1_aae02_13 lc_1 ?_
  refine lv_goto (tgt := 18) hx hb dJ0_isLatin1_aae02_14 (by decide) ?_
  exact hret ⟨(Option.some.inj h), rfl⟩ hI rfl dJ0_isLatin1_aae02_18
set_option maxRecDepth 100000 in
set_option maxHeartbeats 4000000 in
theorem c_J0_coder_7d493 (l : Launch) (G : zG)  {σ : SF} {r : Int32} (h : F_J0_coder_7d493 σ   = some r) : zMi l WF G yJ0_coder_7d493 cJ0_coder_7d493 1 .byte 1 [.ref G.2.2.2.2.1] σ r σ := by
  refine zMi_of (by decide) (Nat.le_of_ble_eq_true rfl) (fun p e s m args below meth c ls Q hx hb hr hlk hml hC hI hl hret => ?_)
  have hl : lv_has ls 1 [(0, .ref G.2.2.2.2.1)] := hl
  have hC : zC WF G RJ0 args s m := hC
  unfold F_J0_coder_7d493 at h
  refine va_gets hx hb hC.2.2.2.2.2.2.1 hI.2 hC.1 (hC.ts q_fl_J0_38) (fun _ h => h) dJ0_coder_7d493_0 ?_
  refine lv_if_eq (tgt := 13) hx hb dJ0_coder_7d493_3 (by decide) (fun hc => absurd hc (by decide)) (fun _ => ?_)
  refine lv_aload_n hx hb dJ0_coder_7d493_6 rfl (lv_at hl 0 rfl) ?_
  refine vk_getf hx hb (hC.2.2.2.2.2.2.2.1 0 (by decide)).2.1 hI.2 hC.1 (hC.ts q_fl_J0_15) (fun _ h => h) dJ0_coder_7d493_7 ?_
  refine lv_goto (tgt := 14) hx hb dJ0_coder_7d493_10 (by decide) ?_
  exact hret ⟨(Option.some.inj h), rfl⟩ hI rfl dJ0_coder_7d493_14
set_option maxRecDepth 100000 in
set_option maxHeartbeats 4000000 in
theorem c_J0_length_8abf5 (l : Launch) (G : zG)  {σ : SF} {r : Int32} (h : F_J0_length_8abf5 σ   = some r) : zMi l WF G yJ0_length_8abf5 cJ0_length_8abf5 1 .int 2 [.ref G.2.2.2.2.1] σ r σ := by
  refine zMi_of (by decide) (Nat.le_of_ble_eq_true rfl) (fun p e s m args below meth c ls Q hx hb hr hlk hml hC hI hl hret => ?_)
  have hl : lv_has ls 1 [(0, .ref G.2.2.2.2.1)] := hl
  have hC : zC WF G RJ0 args s m := hC
  unfold F_J0_length_8abf5 at h
  refine lv_aload_n hx hb dJ0_length_8abf5_0 rfl (lv_at hl 0 rfl) ?_
  refine vk_getf hx hb (hC.2.2.2.2.2.2.2.1 0 (by decide)).2.2.1 hI.2 hC.1 (hC.ts q_fl_J0_9) (fun _ h => h) dJ0_length_8abf5_1 ?_
  refine va_tlen hx hb (hC.2.2.2.2.2.2.2.1 0 (by decide)).2.2.2 hI.2 (v := 5) rfl dJ0_length_8abf5_4 ?_
  refine lv_aload_n hx hb dJ0_length_8abf5_5 rfl (lv_at hl 0 rfl) ?_
  obtain ⟨r2, h1, h⟩ := zb_e h
  refine z_cTi (As := []) (rest := [.int 5]) hx hb hC (hml.trans hl.1.symm) hI (c_J0_coder_7d493 l G  h1) yyJ0_coder_7d493 q_ml_J0_335 ⟨Nat.le_of_ble_eq_true rfl, Nat.le_of_ble_eq_true rfl⟩ rfl rfl (Nat.le_of_ble_eq_true rfl) ⟨Nat.le_refl _, Nat.le_refl _⟩ dJ0_length_8abf5_6 (fun H locs hI => ?_)
  refine lv_ishr hx hb dJ0_length_8abf5_9 ?_
  exact hret ⟨(Option.some.inj h), rfl⟩ hI rfl dJ0_length_8abf5_10
set_option maxRecDepth 100000 in
set_option maxHeartbeats 4000000 in
theorem c_J1_canEncode_9a6ad (l : Launch) (G : zG)  {σ : SF} {r : Int32} {x0 : Int32} (h : F_J1_canEncode_9a6ad   x0 = some r) : zMi l WF G yJ1_canEncode_9a6ad cJ1_canEncode_9a6ad 1 .boolean 1 [.int x0] σ r σ := by
  refine zMi_of (by decide) (Nat.le_of_ble_eq_true rfl) (fun p e s m args below meth c ls Q hx hb hr hlk hml hC hI hl hret => ?_)
  have hl : lv_has ls 1 [(0, .int x0)] := hl
  have hC : zC WF G RJ1 args s m := hC
  unfold F_J1_canEncode_9a6ad at h
  refine lv_iload_n hx hb dJ1_canEncode_9a6ad_0 rfl (lv_at hl 0 rfl) ?_
  refine lv_if_lt (tgt := 15) hx hb dJ1_canEncode_9a6ad_1 (by decide) (fun hc => ?_) (fun hc => ?_)
  · have h := zi_t hc h
    refine lv_iconst (v := 0) hx hb dJ1_canEncode_9a6ad_15 lc_0 ?_
    exact hret ⟨(Option.some.inj h), rfl⟩ hI rfl dJ1_canEncode_9a6ad_16
  · have h := zi_f hc h
    refine lv_iload_n hx hb dJ1_canEncode_9a6ad_4 rfl (lv_at hl 0 rfl) ?_
    refine lv_sipush (v := 255) hx hb dJ1_canEncode_9a6ad_5 ls_255 ?_
    refine lv_icmp_gt (tgt := 15) hx hb dJ1_canEncode_9a6ad_8 (by decide) (fun hc => ?_) (fun hc => ?_)
    · have h := zi_t hc h
      refine lv_iconst (v := 0) hx hb dJ1_canEncode_9a6ad_15 lc_0 ?_
      exact hret ⟨(Option.some.inj h), rfl⟩ hI rfl dJ1_canEncode_9a6ad_16
    · have h := zi_f hc h
      refine lv_iconst (v := 1) hx hb dJ1_canEncode_9a6ad_11 lc_1 ?_
      refine lv_goto (tgt := 16) hx hb dJ1_canEncode_9a6ad_12 (by decide) ?_
      exact hret ⟨(Option.some.inj h), rfl⟩ hI rfl dJ1_canEncode_9a6ad_16
set_option maxRecDepth 100000 in
set_option maxHeartbeats 4000000 in
theorem c_J1_indexOfChar_4cfef (l : Launch) (G : zG)  {σ : SF} {r : Int32} {x1 : Int32} {x2 : Int32} {x3 : Int32} (h : F_J1_indexOfChar_4cfef σ  x1 x2 x3 = some r) : zMi l WF G yJ1_indexOfChar_4cfef cJ1_indexOfChar_4cfef 6 .int 1 [.ref G.2.2.2.2.2, .int x1, .int x2, .int x3] σ r σ := by
  refine zMi_of (by decide) (Nat.le_of_ble_eq_true rfl) (fun p e s m args below meth c ls Q hx hb hr hlk hml hC hI hl hret => ?_)
  have hl : lv_has ls 6 [(0, .ref G.2.2.2.2.2), (1, .int x1), (2, .int x2), (3, .int x3)] := hl
  have hC : zC WF G RJ1 args s m := hC
  have w_7 : ∀ (n : Nat) (y3 : Int32) (y4 : Int32) (y5 : Int32) (u : (Int32) ⊕ (Int32)), L_J1_indexOfChar_4cfef_7 σ y3 y4 n y5 = some u → ∀ (H : Heap) (locs : List Loc) (ls : Array Slot), zI WF G s σ H locs → lv_has ls 6 [(0, .ref G.2.2.2.2.2), (3, .int y3), (4, .int y4), (5, .int y5)] → (∀ ρ, u = .inl ρ → ρ = r) → (∀ (y5o : Int32), u = .inr y5o → ∀ (H : Heap) (locs : List Loc) (ls : Array Slot), zI WF G s σ H locs → lv_has ls 6 [(0, .ref G.2.2.2.2.2), (3, .int y3), (4, .int y4), (5, .int y5o)] → W p l e (zR 1) s m args below meth c H locs 0 0 Q (F0 m 31 ls [])) → W p l e (zR 1) s m args below meth c H locs 0 0 Q (F0 m 7 ls []) := by
    intro n
    induction n with
    | zero => intro y3 y4 y5 u h; cases h
    | succ n ih =>
      intro y3 y4 y5 u h H locs ls hI hl kR kE
      unfold L_J1_indexOfChar_4cfef_7 at h
      refine lv_iload hx hb dJ1_indexOfChar_4cfef_7 (lv_at hl 3 rfl) ?_
      refine lv_iload_n hx hb dJ1_indexOfChar_4cfef_9 rfl (lv_at hl 1 rfl) ?_
      refine lv_icmp_ge (tgt := 31) hx hb dJ1_indexOfChar_4cfef_10 (by decide) (fun hc => ?_) (fun hc => ?_)
      · have h := zi_t hc h
        exact kE _ (Option.some.inj h).symm _ _ _ hI (lv_sub hl [0, 1, 2, 3] rfl)
      · have h := zi_f hc h
        refine lv_aload_n hx hb dJ1_indexOfChar_4cfef_13 rfl (lv_at hl 0 rfl) ?_
        refine lv_iload hx hb dJ1_indexOfChar_4cfef_14 (lv_at hl 3 rfl) ?_
        obtain ⟨hg, h⟩ := zg_e h
        refine va_tb hx hb (hC.2.2.2.2.2.2.2.1 0 (by decide)).2.2.2 hI.2 (zin_p hg) (v := .int (kb (y5 : Int32).toNatClampNeg)) rfl dJ1_indexOfChar_4cfef_16 ?_
        refine lv_iload hx hb dJ1_indexOfChar_4cfef_17 (lv_at hl 2 rfl) ?_
        refine lv_icmp_ne (tgt := 25) hx hb dJ1_indexOfChar_4cfef_19 (by decide) (fun hc => ?_) (fun hc => ?_)
        · have h := zi_f hc h
          obtain ⟨v2, e_v2⟩ : ∃ y : Int32, y = y5 + 1 := ⟨_, rfl⟩
          have h := zl_e h e_v2
          refine lv_iinc (v := v2) (lv' := [(5, .int v2), (0, .ref G.2.2.2.2.2), (3, .int y3), (4, .int y4)]) hx hb dJ1_indexOfChar_4cfef_25 hl (k := 3) rfl (by rw [lc_1]; exact e_v2.symm) (by decide) rfl (fun ls hl => ?_)
          refine lv_goto (tgt := 7) hx hb dJ1_indexOfChar_4cfef_28 (by decide) ?_
          exact ih y3 y4 v2 u h _ _ _ hI (lv_sub hl [1, 2, 3, 0] rfl) kR kE
        · have h := zi_t hc h
          refine lv_iload hx hb dJ1_indexOfChar_4cfef_22 (lv_at hl 3 rfl) ?_
          exact hret ⟨(kR _ (Option.some.inj h).symm), rfl⟩ hI rfl dJ1_indexOfChar_4cfef_24
  unfold F_J1_indexOfChar_4cfef at h
  refine lv_iload_n hx hb dJ1_indexOfChar_4cfef_0 rfl (lv_at hl 1 rfl) ?_
  refine lv_i2b hx hb dJ1_indexOfChar_4cfef_1 rfl ?_
  refine lv_topi (fun v1 e_v1 => ?_)
  have h := zl_e h e_v1
  refine lv_istore (lv' := [(4, .int v1), (0, .ref G.2.2.2.2.2), (1, .int x1), (2, .int x2), (3, .int x3)]) hx hb dJ1_indexOfChar_4cfef_2 hl (by decide) rfl (fun ls hl => ?_)
  refine lv_iload_n hx hb dJ1_indexOfChar_4cfef_4 rfl (lv_at hl 3 rfl) ?_
  refine lv_istore (lv' := [(5, .int x2), (4, .int v1), (0, .ref G.2.2.2.2.2), (1, .int x1), (2, .int x2), (3, .int x3)]) hx hb dJ1_indexOfChar_4cfef_5 hl (by decide) rfl (fun ls hl => ?_)
  obtain ⟨u5, h4, hR, hE⟩ := zs_e h
  refine w_7 100 x3 v1 x2 u5 h4 _ _ _ hI (lv_sub hl [2, 5, 1, 0] rfl) (fun ρ eρ => Option.some.inj (hR ρ eρ)) (fun v3 e_h4 H locs ls hI hl => ?_)
  have h := zb_s (hE _ e_h4)
  refine lv_iconst (v := (-1)) hx hb dJ1_indexOfChar_4cfef_31 lc_m1 ?_
  exact hret ⟨(Option.some.inj h), rfl⟩ hI rfl dJ1_indexOfChar_4cfef_32
set_option maxRecDepth 100000 in
set_option maxHeartbeats 4000000 in
theorem c_J1_indexOf_4cfef (l : Launch) (G : zG)  {σ : SF} {r : Int32} {x1 : Int32} {x2 : Int32} {x3 : Int32} (h : F_J1_indexOf_4cfef σ  x1 x2 x3 = some r) : zMi l WF G yJ1_indexOf_4cfef cJ1_indexOf_4cfef 4 .int 2 [.ref G.2.2.2.2.2, .int x1, .int x2, .int x3] σ r σ := by
  refine zMi_of (by decide) (Nat.le_of_ble_eq_true rfl) (fun p e s m args below meth c ls Q hx hb hr hlk hml hC hI hl hret => ?_)
  have hl : lv_has ls 4 [(0, .ref G.2.2.2.2.2), (1, .int x1), (2, .int x2), (3, .int x3)] := hl
  have hC : zC WF G RJ1 args s m := hC
  unfold F_J1_indexOf_4cfef at h
  refine lv_iload_n hx hb dJ1_indexOf_4cfef_0 rfl (lv_at hl 1 rfl) ?_
  obtain ⟨r2, h1, h⟩ := zb_e h
  refine z_cSi (As := [.int x1]) (rest := []) hx hb hC (hml.trans hl.1.symm) hI (c_J1_canEncode_9a6ad l G  (σ := σ) h1) yyJ1_canEncode_9a6ad q_ml_J1_88 ⟨Nat.le_of_ble_eq_true rfl, Nat.le_of_ble_eq_true rfl⟩ rfl rfl (Nat.le_of_ble_eq_true rfl) ⟨Nat.le_refl _, Nat.le_refl _⟩ dJ1_indexOf_4cfef_1 (fun H locs hI => ?_)
  refine lv_if_ne (tgt := 9) hx hb dJ1_indexOf_4cfef_4 (by decide) (fun hc => ?_) (fun hc => ?_)
  · have h := zi_f hc h
    refine lv_iload_n hx hb dJ1_indexOf_4cfef_9 rfl (lv_at hl 2 rfl) ?_
    refine lv_iconst (v := 0) hx hb dJ1_indexOf_4cfef_10 lc_0 ?_
    refine z_max hx hb hC (hml.trans hl.1.symm) q_ml_J1_92 (Nat.le_of_ble_eq_true rfl) (Nat.le_of_ble_eq_true rfl) (Nat.le_refl _) (Nat.le_refl _) dJ1_indexOf_4cfef_11 ?_
    refine lv_topi (fun v3 e_v3 => ?_)
    have h := zl_e h e_v3
    refine lv_istore_n (lv' := [(2, .int v3), (0, .ref G.2.2.2.2.2), (1, .int x1), (3, .int x3)]) hx hb dJ1_indexOf_4cfef_14 rfl hl (by decide) rfl (fun ls hl => ?_)
    refine lv_iload_n hx hb dJ1_indexOf_4cfef_15 rfl (lv_at hl 3 rfl) ?_
    refine lv_aload_n hx hb dJ1_indexOf_4cfef_16 rfl (lv_at hl 1 rfl) ?_
    refine va_tlen hx hb (hC.2.2.2.2.2.2.2.1 0 (by decide)).2.2.2 hI.2 (v := 5) rfl dJ1_indexOf_4cfef_17 ?_
    refine z_min hx hb hC (hml.trans hl.1.symm) q_ml_J1_38 (Nat.le_of_ble_eq_true rfl) (Nat.le_of_ble_eq_true rfl) (Nat.le_refl _) (Nat.le_refl _) dJ1_indexOf_4cfef_18 ?_
    refine lv_topi (fun v4 e_v4 => ?_)
    have h := zl_e h e_v4
    refine lv_istore_n (lv' := [(3, .int v4), (2, .int v3), (0, .ref G.2.2.2.2.2), (1, .int x1)]) hx hb dJ1_indexOf_4cfef_21 rfl hl (by decide) rfl (fun ls hl => ?_)
    refine lv_iload_n hx hb dJ1_indexOf_4cfef_22 rfl (lv_at hl 1 rfl) ?_
    refine lv_iload_n hx hb dJ1_indexOf_4cfef_23 rfl (lv_at hl 0 rfl) ?_
    refine lv_icmp_lt (tgt := 29) hx hb dJ1_indexOf_4cfef_24 (by decide) (fun hc => ?_) (fun hc => ?_)
    · have h := zi_t hc h
      refine lv_aload_n hx hb dJ1_indexOf_4cfef_29 rfl (lv_at hl 2 rfl) ?_
      refine lv_iload_n hx hb dJ1_indexOf_4cfef_30 rfl (lv_at hl 3 rfl) ?_
      refine lv_iload_n hx hb dJ1_indexOf_4cfef_31 rfl (lv_at hl 1 rfl) ?_
      refine lv_iload_n hx hb dJ1_indexOf_4cfef_32 rfl (lv_at hl 0 rfl) ?_
      obtain ⟨r6, h5, h⟩ := zb_e h
      refine z_cSi (As := [.ref G.2.2.2.2.2, .int x1, .int v3, .int v4]) (rest := []) hx hb hC (hml.trans hl.1.symm) hI (c_J1_indexOfChar_4cfef l G  h5) yyJ1_indexOfChar_4cfef q_ml_J1_95 ⟨Nat.le_of_ble_eq_true rfl, Nat.le_of_ble_eq_true rfl⟩ rfl rfl (Nat.le_of_ble_eq_true rfl) ⟨Nat.le_refl _, Nat.le_refl _⟩ dJ1_indexOf_4cfef_33 (fun H locs hI => ?_)
      exact hret ⟨(Option.some.inj h), rfl⟩ hI rfl dJ1_indexOf_4cfef_36
    · have h := zi_f hc h
      refine lv_iconst (v := (-1)) hx hb dJ1_indexOf_4cfef_27 lc_m1 ?_
      exact hret ⟨(Option.some.inj h), rfl⟩ hI rfl dJ1_indexOf_4cfef_28
  · have h := zi_t hc h
    refine lv_iconst (v := (-1)) hx hb dJ1_indexOf_4cfef_7 lc_m1 ?_
    exact hret ⟨(Option.some.inj h), rfl⟩ hI rfl dJ1_indexOf_4cfef_8
set_option maxRecDepth 100000 in
set_option maxHeartbeats 4000000 in
theorem c_J0_indexOf_7cf53 (l : Launch) (G : zG)  {σ : SF} {r : Int32} {x1 : Int32} {x2 : Int32} (h : F_J0_indexOf_7cf53 σ  x1 x2 = some r) : zMi l WF G yJ0_indexOf_7cf53 cJ0_indexOf_7cf53 3 .int 3 [.ref G.2.2.2.2.1, .int x1, .int x2] σ r σ := by
  refine zMi_of (by decide) (Nat.le_of_ble_eq_true rfl) (fun p e s m args below meth c ls Q hx hb hr hlk hml hC hI hl hret => ?_)
  have hl : lv_has ls 3 [(0, .ref G.2.2.2.2.1), (1, .int x1), (2, .int x2)] := hl
  have hC : zC WF G RJ0 args s m := hC
  unfold F_J0_indexOf_7cf53 at h
  refine lv_aload_n hx hb dJ0_indexOf_7cf53_0 rfl (lv_at hl 0 rfl) ?_
  obtain ⟨r2, h1, h⟩ := zb_e h
  refine z_cTi (As := []) (rest := []) hx hb hC (hml.trans hl.1.symm) hI (c_J0_isLatin1_aae02 l G  h1) yyJ0_isLatin1_aae02 q_ml_J0_492 ⟨Nat.le_of_ble_eq_true rfl, Nat.le_of_ble_eq_true rfl⟩ rfl rfl (Nat.le_of_ble_eq_true rfl) ⟨Nat.le_refl _, Nat.le_refl _⟩ dJ0_indexOf_7cf53_1 (fun H locs hI => ?_)
  refine lv_if_eq (tgt := 23) hx hb dJ0_indexOf_7cf53_4 (by decide) (fun hc => ?_) (fun hc => ?_)
  · have h := zi_t hc h
    refine lv_aload_n hx hb dJ0_indexOf_7cf53_23 rfl (lv_at hl 0 rfl) ?_
    refine vk_getf hx hb (hC.2.2.2.2.2.2.2.1 0 (by decide)).2.2.1 hI.2 hC.1 (hC.ts q_fl_J0_9) (fun _ h => h) dJ0_indexOf_7cf53_24 ?_
    refine lv_iload_n hx hb dJ0_indexOf_7cf53_27 rfl (lv_at hl 1 rfl) ?_
    refine lv_iload_n hx hb dJ0_indexOf_7cf53_28 rfl (lv_at hl 2 rfl) ?_
    refine lv_aload_n hx hb dJ0_indexOf_7cf53_29 rfl (lv_at hl 0 rfl) ?_
    obtain ⟨r4, h3, h⟩ := zb_e h
    refine z_cTi (As := []) (rest := [.int x2, .int x1, .ref G.2.2.2.2.2]) hx hb hC (hml.trans hl.1.symm) hI (c_J0_length_8abf5 l G  h3) yyJ0_length_8abf5 q_ml_J0_505 ⟨Nat.le_of_ble_eq_true rfl, Nat.le_of_ble_eq_true rfl⟩ rfl rfl (Nat.le_of_ble_eq_true rfl) ⟨Nat.le_refl _, Nat.le_refl _⟩ dJ0_indexOf_7cf53_30 (fun H locs hI => ?_)
    cases h
  · have h := zi_f hc h
    refine lv_aload_n hx hb dJ0_indexOf_7cf53_7 rfl (lv_at hl 0 rfl) ?_
    refine vk_getf hx hb (hC.2.2.2.2.2.2.2.1 0 (by decide)).2.2.1 hI.2 hC.1 (hC.ts q_fl_J0_9) (fun _ h => h) dJ0_indexOf_7cf53_8 ?_
    refine lv_iload_n hx hb dJ0_indexOf_7cf53_11 rfl (lv_at hl 1 rfl) ?_
    refine lv_iload_n hx hb dJ0_indexOf_7cf53_12 rfl (lv_at hl 2 rfl) ?_
    refine lv_aload_n hx hb dJ0_indexOf_7cf53_13 rfl (lv_at hl 0 rfl) ?_
    obtain ⟨r6, h5, h⟩ := zb_e h
    refine z_cTi (As := []) (rest := [.int x2, .int x1, .ref G.2.2.2.2.2]) hx hb hC (hml.trans hl.1.symm) hI (c_J0_length_8abf5 l G  h5) yyJ0_length_8abf5 q_ml_J0_505 ⟨Nat.le_of_ble_eq_true rfl, Nat.le_of_ble_eq_true rfl⟩ rfl rfl (Nat.le_of_ble_eq_true rfl) ⟨Nat.le_refl _, Nat.le_refl _⟩ dJ0_indexOf_7cf53_14 (fun H locs hI => ?_)
    obtain ⟨r8, h7, h⟩ := zb_e h
    refine z_cSi (As := [.ref G.2.2.2.2.2, .int x1, .int x2, .int r6]) (rest := []) hx hb hC (hml.trans hl.1.symm) hI (c_J1_indexOf_4cfef l G  h7) yyJ1_indexOf_4cfef q_ml_J0_637 ⟨Nat.le_of_ble_eq_true rfl, Nat.le_of_ble_eq_true rfl⟩ rfl rfl (Nat.le_of_ble_eq_true rfl) ⟨Nat.le_refl _, Nat.le_refl _⟩ dJ0_indexOf_7cf53_17 (fun H locs hI => ?_)
    refine lv_goto (tgt := 36) hx hb dJ0_indexOf_7cf53_20 (by decide) ?_
    exact hret ⟨(Option.some.inj h), rfl⟩ hI rfl dJ0_indexOf_7cf53_36
set_option maxRecDepth 100000 in
set_option maxHeartbeats 4000000 in
theorem c_J0_indexOf_0f7a4 (l : Launch) (G : zG)  {σ : SF} {r : Int32} {x1 : Int32} (h : F_J0_indexOf_0f7a4 σ  x1 = some r) : zMi l WF G yJ0_indexOf_0f7a4 cJ0_indexOf_0f7a4 2 .int 4 [.ref G.2.2.2.2.1, .int x1] σ r σ := by
  refine zMi_of (by decide) (Nat.le_of_ble_eq_true rfl) (fun p e s m args below meth c ls Q hx hb hr hlk hml hC hI hl hret => ?_)
  have hl : lv_has ls 2 [(0, .ref G.2.2.2.2.1), (1, .int x1)] := hl
  have hC : zC WF G RJ0 args s m := hC
  unfold F_J0_indexOf_0f7a4 at h
  refine lv_aload_n hx hb dJ0_indexOf_0f7a4_0 rfl (lv_at hl 0 rfl) ?_
  refine lv_iload_n hx hb dJ0_indexOf_0f7a4_1 rfl (lv_at hl 1 rfl) ?_
  refine lv_iconst (v := 0) hx hb dJ0_indexOf_0f7a4_2 lc_0 ?_
  obtain ⟨r2, h1, h⟩ := zb_e h
  refine z_cTi (As := [.int x1, .int 0]) (rest := []) hx hb hC (hml.trans hl.1.symm) hI (c_J0_indexOf_7cf53 l G  h1) yyJ0_indexOf_7cf53 q_ml_J0_633 ⟨Nat.le_of_ble_eq_true rfl, Nat.le_of_ble_eq_true rfl⟩ rfl rfl (Nat.le_of_ble_eq_true rfl) ⟨Nat.le_refl _, Nat.le_refl _⟩ dJ0_indexOf_0f7a4_3 (fun H locs hI => ?_)
  exact hret ⟨(Option.some.inj h), rfl⟩ hI rfl dJ0_indexOf_0f7a4_6
set_option maxRecDepth 100000 in
set_option maxHeartbeats 4000000 in
theorem c_X2_readInto (l : Launch) (G : zG)  {σ σ' : SF} {r : Int32} (h : F_X2_readInto σ   = some (r, σ')) : zMi l WF G yX2_readInto cX2_readInto 8 .int 5 [.ref (za G 1), .ref (za G 31)] σ r σ' := by
  refine zMi_of (by decide) (Nat.le_of_ble_eq_true rfl) (fun p e s m args below meth c ls Q hx hb hr hlk hml hC hI hl hret => ?_)
  have hl : lv_has ls 8 [(0, .ref (za G 1)), (1, .ref (za G 31))] := hl
  have hC : zC WF G RX2 args s m := hC
  have w_25 : ∀ (n : Nat) (y2 : Int32) (y3 : Int32) (y4 : Int32) (y5 : Int32) (σ : SF) (u : (Int32 × SF) ⊕ (Int32 × Int32 × Int32 × Int32 × SF)), L_X2_readInto_25 n y2 y3 y4 y5 σ = some u → ∀ (H : Heap) (locs : List Loc) (ls : Array Slot), zI WF G s σ H locs → lv_has ls 8 [(0, .ref (za G 1)), (1, .ref (za G 31)), (2, .int y2), (3, .int y3), (4, .int y4), (5, .int y5)] → (∀ ρ, u = .inl ρ → ρ = (r, σ')) → (∀ (y2o : Int32) (y3o : Int32) (y4o : Int32) (y5o : Int32) (σo : SF), u = .inr (y2o, y3o, y4o, y5o, σo) → ∀ (H : Heap) (locs : List Loc) (ls : Array Slot), zI WF G s σo H locs → lv_has ls 8 [(0, .ref (za G 1)), (1, .ref (za G 31)), (2, .int y2o), (3, .int y3o), (4, .int y4o), (5, .int y5o)] → W p l e (zR 5) s m args below meth c H locs 0 0 Q (F0 m 179 ls [])) → W p l e (zR 5) s m args below meth c H locs 0 0 Q (F0 m 25 ls []) := by
    intro n
    induction n with
    | zero => intro y2 y3 y4 y5 σ u h; cases h
    | succ n ih =>
      intro y2 y3 y4 y5 σ u h H locs ls hI hl kR kE
      unfold L_X2_readInto_25 at h
      refine lv_iload hx hb dX2_readInto_25 (lv_at hl 5 rfl) ?_
      refine lv_aload_n hx hb dX2_readInto_27 rfl (lv_at hl 0 rfl) ?_
      refine gX2_1 hx hb hC hI q_fl_X2_15 dX2_readInto_28 ?_
      refine lv_icmp_ge (tgt := 179) hx hb dX2_readInto_31 (by decide) (fun hc => ?_) (fun hc => ?_)
      · have h := zi_t hc h
        exact kE _ _ _ _ _ (Option.some.inj h).symm _ _ _ hI (lv_sub hl [0, 1, 2, 3, 4, 5] rfl)
      · have h := zi_f hc h
        refine lv_aload_n hx hb dX2_readInto_34 rfl (lv_at hl 0 rfl) ?_
        refine gX2_0 hx hb hC hI q_fl_X2_9 dX2_readInto_35 ?_
        refine lv_iload hx hb dX2_readInto_38 (lv_at hl 5 rfl) ?_
        obtain ⟨hg, h⟩ := zg_e h
        refine z_iald hx hb hC hI (vX2_0 G) hg dX2_readInto_40 ?_
        refine lv_topi (fun v4 e_v4 => ?_)
        have h := zl_e h e_v4
        refine lv_istore (lv' := [(6, .int v4), (0, .ref (za G 1)), (1, .ref (za G 31)), (2, .int y2), (3, .int y3), (4, .int y4), (5, .int y5)]) hx hb dX2_readInto_41 hl (by decide) rfl (fun ls hl => ?_)
        refine lv_iload_n hx hb dX2_readInto_43 rfl (lv_at hl 4 rfl) ?_
        refine lv_iload hx hb dX2_readInto_44 (lv_at hl 5 rfl) ?_
        refine lv_icmp_ge (tgt := 104) hx hb dX2_readInto_46 (by decide) (fun hc => ?_) (fun hc => ?_)
        · have h := zi_t hc h
          refine lv_iload_n hx hb dX2_readInto_104 rfl (lv_at hl 3 rfl) ?_
          refine lv_if_eq (tgt := 152) hx hb dX2_readInto_105 (by decide) (fun hc => ?_) (fun hc => ?_)
          · have h := zi_t hc h
            refine lv_iload hx hb dX2_readInto_152 (lv_at hl 0 rfl) ?_
            refine lv_bipush (v := 44) hx hb dX2_readInto_154 lb_44 ?_
            refine lv_icmp_ne (tgt := 168) hx hb dX2_readInto_156 (by decide) (fun hc => ?_) (fun hc => ?_)
            · have h := zi_f hc h
              refine lv_iload hx hb dX2_readInto_168 (lv_at hl 6 rfl) ?_
              exact hret ⟨congrArg Prod.fst (kR _ (Option.some.inj h).symm), congrArg Prod.snd (kR _ (Option.some.inj h).symm)⟩ hI rfl dX2_readInto_170
            · have h := zi_t hc h
              refine lv_aload_n hx hb dX2_readInto_159 rfl (lv_at hl 2 rfl) ?_
              refine gX1_0 isJ31 hx hb hC hI q_fl_X2_19 dX2_readInto_160 ?_
              refine lv_bipush (v := 8) hx hb dX2_readInto_163 lb_8 ?_
              refine lv_icmp_lt (tgt := 171) hx hb dX2_readInto_165 (by decide) (fun hc => ?_) (fun hc => ?_)
              · have h := zi_t hc h
                refine lv_iconst (v := 1) hx hb dX2_readInto_171 lc_1 ?_
                refine lv_istore_n (lv' := [(2, .int 1), (6, .int v4), (0, .ref (za G 1)), (1, .ref (za G 31)), (3, .int y3), (4, .int y4), (5, .int y5)]) hx hb dX2_readInto_172 rfl hl (by decide) rfl (fun ls hl => ?_)
                obtain ⟨v5, e_v5⟩ : ∃ y : Int32, y = y5 + 1 := ⟨_, rfl⟩
                have h := zl_e h e_v5
                refine lv_iinc (v := v5) (lv' := [(5, .int v5), (2, .int 1), (6, .int v4), (0, .ref (za G 1)), (1, .ref (za G 31)), (3, .int y3), (4, .int y4)]) hx hb dX2_readInto_173 hl (k := 6) rfl (by rw [lc_1]; exact e_v5.symm) (by decide) rfl (fun ls hl => ?_)
                refine lv_goto (tgt := 25) hx hb dX2_readInto_176 (by decide) ?_
                exact ih 1 y3 y4 v5 σ u h _ _ _ hI (lv_sub hl [3, 4, 1, 5, 6, 0] rfl) kR kE
              · have h := zi_f hc h
                refine lv_iload hx hb dX2_readInto_168 (lv_at hl 6 rfl) ?_
                exact hret ⟨congrArg Prod.fst (kR _ (Option.some.inj h).symm), congrArg Prod.snd (kR _ (Option.some.inj h).symm)⟩ hI rfl dX2_readInto_170
          · have h := zi_f hc h
            refine va_ldcS hx hb hC.1 hC.2.2.2.2.2.1 dX2_readInto_108 ?_
            refine lv_iload hx hb dX2_readInto_110 (lv_at hl 0 rfl) ?_
            refine lv_i2c hx hb dX2_readInto_112 rfl ?_
            obtain ⟨r7, h6, h⟩ := zb_e h
            refine z_cTi (As := [.int (((v4 : Int32).toUInt32 % 65536).toInt32)]) (rest := []) hx hb hC (hml.trans hl.1.symm) hI (c_J0_indexOf_0f7a4 l G  h6) yyJ0_indexOf_0f7a4 q_ml_X2_43 ⟨Nat.le_of_ble_eq_true rfl, Nat.le_of_ble_eq_true rfl⟩ rfl rfl (Nat.le_of_ble_eq_true rfl) ⟨Nat.le_refl _, Nat.le_refl _⟩ dX2_readInto_113 (fun H locs hI => ?_)
            refine lv_istore (lv' := [(7, .int r7), (6, .int v4), (0, .ref (za G 1)), (1, .ref (za G 31)), (2, .int y2), (3, .int y3), (4, .int y4), (5, .int y5)]) hx hb dX2_readInto_116 hl (by decide) rfl (fun ls hl => ?_)
            refine lv_iload hx hb dX2_readInto_118 (lv_at hl 0 rfl) ?_
            obtain ⟨r9, h8, h⟩ := zb_e h
            refine z_cNi (As := [.int r7]) (rest := []) hx hb hC (hml.trans hl.1.symm) hI (c_X6_isKind l G  (σ := σ) h8) yyX6_isKind q_nl_X2_49 ⟨Nat.le_of_ble_eq_true rfl, Nat.le_of_ble_eq_true rfl⟩ rfl rfl (Nat.le_of_ble_eq_true rfl) ⟨Nat.le_refl _, Nat.le_refl _⟩ dX2_readInto_120 (fun H locs hI => ?_)
            refine lv_if_eq (tgt := 135) hx hb dX2_readInto_123 (by decide) (fun hc => ?_) (fun hc => ?_)
            · have h := zi_t hc h
              refine lv_iload hx hb dX2_readInto_135 (lv_at hl 7 rfl) ?_
              exact hret ⟨congrArg Prod.fst (kR _ (Option.some.inj h).symm), congrArg Prod.snd (kR _ (Option.some.inj h).symm)⟩ hI rfl dX2_readInto_137
            · have h := zi_f hc h
              refine lv_aload_n hx hb dX2_readInto_126 rfl (lv_at hl 3 rfl) ?_
              refine lv_iload hx hb dX2_readInto_127 (lv_at hl 0 rfl) ?_
              obtain ⟨r12, σ11, h10, h⟩ := zb2_e h
              refine z_cVi (As := [.int r7]) (rest := []) hx hb hC (hml.trans hl.1.symm) hI (c_X1_grow l G isJ31 h10) yyX1_grow q_ml_X2_53 (oX1 G isJ31) rfl ⟨Nat.le_of_ble_eq_true rfl, Nat.le_of_ble_eq_true rfl⟩ rfl rfl (Nat.le_of_ble_eq_true rfl) ⟨Nat.le_refl _, Nat.le_refl _⟩ dX2_readInto_129 (fun H locs hI => ?_)
              refine lv_if_ne (tgt := 138) hx hb dX2_readInto_132 (by decide) (fun hc => ?_) (fun hc => ?_)
              · have h := zi_f hc h
                refine lv_iconst (v := 0) hx hb dX2_readInto_138 lc_0 ?_
                refine lv_istore_n (lv' := [(3, .int 0), (7, .int r7), (6, .int v4), (0, .ref (za G 1)), (1, .ref (za G 31)), (2, .int y2), (4, .int y4), (5, .int y5)]) hx hb dX2_readInto_139 rfl hl (by decide) rfl (fun ls hl => ?_)
                refine lv_iload hx hb dX2_readInto_140 (lv_at hl 1 rfl) ?_
                obtain ⟨r14, h13, h⟩ := zb_e h
                refine z_cNi (As := [.int r7]) (rest := []) hx hb hC (hml.trans hl.1.symm) hI (c_X6_endsOf l G  (σ := σ11) h13) yyX6_endsOf q_nl_X2_56 ⟨Nat.le_of_ble_eq_true rfl, Nat.le_of_ble_eq_true rfl⟩ rfl rfl (Nat.le_of_ble_eq_true rfl) ⟨Nat.le_refl _, Nat.le_refl _⟩ dX2_readInto_142 (fun H locs hI => ?_)
                refine lv_istore (lv' := [(4, .int r14), (3, .int 0), (7, .int r7), (6, .int v4), (0, .ref (za G 1)), (1, .ref (za G 31)), (2, .int y2), (5, .int y5)]) hx hb dX2_readInto_145 hl (by decide) rfl (fun ls hl => ?_)
                refine lv_iconst (v := 0) hx hb dX2_readInto_147 lc_0 ?_
                refine lv_istore_n (lv' := [(2, .int 0), (4, .int r14), (3, .int 0), (7, .int r7), (6, .int v4), (0, .ref (za G 1)), (1, .ref (za G 31)), (5, .int y5)]) hx hb dX2_readInto_148 rfl hl (by decide) rfl (fun ls hl => ?_)
                refine lv_goto (tgt := 173) hx hb dX2_readInto_149 (by decide) ?_
                obtain ⟨v15, e_v15⟩ : ∃ y : Int32, y = y5 + 1 := ⟨_, rfl⟩
                have h := zl_e h e_v15
                refine lv_iinc (v := v15) (lv' := [(5, .int v15), (2, .int 0), (4, .int r14), (3, .int 0), (7, .int r7), (6, .int v4), (0, .ref (za G 1)), (1, .ref (za G 31))]) hx hb dX2_readInto_173 hl (k := 7) rfl (by rw [lc_1]; exact e_v15.symm) (by decide) rfl (fun ls hl => ?_)
                refine lv_goto (tgt := 25) hx hb dX2_readInto_176 (by decide) ?_
                exact ih 0 0 r14 v15 σ11 u h _ _ _ hI (lv_sub hl [6, 7, 1, 3, 2, 0] rfl) kR kE
              · have h := zi_t hc h
                refine lv_iload hx hb dX2_readInto_135 (lv_at hl 7 rfl) ?_
                exact hret ⟨congrArg Prod.fst (kR _ (Option.some.inj h).symm), congrArg Prod.snd (kR _ (Option.some.inj h).symm)⟩ hI rfl dX2_readInto_137
        · have h := zi_f hc h
          refine lv_iload hx hb dX2_readInto_49 (lv_at hl 0 rfl) ?_
          refine lv_bipush (v := 48) hx hb dX2_readInto_51 lb_48 ?_
          refine lv_icmp_lt (tgt := 63) hx hb dX2_readInto_53 (by decide) (fun hc => ?_) (fun hc => ?_)
          · have h := zi_t hc h
            refine lv_iload hx hb dX2_readInto_63 (lv_at hl 6 rfl) ?_
            exact hret ⟨congrArg Prod.fst (kR _ (Option.some.inj h).symm), congrArg Prod.snd (kR _ (Option.some.inj h).symm)⟩ hI rfl dX2_readInto_65
          · have h := zi_f hc h
            refine lv_iload hx hb dX2_readInto_56 (lv_at hl 0 rfl) ?_
            refine lv_bipush (v := 55) hx hb dX2_readInto_58 lb_55 ?_
            refine lv_icmp_le (tgt := 66) hx hb dX2_readInto_60 (by decide) (fun hc => ?_) (fun hc => ?_)
            · have h := zi_t hc h
              refine lv_aload_n hx hb dX2_readInto_66 rfl (lv_at hl 2 rfl) ?_
              refine lv_aload_n hx hb dX2_readInto_67 rfl (lv_at hl 2 rfl) ?_
              refine gX1_0 isJ31 hx hb hC hI q_fl_X2_19 dX2_readInto_68 ?_
              refine lv_iconst (v := 1) hx hb dX2_readInto_71 lc_1 ?_
              refine lv_isub hx hb dX2_readInto_72 ?_
              refine lv_iload_n hx hb dX2_readInto_73 rfl (lv_at hl 4 rfl) ?_
              refine lv_iload hx hb dX2_readInto_74 (lv_at hl 0 rfl) ?_
              refine lv_bipush (v := 48) hx hb dX2_readInto_76 lb_48 ?_
              refine lv_isub hx hb dX2_readInto_78 ?_
              obtain ⟨σ17, h16, h⟩ := zb_e h
              refine z_cVv (As := [.int ((σ 31 0) - 1), .int y3, .int (v4 - 48)]) (rest := []) hx hb hC (hml.trans hl.1.symm) hI (c_X1_put l G isJ31 h16) yyX1_put q_ml_X2_31 (oX1 G isJ31) rfl ⟨Nat.le_of_ble_eq_true rfl, Nat.le_of_ble_eq_true rfl⟩ rfl rfl (Nat.le_of_ble_eq_true rfl) ⟨Nat.le_refl _, Nat.le_refl _⟩ dX2_readInto_79 (fun H locs hI => ?_)
              refine lv_aload_n hx hb dX2_readInto_82 rfl (lv_at hl 1 rfl) ?_
              refine lv_aload_n hx hb dX2_readInto_83 rfl (lv_at hl 1 rfl) ?_
              refine gX2_3 hx hb hC hI q_fl_X2_28 dX2_readInto_84 ?_
              refine lv_iload hx hb dX2_readInto_87 (lv_at hl 0 rfl) ?_
              refine lv_bipush (v := 48) hx hb dX2_readInto_89 lb_48 ?_
              refine lv_isub hx hb dX2_readInto_91 ?_
              refine z_max hx hb hC (hml.trans hl.1.symm) q_ml_X2_35 (Nat.le_of_ble_eq_true rfl) (Nat.le_of_ble_eq_true rfl) (Nat.le_refl _) (Nat.le_refl _) dX2_readInto_92 ?_
              refine pX2_3 hx hb hC hI q_fl_X2_28 dX2_readInto_95 (fun σ18 H locs e_σ18 hI => ?_)
              have h := zl_e h e_σ18
              obtain ⟨v19, e_v19⟩ : ∃ y : Int32, y = y3 + 1 := ⟨_, rfl⟩
              have h := zl_e h e_v19
              refine lv_iinc (v := v19) (lv' := [(3, .int v19), (6, .int v4), (0, .ref (za G 1)), (1, .ref (za G 31)), (2, .int y2), (4, .int y4), (5, .int y5)]) hx hb dX2_readInto_98 hl (k := 4) rfl (by rw [lc_1]; exact e_v19.symm) (by decide) rfl (fun ls hl => ?_)
              refine lv_goto (tgt := 173) hx hb dX2_readInto_101 (by decide) ?_
              obtain ⟨v20, e_v20⟩ : ∃ y : Int32, y = y5 + 1 := ⟨_, rfl⟩
              have h := zl_e h e_v20
              refine lv_iinc (v := v20) (lv' := [(5, .int v20), (3, .int v19), (6, .int v4), (0, .ref (za G 1)), (1, .ref (za G 31)), (2, .int y2), (4, .int y4)]) hx hb dX2_readInto_173 hl (k := 6) rfl (by rw [lc_1]; exact e_v20.symm) (by decide) rfl (fun ls hl => ?_)
              refine lv_goto (tgt := 25) hx hb dX2_readInto_176 (by decide) ?_
              exact ih y2 v19 y4 v20 σ18 u h _ _ _ hI (lv_sub hl [3, 4, 5, 1, 6, 0] rfl) kR kE
            · have h := zi_f hc h
              refine lv_iload hx hb dX2_readInto_63 (lv_at hl 6 rfl) ?_
              exact hret ⟨congrArg Prod.fst (kR _ (Option.some.inj h).symm), congrArg Prod.snd (kR _ (Option.some.inj h).symm)⟩ hI rfl dX2_readInto_65
  unfold F_X2_readInto at h
  refine lv_aload_n hx hb dX2_readInto_0 rfl (lv_at hl 1 rfl) ?_
  refine lv_iconst (v := 0) hx hb dX2_readInto_1 lc_0 ?_
  refine pX1_0 isJ31 hx hb hC hI q_fl_X2_19 dX2_readInto_2 (fun σ1 H locs e_σ1 hI => ?_)
  have h := zl_e h e_σ1
  refine lv_aload_n hx hb dX2_readInto_5 rfl (lv_at hl 0 rfl) ?_
  refine lv_iconst (v := 0) hx hb dX2_readInto_6 lc_0 ?_
  refine pX2_2 hx hb hC hI rfl rfl q_fl_X2_24 dX2_readInto_7 (fun σ2 H locs e_σ2 hI => ?_)
  have h := zl_e h e_σ2
  refine lv_aload_n hx hb dX2_readInto_10 rfl (lv_at hl 0 rfl) ?_
  refine lv_iconst (v := 0) hx hb dX2_readInto_11 lc_0 ?_
  refine pX2_3 hx hb hC hI q_fl_X2_28 dX2_readInto_12 (fun σ3 H locs e_σ3 hI => ?_)
  have h := zl_e h e_σ3
  refine lv_iconst (v := 1) hx hb dX2_readInto_15 lc_1 ?_
  refine lv_istore_n (lv' := [(2, .int 1), (0, .ref (za G 1)), (1, .ref (za G 31))]) hx hb dX2_readInto_16 rfl hl (by decide) rfl (fun ls hl => ?_)
  refine lv_iconst (v := 0) hx hb dX2_readInto_17 lc_0 ?_
  refine lv_istore_n (lv' := [(3, .int 0), (2, .int 1), (0, .ref (za G 1)), (1, .ref (za G 31))]) hx hb dX2_readInto_18 rfl hl (by decide) rfl (fun ls hl => ?_)
  refine lv_iconst (v := 0) hx hb dX2_readInto_19 lc_0 ?_
  refine lv_istore (lv' := [(4, .int 0), (3, .int 0), (2, .int 1), (0, .ref (za G 1)), (1, .ref (za G 31))]) hx hb dX2_readInto_20 hl (by decide) rfl (fun ls hl => ?_)
  refine lv_iconst (v := 0) hx hb dX2_readInto_22 lc_0 ?_
  refine lv_istore (lv' := [(5, .int 0), (4, .int 0), (3, .int 0), (2, .int 1), (0, .ref (za G 1)), (1, .ref (za G 31))]) hx hb dX2_readInto_23 hl (by decide) rfl (fun ls hl => ?_)
  obtain ⟨u27, h26, hR, hE⟩ := zs_e h
  refine w_25 100 1 0 0 0 σ3 u27 h26 _ _ _ hI (lv_sub hl [4, 5, 3, 2, 1, 0] rfl) (fun ρ eρ => Option.some.inj (hR ρ eρ)) (fun v21 v22 v23 v24 σ25 e_h26 H locs ls hI hl => ?_)
  have h := zb5_s (hE _ e_h26)
  refine lv_aload_n hx hb dX2_readInto_179 rfl (lv_at hl 0 rfl) ?_
  refine lv_iload_n hx hb dX2_readInto_180 rfl (lv_at hl 2 rfl) ?_
  refine lv_if_ne (tgt := 194) hx hb dX2_readInto_181 (by decide) (fun hc => ?_) (fun hc => ?_)
  · have h := zi_f hc h
    refine lv_iconst (v := 0) hx hb dX2_readInto_194 lc_0 ?_
    refine pX2_2 hx hb hC hI rfl rfl q_fl_X2_24 dX2_readInto_195 (fun σ29 H locs e_σ29 hI => ?_)
    have h := zl_e h e_σ29
    refine lv_aload_n hx hb dX2_readInto_198 rfl (lv_at hl 0 rfl) ?_
    refine gX2_1 hx hb hC hI q_fl_X2_15 dX2_readInto_199 ?_
    exact hret ⟨congrArg Prod.fst (Option.some.inj h), congrArg Prod.snd (Option.some.inj h)⟩ hI rfl dX2_readInto_202
  · have h := zi_t hc h
    refine lv_iload_n hx hb dX2_readInto_184 rfl (lv_at hl 3 rfl) ?_
    refine lv_iload hx hb dX2_readInto_185 (lv_at hl 4 rfl) ?_
    refine lv_icmp_ne (tgt := 194) hx hb dX2_readInto_187 (by decide) (fun hc => ?_) (fun hc => ?_)
    · have h := zi_f hc h
      refine lv_iconst (v := 0) hx hb dX2_readInto_194 lc_0 ?_
      refine pX2_2 hx hb hC hI rfl rfl q_fl_X2_24 dX2_readInto_195 (fun σ30 H locs e_σ30 hI => ?_)
      have h := zl_e h e_σ30
      refine lv_aload_n hx hb dX2_readInto_198 rfl (lv_at hl 0 rfl) ?_
      refine gX2_1 hx hb hC hI q_fl_X2_15 dX2_readInto_199 ?_
      exact hret ⟨congrArg Prod.fst (Option.some.inj h), congrArg Prod.snd (Option.some.inj h)⟩ hI rfl dX2_readInto_202
    · have h := zi_t hc h
      refine lv_iconst (v := 1) hx hb dX2_readInto_190 lc_1 ?_
      refine lv_goto (tgt := 195) hx hb dX2_readInto_191 (by decide) ?_
      refine pX2_2 hx hb hC hI rfl rfl q_fl_X2_24 dX2_readInto_195 (fun σ31 H locs e_σ31 hI => ?_)
      have h := zl_e h e_σ31
      refine lv_aload_n hx hb dX2_readInto_198 rfl (lv_at hl 0 rfl) ?_
      refine gX2_1 hx hb hC hI q_fl_X2_15 dX2_readInto_199 ?_
      exact hret ⟨congrArg Prod.fst (Option.some.inj h), congrArg Prod.snd (Option.some.inj h)⟩ hI rfl dX2_readInto_202
set_option maxRecDepth 100000 in
set_option maxHeartbeats 4000000 in
theorem c_X6_fault (l : Launch) (G : zG)  {σ σ' : SF} {r : Int32} (h : F_X6_fault σ   = some (r, σ')) : zMi l WF G yX6_fault cX6_fault 1 .int 6 [.ref (za G 0)] σ r σ' := by
  refine zMi_of (by decide) (Nat.le_of_ble_eq_true rfl) (fun p e s m args below meth c ls Q hx hb hr hlk hml hC hI hl hret => ?_)
  have hl : lv_has ls 1 [(0, .ref (za G 0))] := hl
  have hC : zC WF G RX6 args s m := hC
  unfold F_X6_fault at h
  refine lv_aload_n hx hb dX6_fault_0 rfl (lv_at hl 0 rfl) ?_
  refine gX6_0 hx hb hC hI q_fl_X6_12 dX6_fault_1 ?_
  refine lv_aload_n hx hb dX6_fault_4 rfl (lv_at hl 0 rfl) ?_
  refine gX6_8 hx hb hC hI q_fl_X6_61 dX6_fault_5 ?_
  obtain ⟨r3, σ2, h1, h⟩ := zb2_e h
  refine z_cVi (As := [.ref (za G 31)]) (rest := []) hx hb hC (hml.trans hl.1.symm) hI (c_X2_readInto l G  h1) yyX2_readInto q_ml_X6_75 (oX2 G) rfl ⟨Nat.le_of_ble_eq_true rfl, Nat.le_of_ble_eq_true rfl⟩ rfl rfl (Nat.le_of_ble_eq_true rfl) ⟨Nat.le_refl _, Nat.le_refl _⟩ dX6_fault_8 (fun H locs hI => ?_)
  exact hret ⟨congrArg Prod.fst (Option.some.inj h), congrArg Prod.snd (Option.some.inj h)⟩ hI rfl dX6_fault_11
set_option maxRecDepth 100000 in
set_option maxHeartbeats 4000000 in
theorem c_X6_graph (l : Launch) (G : zG)  {σ σ' : SF} {r : Int32} (h : F_X6_graph σ   = some (r, σ')) : zMi l WF G yX6_graph cX6_graph 1 .int 38 [.ref (za G 0)] σ r σ' := by
  refine zMi_of (by decide) (Nat.le_of_ble_eq_true rfl) (fun p e s m args below meth c ls Q hx hb hr hlk hml hC hI hl hret => ?_)
  have hl : lv_has ls 1 [(0, .ref (za G 0))] := hl
  have hC : zC WF G RX6 args s m := hC
  unfold F_X6_graph at h
  refine lv_aload_n hx hb dX6_graph_0 rfl (lv_at hl 0 rfl) ?_
  refine gX6_0 hx hb hC hI q_fl_X6_12 dX6_graph_1 ?_
  refine lv_aload_n hx hb dX6_graph_4 rfl (lv_at hl 0 rfl) ?_
  refine gX6_8 hx hb hC hI q_fl_X6_61 dX6_graph_5 ?_
  obtain ⟨r3, σ2, h1, h⟩ := zb2_e h
  refine z_cVi (As := [.ref (za G 31)]) (rest := []) hx hb hC (hml.trans hl.1.symm) hI (c_X2_readInto l G  h1) yyX2_readInto q_ml_X6_75 (oX2 G) rfl ⟨Nat.le_of_ble_eq_true rfl, Nat.le_of_ble_eq_true rfl⟩ rfl rfl (Nat.le_of_ble_eq_true rfl) ⟨Nat.le_refl _, Nat.le_refl _⟩ dX6_graph_8 (fun H locs hI => ?_)
  refine lv_aload_n hx hb dX6_graph_11 rfl (lv_at hl 0 rfl) ?_
  refine gX6_0 hx hb hC hI q_fl_X6_12 dX6_graph_12 ?_
  refine gX2_1 hx hb hC hI q_fl_X6_71 dX6_graph_15 ?_
  refine lv_icmp_lt (tgt := 48) hx hb dX6_graph_18 (by decide) (fun hc => ?_) (fun hc => ?_)
  · have h := zi_t hc h
    refine lv_bipush (v := (-103)) hx hb dX6_graph_48 lb_m103 ?_
    exact hret ⟨congrArg Prod.fst (Option.some.inj h), congrArg Prod.snd (Option.some.inj h)⟩ hI rfl dX6_graph_50
  · have h := zi_f hc h
    refine lv_aload_n hx hb dX6_graph_21 rfl (lv_at hl 0 rfl) ?_
    refine gX6_0 hx hb hC hI q_fl_X6_12 dX6_graph_22 ?_
    refine gX2_2 hx hb hC hI q_fl_X6_79 dX6_graph_25 ?_
    refine lv_if_eq (tgt := 48) hx hb dX6_graph_28 (by decide) (fun hc => ?_) (fun hc => ?_)
    · have h := zi_t hc h
      refine lv_bipush (v := (-103)) hx hb dX6_graph_48 lb_m103 ?_
      exact hret ⟨congrArg Prod.fst (Option.some.inj h), congrArg Prod.snd (Option.some.inj h)⟩ hI rfl dX6_graph_50
    · have h := zi_f hc h
      refine lv_aload_n hx hb dX6_graph_31 rfl (lv_at hl 0 rfl) ?_
      refine gX6_0 hx hb hC hI q_fl_X6_12 dX6_graph_32 ?_
      refine gX2_3 hx hb hC hI q_fl_X6_83 dX6_graph_35 ?_
      refine lv_aload_n hx hb dX6_graph_38 rfl (lv_at hl 0 rfl) ?_
      refine gX6_8 hx hb hC hI q_fl_X6_61 dX6_graph_39 ?_
      refine gX1_0 isJ31 hx hb hC hI q_fl_X6_86 dX6_graph_42 ?_
      refine lv_icmp_lt (tgt := 51) hx hb dX6_graph_45 (by decide) (fun hc => ?_) (fun hc => ?_)
      · have h := zi_t hc h
        refine lv_aload_n hx hb dX6_graph_51 rfl (lv_at hl 0 rfl) ?_
        refine gX6_0 hx hb hC hI q_fl_X6_12 dX6_graph_52 ?_
        refine lv_iconst (v := 0) hx hb dX6_graph_55 lc_0 ?_
        refine pX2_1 hx hb hC hI q_fl_X6_71 dX6_graph_56 (fun σ4 H locs e_σ4 hI => ?_)
        have h := zl_e h e_σ4
        refine lv_aload_n hx hb dX6_graph_59 rfl (lv_at hl 0 rfl) ?_
        refine lv_dup hx hb dX6_graph_60 rfl ?_
        refine gX6_11 hx hb hC hI q_fl_X6_89 dX6_graph_61 ?_
        refine lv_iconst (v := 1) hx hb dX6_graph_64 lc_1 ?_
        refine lv_iadd hx hb dX6_graph_65 ?_
        refine pX6_11 hx hb hC hI q_fl_X6_89 dX6_graph_66 (fun σ5 H locs e_σ5 hI => ?_)
        have h := zl_e h e_σ5
        refine lv_aload_n hx hb dX6_graph_69 rfl (lv_at hl 0 rfl) ?_
        refine lv_iconst (v := 0) hx hb dX6_graph_70 lc_0 ?_
        refine pX6_10 hx hb hC hI rfl rfl q_fl_X6_92 dX6_graph_71 (fun σ6 H locs e_σ6 hI => ?_)
        have h := zl_e h e_σ6
        refine lv_aload_n hx hb dX6_graph_74 rfl (lv_at hl 0 rfl) ?_
        refine gX6_4 hx hb hC hI q_fl_X6_44 dX6_graph_75 ?_
        refine lv_iconst (v := 0) hx hb dX6_graph_78 lc_0 ?_
        refine pX5_1 hx hb hC hI q_fl_X6_95 dX6_graph_79 (fun σ7 H locs e_σ7 hI => ?_)
        have h := zl_e h e_σ7
        refine lv_aload_n hx hb dX6_graph_82 rfl (lv_at hl 0 rfl) ?_
        refine gX6_5 hx hb hC hI q_fl_X6_51 dX6_graph_83 ?_
        refine lv_iconst (v := 0) hx hb dX6_graph_86 lc_0 ?_
        refine pX3_0 isS19 hx hb hC hI q_fl_X6_96 dX6_graph_87 (fun σ8 H locs e_σ8 hI => ?_)
        have h := zl_e h e_σ8
        refine lv_aload_n hx hb dX6_graph_90 rfl (lv_at hl 0 rfl) ?_
        refine gX6_1 hx hb hC hI q_fl_X6_19 dX6_graph_91 ?_
        refine lv_aload_n hx hb dX6_graph_94 rfl (lv_at hl 0 rfl) ?_
        refine gX6_8 hx hb hC hI q_fl_X6_61 dX6_graph_95 ?_
        obtain ⟨σ10, h9, h⟩ := zb_e h
        refine z_cVv (As := [.ref (za G 31)]) (rest := []) hx hb hC (hml.trans hl.1.symm) hI (c_X1_copyFrom l G isJ3 isJ31 h9) yyX1_copyFrom q_ml_X6_97 (oX1 G isJ3) rfl ⟨Nat.le_of_ble_eq_true rfl, Nat.le_of_ble_eq_true rfl⟩ rfl rfl (Nat.le_of_ble_eq_true rfl) ⟨Nat.le_refl _, Nat.le_refl _⟩ dX6_graph_98 (fun H locs hI => ?_)
        refine lv_aload_n hx hb dX6_graph_101 rfl (lv_at hl 0 rfl) ?_
        obtain ⟨σ12, h11, h⟩ := zb_e h
        refine z_cVv (As := []) (rest := []) hx hb hC (hml.trans hl.1.symm) hI (c_X6_lookAnew l G  h11) yyX6_lookAnew q_ml_X6_100 (oX6 G) rfl ⟨Nat.le_of_ble_eq_true rfl, Nat.le_of_ble_eq_true rfl⟩ rfl rfl (Nat.le_of_ble_eq_true rfl) ⟨Nat.le_refl _, Nat.le_refl _⟩ dX6_graph_102 (fun H locs hI => ?_)
        refine lv_aload_n hx hb dX6_graph_105 rfl (lv_at hl 0 rfl) ?_
        refine gX6_1 hx hb hC hI q_fl_X6_19 dX6_graph_106 ?_
        refine gX1_0 isJ3 hx hb hC hI q_fl_X6_86 dX6_graph_109 ?_
        exact hret ⟨congrArg Prod.fst (Option.some.inj h), congrArg Prod.snd (Option.some.inj h)⟩ hI rfl dX6_graph_112
      · have h := zi_f hc h
        refine lv_bipush (v := (-103)) hx hb dX6_graph_48 lb_m103 ?_
        exact hret ⟨congrArg Prod.fst (Option.some.inj h), congrArg Prod.snd (Option.some.inj h)⟩ hI rfl dX6_graph_50
