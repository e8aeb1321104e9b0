section MF
variable {τ0 : SF} {n : Nat} {kd f0 f1 : Nat → Nat}
theorem run_itO {g : Gr} (hg : gok g) (x : Nat) : ∀ i, i < (po g).length → RunM τ0 (itO g x i) (opB g x i) (i + 1) (opB g x i).length
  | 0, _ => run_nil τ0 _
  | i + 1, hi => by
    have ih := run_itO hg x i (by omega)
    have hv : nd g (i + 1) < 8 := ((po_ok hg).2.1 _ (nd_mem hi)).1
    have hln := itO_len g x i
    unfold itO opB
    cases hk : blk g x (nd g (i + 1)) with
    | false => exact run_mono ih (by omega) (by simp)
    | true => exact run_mono (run_app (run_o5 hv) ih (B := i + 1 + 1) (by omega) (by omega)) (by omega) (by simp <;> omega)
theorem run_itC {g : Gr} (hg : gok g) {x D BT : Nat} (hx : x < 8) (hch : ∀ v, Lrd g x v → RunM τ0 [1000 + v] (tr g kd D v) BT ((tr g kd D v).length + 4 * (vs g D v).length)) : ∀ i, i < (po g).length → RunM τ0 (itC g x i) (clB (tr g kd D) g x i) (BT + 2 * i + 1) ((clB (tr g kd D) g x i).length + 4 * ((blc g x i).flatMap (vs g D)).length)
  | 0, _ => run_mono (run_nil τ0 0) (by omega) (by omega)
  | i + 1, hi => by
    have ih := run_itC hg hx hch i (by omega)
    unfold itC clB blc
    cases hk : blk g x (nd g (i + 1)) with
    | false =>
      have : (blc g x i ++ if false = true then [nd g (i + 1)] else []) = blc g x i := by simp
      rw [this]
      simp only [Bool.false_eq_true, if_false, List.append_nil]
      exact run_mono ih (by omega) (by omega)
    | true =>
      have hl := (blk_lord hg hx hk).1
      have h2 := run_app (I1 := [6301]) (I2 := [1000 + nd g (i + 1)]) (E1 := [(2, 301, 0)]) (run_c6 (τ0 := τ0) (s := 301) (by decide)) (hch _ hl) (B := BT + 2) (by simp <;> omega) (by omega)
      have h3 := run_app ih h2 (B := BT + 2 * (i + 1) + 1) (by simp <;> omega) (by omega)
      simp only [if_true]
      refine run_mono h3 (by omega) ?_
      rw [List.flatMap_append, List.length_append, List.length_append]
      simp only [List.flatMap_cons, List.flatMap_nil, List.append_nil, List.length_cons]
      omega
theorem run_br2 (hw : gwf n kd f0 f1) (hL : ML τ0 n kd f0 f1) (hb : bd (mkG n kd f0 f1 0) = 0) {x D BT e : Nat} (he : e / 2 = x) (hx : x ∈ po (mkG n kd f0 f1 0)) (hxn : x < n) (hen : e % 2 < en (kd x)) (hch : ∀ v, Lrd (mkG n kd f0 f1 0) x v → RunM τ0 [1000 + v] (tr (mkG n kd f0 f1 0) kd D v) BT ((tr (mkG n kd f0 f1 0) kd D v).length + 4 * (vs (mkG n kd f0 f1 0) D v).length)) : RunM τ0 [3000 + e] (br (tr (mkG n kd f0 f1 0) kd D) (mkG n kd f0 f1 0) e) (BT + 2) ((br (tr (mkG n kd f0 f1 0) kd D) (mkG n kd f0 f1 0) e).length + 4 * ((brc (mkG n kd f0 f1 0) e).flatMap (vs (mkG n kd f0 f1 0) D)).length + 1) := by
  have hg := mkG_ok hw 0
  have hge : mkG n kd f0 f1 0 e = some (tgt f0 f1 e) := by
    unfold mkG
    rw [he, if_pos ⟨hxn, hen, by simp⟩]
  have hlv : lvE (mkG n kd f0 f1 0) e = some (tgt f0 f1 e) := by unfold lvE; rw [he, if_pos hx]; exact hge
  refine run_br hw hL hlv (fun hf hm => ?_) (by omega)
  have hl := fwd_lord hg hb hf hm
  rw [he] at hl
  refine run_mono (hch _ hl) (by omega) ?_
  unfold br brc
  rw [hlv]
  simp only [if_pos hf.2, hm, Bool.false_eq_true, if_false, List.flatMap_cons, List.flatMap_nil, List.append_nil]
  exact Nat.le_refl _
theorem run_ens (hw : gwf n kd f0 f1) (hL : ML τ0 n kd f0 f1) (hb : bd (mkG n kd f0 f1 0) = 0) {x D BT : Nat} (hx : x ∈ po (mkG n kd f0 f1 0)) (hxn : x < n) (hch : ∀ v, Lrd (mkG n kd f0 f1 0) x v → RunM τ0 [1000 + v] (tr (mkG n kd f0 f1 0) kd D v) BT ((tr (mkG n kd f0 f1 0) kd D v).length + 4 * (vs (mkG n kd f0 f1 0) D v).length)) : RunM τ0 (eI (en (kd x)) x) (ens (tr (mkG n kd f0 f1 0) kd D) (mkG n kd f0 f1 0) (en (kd x)) x) (BT + 5) ((ens (tr (mkG n kd f0 f1 0) kd D) (mkG n kd f0 f1 0) (en (kd x)) x).length + 4 * (((brc (mkG n kd f0 f1 0) (2 * x)).flatMap (vs (mkG n kd f0 f1 0) D)).length + ((brc (mkG n kd f0 f1 0) (2 * x + 1)).flatMap (vs (mkG n kd f0 f1 0) D)).length) + 2) := by
  have hen := en_le (kd x)
  unfold eI ens
  rcases (show en (kd x) = 0 ∨ en (kd x) = 1 ∨ en (kd x) = 2 by omega) with h | h | h
  · rw [h]; exact run_mono (run_nil τ0 0) (by omega) (by omega)
  · rw [h]
    have h1 := run_br2 hw hL hb (x := x) (e := 2 * x) (by omega) hx hxn (by omega) hch
    refine run_mono (run_app (I2 := []) (E2 := []) h1 (run_nil τ0 0) (B := BT + 5) (by simp) (by omega)) (by omega) ?_
    simp
    omega
  · rw [h]
    have h1 := run_br2 hw hL hb (x := x) (e := 2 * x) (by omega) hx hxn (by omega) hch
    have h2 := run_br2 hw hL hb (x := x) (e := 2 * x + 1) (by omega) hx hxn (by omega) hch
    have h3 := run_app h2 (run_tell (τ0 := τ0) (c := 401) (by decide)) (B := BT + 3) (by simp <;> omega) (by omega)
    have h4 := run_app (run_tell (τ0 := τ0) (c := 400) (by decide)) h3 (B := BT + 4) (by simp <;> omega) (by omega)
    have h5 := run_app h1 h4 (B := BT + 5) (by simp <;> omega) (by omega)
    refine run_mono h5 (by omega) ?_
    simp
    omega
theorem run_tree (hw : gwf n kd f0 f1) (h0 : 0 < n) (hL : ML τ0 n kd f0 f1) (hb : bd (mkG n kd f0 f1 0) = 0) : ∀ (D x : Nat), x ∈ po (mkG n kd f0 f1 0) → pc (dk (mkG n kd f0 f1 0) x) + D = 9 → RunM τ0 [1000 + x] (tr (mkG n kd f0 f1 0) kd D x) (32 * D) ((tr (mkG n kd f0 f1 0) kd D x).length + 4 * (vs (mkG n kd f0 f1 0) D x).length) := by
  have hg := mkG_ok hw 0
  have hlen := po_len hg
  intro D
  induction D with
  | zero =>
    intro x hx hp
    have := pc_le8 (dk_lt (mkG n kd f0 f1 0) x)
    omega
  | succ D ih =>
    intro x hx hp
    have hxn := Rch_n hw h0 ((mem_po hg).mp hx)
    have hx8 := ((po_ok hg).2.1 x hx).1
    have hpos : 0 < (po (mkG n kd f0 f1 0)).length := List.length_pos_of_mem hx
    have hhd : hd (mkG n kd f0 f1 0) < 2 ^ 8 := (wa_lt hg 16).1
    have hch : ∀ v, Lrd (mkG n kd f0 f1 0) x v → RunM τ0 [1000 + v] (tr (mkG n kd f0 f1 0) kd D v) (32 * D) ((tr (mkG n kd f0 f1 0) kd D v).length + 4 * (vs (mkG n kd f0 f1 0) D v).length) := fun v hv => by
      have := Lrd_pc hg hv
      exact ih v ((mem_po hg).mpr hv.2.1.2.1) (by omega)
    have hlc := itC_len (mkG n kd f0 f1 0) x ((po (mkG n kd f0 f1 0)).length - 1)
    have hle : (eI (en (kd x)) x).length ≤ 4 := by
      unfold eI
      split
      · simp
      · split <;> simp
    have r1 := run_itC (τ0 := τ0) (kd := kd) hg hx8 hch ((po (mkG n kd f0 f1 0)).length - 1) (by omega)
    have r2 := run_ens hw hL hb hx hxn hch
    have r3 := run_app r2 r1 (B := 32 * D + 19) (by omega) (by omega)
    have r4 := run_app (run_tell (τ0 := τ0) (c := x) (by omega)) r3 (B := 32 * D + 20) (by rw [List.length_append]; omega) (by omega)
    have r5 := run_app (run_itO (τ0 := τ0) hg x ((po (mkG n kd f0 f1 0)).length - 1) (by omega)) r4 (B := 32 * D + 27) (by rw [List.length_append, List.length_append, List.length_singleton]; omega) (by omega)
    have r6 : RunM τ0 [2000 + x] (wi (tr (mkG n kd f0 f1 0) kd D) (mkG n kd f0 f1 0) (en (kd x)) x) (32 * D + 27) ((wi (tr (mkG n kd f0 f1 0) kd D) (mkG n kd f0 f1 0) (en (kd x)) x).length + 4 * ((chs (mkG n kd f0 f1 0) x).flatMap (vs (mkG n kd f0 f1 0) D)).length + 3) := by
      refine run_mono (run_push (fun w t τ hM hB => ?_) r5 (Nat.le_refl _) (by omega)) (Nat.le_refl _) ?_
      · obtain ⟨τ', k1, k2⟩ := m_within hw h0 hL hx hM (by omega)
        refine ⟨τ', ?_, ?_⟩
        · have := dn_gen τ (q := 2) (r := x) (by decide) (by omega)
          rw [if_neg (by decide), if_pos (by decide), k1, zb_q, show 1000 * 2 + x = 2000 + x by omega] at this
          exact this
        · simpa [List.append_assoc] using k2
      · unfold wi chs
        simp only [List.length_append, List.length_cons, List.length_nil, List.flatMap_append]
        omega
    have hv : (vs (mkG n kd f0 f1 0) (D + 1) x).length = 1 + ((chs (mkG n kd f0 f1 0) x).flatMap (vs (mkG n kd f0 f1 0) D)).length := by
      unfold vs
      rw [List.length_cons]; omega
    have hlt : ∀ (w : List Nat) (t : St) (τ : SF), MS τ0 w t τ → F_X7_doNext τ (nI (1000 + x)) = zb (zb (some (if (hd (mkG n kd f0 f1 0)).testBit x then (1 : Int32) else 0)) fun r2 => if r2 = 0 then (zb (F_X7_later τ (nI (2000 + x))) fun σ4 => some σ4) else (zb (F_X7_later τ (nI 6300)) fun σ6 => zb (F_X7_later σ6 (nI (2000 + x))) fun σ8 => zb (F_X7_later σ8 (nI (4000 + x))) fun σ10 => some σ10)) fun σ4 => some σ4 := by
      intro w t τ hM
      have := dn_gen τ (q := 1) (r := x) (by decide) (by omega)
      rw [if_pos (by decide), show 1000 * 1 + x = 1000 + x by omega] at this
      rw [this]
      unfold F_X7_layTree
      have e2 : (2000 : Int32) + nI x = nI (2000 + x) := nI_add 2000 x
      have e4 : (4000 : Int32) + nI x = nI (4000 + x) := nI_add 4000 x
      have e6 : (6300 : Int32) = nI 6300 := rfl
      rw [(hM.f hL).1, F_isIn_nI (show hd (mkG n kd f0 f1 0) < 2 ^ 31 by omega) (show x < 31 by omega), e2, e4, e6]
    unfold tr
    rw [hv]
    cases hh : (hd (mkG n kd f0 f1 0)).testBit x with
    | false =>
      have e1 : ((if false = true then [((1 : Nat), 100 + x, (0 : Nat))] else []) ++ (wi (tr (mkG n kd f0 f1 0) kd D) (mkG n kd f0 f1 0) (en (kd x)) x ++ if false = true then [((2 : Nat), (300 : Nat), (0 : Nat))] else [])) = wi (tr (mkG n kd f0 f1 0) kd D) (mkG n kd f0 f1 0) (en (kd x)) x := by simp
      rw [e1]
      refine run_mono (run_push (B' := 32 * D + 27) (fun w t τ hM hB => ?_) r6 (Nat.le_refl _) (by omega)) (by omega) (by omega)
      obtain ⟨τ1, m1, m2⟩ := m_later hM (by omega) (2000 + x)
      refine ⟨τ1, ?_, m2⟩
      rw [hlt w t τ hM, hh, zb_q, if_pos (by simp), m1, zb_q, zb_q]
    | true =>
      have e1 : ((if true = true then [((1 : Nat), 100 + x, (0 : Nat))] else []) ++ (wi (tr (mkG n kd f0 f1 0) kd D) (mkG n kd f0 f1 0) (en (kd x)) x ++ if true = true then [((2 : Nat), (300 : Nat), (0 : Nat))] else [])) = [(1, 100 + x, 0)] ++ (wi (tr (mkG n kd f0 f1 0) kd D) (mkG n kd f0 f1 0) (en (kd x)) x ++ [(2, 300, 0)]) := by simp
      rw [e1]
      have s1 := run_app r6 (run_c6 (τ0 := τ0) (s := 300) (by decide)) (B := 32 * D + 28) (by simp <;> omega) (by omega)
      have s2 := run_app (run_o4 (τ0 := τ0) hx8) s1 (B := 32 * D + 29) (by simp <;> omega) (by omega)
      refine run_mono (run_push (B' := 32 * D + 29) (fun w t τ hM hB => ?_) s2 (Nat.le_refl _) (by omega)) (by omega) ?_
      · obtain ⟨τ1, m1, m2⟩ := m_later hM (by omega) 6300
        obtain ⟨τ2, m3, m4⟩ := m_later m2 (by rw [List.length_cons]; omega) (2000 + x)
        obtain ⟨τ3, m5, m6⟩ := m_later m4 (by rw [List.length_cons, List.length_cons]; omega) (4000 + x)
        refine ⟨τ3, ?_, m6⟩
        rw [hlt w t τ hM, hh, zb_q, if_neg (by simp), m1, zb_q, m3, zb_q, m5, zb_q, zb_q]
      · simp only [List.length_append, List.length_cons, List.length_nil]
        omega
/-- the reference's whole fold -/
theorem m_fold (hw : gwf n kd f0 f1) (h0 : 0 < n) {τ : SF} (hR : RIs τ n kd f0 f1) : ∃ τ0 τ', F_X7_layFold τ = some τ' ∧ ML τ0 n kd f0 f1 ∧ MS τ0 [] (FT (mkG n kd f0 f1 0) kd) τ' ∧ Kp τ τ' := by
  obtain ⟨τ1, h1, h2, h3, h4⟩ := F_layNow_eq hw h0 hR
  have hg := mkG_ok hw 0
  have hM : MS τ1 [] ([], 0, 0, 0, []) (zst (zst (zst (zst (zst (zst τ1 0 36 0) 0 37 0) 0 38 0) 0 39 0) 0 41 0) 0 43 0) := by
    refine ⟨fun c h0 h1 h2 h3 => ?_, fun k hk => ?_, rfl, rfl, rfl, rfl, rfl, rfl, STK.nil _, STK.nil _, STK.nil _, by decide, fun c hc => by simp at hc⟩
    · simp [zst, zsr, h0]
    · simp [zst, zsr, upd, hk.1, hk.2.1, hk.2.2.1, hk.2.2.2.1, hk.2.2.2.2.1, hk.2.2.2.2.2]
  have hKp : ∀ w t τ', MS τ1 w t τ' → Kp τ τ' := fun w t τ' hM' => h4.trans ⟨fun i hi => hM'.1 i (by omega) (by omega) (by omega) (by omega), fun k hk => hM'.2.1 k (by unfold wk; omega)⟩
  have hn := hw.1
  have e1 : (zst (zst (zst (zst (zst (zst τ1 0 36 0) 0 37 0) 0 38 0) 0 39 0) 0 41 0) 0 43 0) 0 1 = nI n := (hR.kp h4).1
  have hb16 : bd (mkG n kd f0 f1 0) ≤ 16 := (wa_ct _ 16).2.2
  have e30 : (zst (zst (zst (zst (zst (zst τ1 0 36 0) 0 37 0) 0 38 0) 0 39 0) 0 41 0) 0 43 0) 0 30 = nI (bd (mkG n kd f0 f1 0)) := h2.2.2.2.2.2.2.2.2.1
  have fin : ∀ (N : Nat) (t : St) (τ2 : SF), MS τ1 [] t τ2 → L_X7_layFold_55 (N + 1) τ2 = some τ2 := fun N t τ2 hM2 => by
    unfold L_X7_layFold_55
    have : τ2 0 41 = nI 0 := hM2.2.2.2.2.2.2.1
    rw [this, if_pos (by decide)]
  unfold F_X7_layFold
  rw [h1, zb_q, zl_q, zl_q, zl_q, zl_q, zl_q, zl_q, e1, if_neg (nI_nle h0 (by omega)), e30]
  unfold FT
  by_cases hb : bd (mkG n kd f0 f1 0) = 0
  · have hp : pc (dk (mkG n kd f0 f1 0) 0) + 8 = 9 := by
      rw [dk_zero hg]
      have : pc 1 = 1 := by decide +kernel
      omega
    have hrun := run_tree hw h0 ⟨h3, h2⟩ hb 8 0 (po_ok hg).2.2.2.2.1 hp
    obtain ⟨τ2, m1, m2⟩ := m_later hM (by decide) 1000
    obtain ⟨τ3, k, a1, a2, a3⟩ := hrun [] _ τ2 m2 (tr_room hg hb kd) (fit_all hg hb 8 _) (by simp)
    have hk : k ≤ 104 := by
      have := tr_len (mkG n kd f0 f1 0) kd 8 0
      have := vs_len hg hb 8 0 (po_ok hg).2.2.2.2.1
      omega
    have e300 : L_X7_layFold_55 300 τ2 = some τ3 := by
      have := a3 (300 - k)
      rw [show 300 - k + k = 300 by omega] at this
      rw [this, show 300 - k = (299 - k) + 1 by omega]
      exact fin _ _ τ3 a2
    have m1' : F_X7_later (zst (zst (zst (zst (zst (zst τ1 0 36 0) 0 37 0) 0 38 0) 0 39 0) 0 41 0) 0 43 0) 1000 = some τ2 := m1
    rw [if_pos hb, if_pos (by rw [hb]; rfl), m1', zb_q, e300, zb_q]
    exact ⟨τ1, τ3, rfl, ⟨h3, h2⟩, a2, hKp _ _ _ a2⟩
  · rw [if_neg hb, if_neg (fun z => hb ((nI_eq (by omega) (by decide)).mp (z.trans nl_0)))]
    have e300 := fin 299 _ _ hM
    rw [e300, zb_q]
    exact ⟨τ1, _, rfl, ⟨h3, h2⟩, hM, hKp _ _ _ hM⟩
end MF
