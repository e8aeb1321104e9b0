theorem Rl.graph {c mx : Nat} {M : Int32} {K A B k t : Nat → Int32} (h : Rl c mx M K A B k t) : ∃ kd f0 f1 : Nat → Nat, ∀ v, v < c → kd v < 5 ∧ f0 v ≤ mx ∧ f1 v ≤ mx ∧ K v = nI (kd v) ∧ k v = nI (kd v) ∧ A v = nI (f0 v) ∧ t (2 * v) = nI (f0 v) ∧ B v = nI (f1 v) ∧ t (2 * v + 1) = nI (f1 v) := by
  refine ⟨fun v => (K v).toNatClampNeg, fun v => (A v).toNatClampNeg, fun v => (B v).toNatClampNeg, fun v hv => ?_⟩
  obtain ⟨x, y, z, h1, h2, h3, h4, h5, h6, h7, h8, h9⟩ := h.2.2 v hv
  have hm := h.2.1
  have e1 : (K v).toNatClampNeg = x := by rw [h4, nI_clamp (by omega)]
  have e2 : (A v).toNatClampNeg = y := by rw [h6, nI_clamp (by omega)]
  have e3 : (B v).toNatClampNeg = z := by rw [h8, nI_clamp (by omega)]
  simp only [e1, e2, e3]
  exact ⟨h1, h2, h3, h4, h5, h6, h7, h8, h9⟩
theorem dn_loop {x : Nat} (hx : x ≤ 8) {y3 : Int32} : ∀ (m N i k : Nat) (c4 c5 : Int32) (σ τ : SF), i + m = x → m < N → k < 2 ^ 31 → τ 0 45 = zLo (lN k) → τ 0 145 = zHi (lN k) → ∃ k' a4 a5 σ' τ', L_X6_drawn_39 (nI x) y3 N c4 c5 (nI k) (nI i) σ = some (a4, a5, nI k', nI x, σ') ∧ L_X7_drawnNow_15 (nI x) y3 N c4 c5 (nI i) τ = some (a4, a5, nI x, τ') ∧ zgL τ' 0 45 = lN k' ∧ (∀ c, (c < 31 ∨ 40 < c) → σ' c = σ c) ∧ Kp τ τ' := by
  intro m
  induction m with
  | zero =>
    intro N i k c4 c5 σ τ hi hN hk h1 h2
    obtain ⟨N, rfl⟩ : ∃ K, N = K + 1 := ⟨N - 1, by omega⟩
    have : i = x := by omega
    subst this
    refine ⟨k, c4, c5, σ, τ, ?_, ?_, ?_, fun _ _ => rfl, Kp.refl _⟩
    · unfold L_X6_drawn_39; rw [if_pos (nI_le (Nat.le_refl _) (by omega))]
    · unfold L_X7_drawnNow_15; rw [if_pos (nI_le (Nat.le_refl _) (by omega))]
    · show zLg (τ 0 45) (τ 0 145) = lN k
      rw [h1, h2, zLg_of]
  | succ m ih =>
    intro N i k c4 c5 σ τ hi hN hk h1 h2
    obtain ⟨N, rfl⟩ : ∃ K, N = K + 1 := ⟨N - 1, by omega⟩
    obtain ⟨k', K', A', B', a', t', i0, i1, i2, i3⟩ := dd_loop (σ := zst σ 31 0 5) (τ := zst (zst τ 0 18 5) 0 19 0) (y1 := nI x) (y3 := y3) (y4 := c4) (y5 := c5) (y6 := nI i) 5 100 0 k (σ 32) (σ 33) (σ 34) (τ 10) (τ 11) (by omega) (by omega) hk ⟨Or.inl rfl, by omega, fun v hv => absurd hv (by omega)⟩
    have es : r3 (zst σ 31 0 5) (σ 32) (σ 33) (σ 34) = zst σ 31 0 5 := r3_self (σ := zst σ 31 0 5)
    have em : mr (zst (zst τ 0 18 5) 0 19 0) (lN k) (τ 10) (τ 11) = zst (zst τ 0 18 5) 0 19 0 := by
      funext c
      unfold mr
      by_cases hc0 : c = 0
      · subst hc0
        simp only [if_true]
        have g1 : zst (zst τ 0 18 5) 0 19 0 0 45 = zLo (lN k) := h1
        have g2 : zst (zst τ 0 18 5) 0 19 0 0 145 = zHi (lN k) := h2
        have g3 : upd (zst (zst τ 0 18 5) 0 19 0 0) 45 (zLo (lN k)) = zst (zst τ 0 18 5) 0 19 0 0 := fa_upd_same g1
        rw [g3]
        exact fa_upd_same g2
      · by_cases hc1 : c = 10
        · subst hc1; rfl
        · by_cases hc2 : c = 11
          · subst hc2; rfl
          · simp [hc0, hc1, hc2]
    rw [es] at i1
    rw [em] at i2
    have i1' : L_X6_drawDraft_12 100 (nI k) 0 (zst σ 31 0 5) = _ := i1
    have i2' : L_X7_drawnNow_34 (nI x) y3 c4 c5 (nI i) 100 0 (zst (zst τ 0 18 5) 0 19 0) = _ := i2
    obtain ⟨kd, f0, f1, hg⟩ := i3.graph
    have hw : gwf 5 kd f0 f1 := ⟨by decide, fun v hv => by have := hg v hv; omega⟩
    have hJ : JIs (r3 (zst σ 31 0 5) K' A' B') 31 5 kd f0 f1 := ⟨rfl, fun v hv => by obtain ⟨-, -, -, q1, -, q2, -, q3, -⟩ := hg v hv; exact ⟨q1, q2, q3⟩⟩
    have hM : MIs ((mr (zst (zst τ 0 18 5) 0 19 0) (lN k') a' t') 0) ((mr (zst (zst τ 0 18 5) 0 19 0) (lN k') a' t') 10) ((mr (zst (zst τ 0 18 5) 0 19 0) (lN k') a' t') 11) 5 kd f0 f1 0 := ⟨rfl, rfl, fun v hv => by obtain ⟨-, -, -, -, q1, -, q2, -, q3⟩ := hg v hv; exact ⟨q1, q2, q3⟩⟩
    obtain ⟨o, t, s, d, p, r, l1, l2⟩ := look_ok hJ hw (by decide) (show 0 < 2 ^ 16 by decide)
    have l1' : F_X0_look (r3 (zst σ 31 0 5) K' A' B') 31 0 = some (fl (r3 (zst σ 31 0 5) K' A' B') 31 o t s d p r) := l1
    obtain ⟨τ1, n1, n2, n3⟩ := F_lay_eq hw (by decide) (by decide) hM
    have hgk := mkG_ok hw 0
    have l3 := q_folds hgk l2
    have hh : (fl (r3 (zst σ 31 0 5) K' A' B') 31 o t s d p r) (31 + 4) 11 = nI (hd (mkG 5 kd f0 f1 0)) := l2.2.2.2.2.2.2.2.2.1
    have hh2 : τ1 0 31 = nI (hd (mkG 5 kd f0 f1 0)) := n2.2.2.2.2.2.2.2.2.2.1
    have hb2 : τ1 0 30 = nI (bd (mkG 5 kd f0 f1 0)) := n2.2.2.2.2.2.2.2.2.1
    have hhl : hd (mkG 5 kd f0 f1 0) < 2 ^ 8 := (wa_lt hgk 16).1
    have hbl : bd (mkG 5 kd f0 f1 0) ≤ 16 := (wa_ct _ 16).2.2
    have k45 : τ1 0 45 = zLo (lN k') := n3.2 45 (by decide) (by decide) (by decide) (by decide) (by decide) (by decide) (by decide)
    have k145 : τ1 0 145 = zHi (lN k') := n3.2 145 (by decide) (by decide) (by decide) (by decide) (by decide) (by decide) (by decide)
    have hK : Kp τ τ1 := by
      refine Kp.trans ⟨fun i hi => ?_, fun k hk => ?_⟩ (Kp.lay n3)
      · unfold mr zst zsr; simp [show i ≠ 0 by omega, show i ≠ 10 by omega, show i ≠ 11 by omega]
      · unfold mr zst zsr upd; simp [show k ≠ 45 by omega, show k ≠ 145 by omega, show k ≠ 18 by omega, show k ≠ 19 by omega]
    have hS : ∀ c, (c < 31 ∨ 40 < c) → (fl (r3 (zst σ 31 0 5) K' A' B') 31 o t s d p r) c = σ c := fun c hc => by
      rw [fl_trK _ _ _ _ _ _ _ c (by omega)]
      unfold r3 zst zsr
      simp [show c ≠ 32 by omega, show c ≠ 33 by omega, show c ≠ 34 by omega, show c ≠ 31 by omega]
    have hC : ∀ z, L_X6_drawn_39 (nI x) y3 N (if bd (mkG 5 kd f0 f1 0) = 0 then c4 + 1 else c4 + 0) (c5 + nI (pc (hd (mkG 5 kd f0 f1 0)))) (nI k') (nI (i + 1)) (fl (r3 (zst σ 31 0 5) K' A' B') 31 o t s d p r) = z → L_X6_drawn_39 (nI x) y3 (N + 1) c4 c5 (nI k) (nI i) σ = z := by
      intro z hz
      unfold L_X6_drawn_39
      have hdd : F_X6_drawDraft σ (nI k) = some (nI k', r3 (zst σ 31 0 5) K' A' B') := by
        unfold F_X6_drawDraft
        rw [zl_q, i1', zb3_q]
      rw [if_neg (nI_ge (by omega) (by omega)), hdd, zb2_q, l1', zb_q, l3, zb_q, hh, bc_8 _ hhl]
      by_cases q : bd (mkG 5 kd f0 f1 0) = 0
      · rw [if_pos q] at hz
        rw [if_pos q, if_neg (by decide), zl_q, zb_q, zl_q, zl_q, nI_1]; exact hz
      · rw [if_neg q] at hz
        rw [if_neg q, if_pos rfl, zl_q, zb_q, zl_q, zl_q, nI_1]; exact hz
    have hD : ∀ z, L_X7_drawnNow_15 (nI x) y3 N (if bd (mkG 5 kd f0 f1 0) = 0 then c4 + 1 else c4 + 0) (c5 + nI (pc (hd (mkG 5 kd f0 f1 0)))) (nI (i + 1)) τ1 = z → L_X7_drawnNow_15 (nI x) y3 (N + 1) c4 c5 (nI i) τ = z := by
      intro z hz
      unfold L_X7_drawnNow_15
      rw [if_neg (nI_ge (by omega) (by omega)), zl_q, zl_q, i2', zb2_q, n1, zb_q, hb2, hh2, F_size_nI (lt816 hhl)]
      by_cases q : bd (mkG 5 kd f0 f1 0) = 0
      · rw [if_pos q] at hz
        rw [if_pos (by rw [q]; rfl), zl_q, zb_q, zl_q, zl_q, nI_1]; exact hz
      · rw [if_neg q] at hz
        rw [if_neg (fun z => q ((nI_eq (by omega) (by decide)).mp (z.trans nl_0))), zl_q, zb_q, zl_q, zl_q, nI_1]; exact hz
    obtain ⟨k2, a4, a5, σ2, τ2, j1, j2, j3, j4, j5⟩ := ih N (i + 1) k' _ _ _ τ1 (by omega) (by omega) i0 k45 k145
    exact ⟨k2, a4, a5, σ2, τ2, hC _ j1, hD _ j2, j3, fun c hc => (j4 c hc).trans (hS c hc), hK.trans j5⟩
theorem i10 : ¬ ((1 : Int32) = 0) := by decide
theorem within_eq (x : Int32) (a b : Int32) : F_X7_within x a b = if x < a ∨ b < x then some 0 else some 1 := by
  unfold F_X7_within
  by_cases h1 : x < a
  · simp [h1]
  · by_cases h2 : b < x
    · simp [h1, h2]
    · simp [h1, h2]
theorem drawn_ok {σ τ : SF} (x1 x2 x3 : Int32) : ∃ r σ' τ', F_X6_drawn σ x1 x2 x3 = some (r, σ') ∧ F_X7_drawn τ x1 x2 x3 = some (r, τ') ∧ (∀ c, (c < 31 ∨ 40 < c) → σ' c = σ c) ∧ Kp τ τ' := by
  unfold F_X6_drawn F_X7_drawn
  rw [within_eq, within_eq]
  by_cases h1 : x1 < 1
  · rw [if_pos h1, if_pos (Or.inl h1), zb_q, if_pos rfl]
    exact ⟨_, _, _, rfl, rfl, fun _ _ => rfl, Kp.refl _⟩
  rw [if_neg h1]
  by_cases h2 : 8 < x1
  · rw [if_pos h2, if_pos (Or.inr h2), zb_q, if_pos rfl]
    exact ⟨_, _, _, rfl, rfl, fun _ _ => rfl, Kp.refl _⟩
  rw [if_neg h2, if_neg (show ¬ (x1 < 1 ∨ 8 < x1) from fun z => z.elim h1 h2), zb_q, if_neg i10]
  by_cases h3 : x2 < 0
  · rw [if_pos h3, if_pos h3]
    exact ⟨_, _, _, rfl, rfl, fun _ _ => rfl, Kp.refl _⟩
  rw [if_neg h3, if_neg h3]
  by_cases h4 : x3 < 0
  · rw [if_pos h4, if_pos (Or.inl h4), zb_q, if_pos rfl]
    exact ⟨_, _, _, rfl, rfl, fun _ _ => rfl, Kp.refl _⟩
  rw [if_neg h4]
  by_cases h5 : x3 ≤ 2
  · have h5' : ¬ 2 < x3 := by rw [Int32.not_lt]; exact h5
    rw [if_pos h5, if_neg (show ¬ (x3 < 0 ∨ 2 < x3) from fun z => z.elim h4 h5'), zb_q, if_neg i10]
    obtain ⟨k, hk, rfl⟩ := nI_of h3
    obtain ⟨x, hx, rfl⟩ := nI_of2 (M := 8) (n := 8) rfl (fun z => h1 (Int32.lt_trans z (by decide))) (by rw [← Int32.not_lt]; exact h2)
    obtain ⟨k', a4, a5, σ', τ', j1, j2, j3, j4, j5⟩ := dn_loop hx (y3 := x3) x 100 0 k 0 0 σ (zsL τ 0 45 (lN k)) (by omega) (by omega) hk rfl rfl
    have j1' : L_X6_drawn_39 (nI x) x3 100 0 0 (nI k) 0 σ = _ := j1
    have j2' : L_X7_drawnNow_15 (nI x) x3 100 0 0 0 (zsL τ 0 45 (lN k)) = _ := j2
    have hK : Kp τ τ' := by
      refine Kp.trans ⟨fun i hi => ?_, fun k hk => ?_⟩ j5
      · unfold zsL zsr; simp [show i ≠ 0 by omega]
      · unfold zsL zsr upd; simp [show k ≠ 45 by omega, show k ≠ 145 by omega]
    unfold F_X7_drawnNow
    rw [j1', zb5_q, zl_q, nI_l hk, j2', zb4_q, j3, lN_i]
    by_cases q0 : x3 = 0
    · rw [if_pos q0, if_pos q0, zb2_q]
      exact ⟨_, _, _, rfl, rfl, j4, hK⟩
    · rw [if_neg q0, if_neg q0]
      by_cases q1 : x3 = 1
      · rw [if_pos q1, if_pos q1, zb2_q]
        exact ⟨_, _, _, rfl, rfl, j4, hK⟩
      · rw [if_neg q1, if_neg q1, zb2_q]
        exact ⟨_, _, _, rfl, rfl, j4, hK⟩
  · have h5' : 2 < x3 := by rw [← Int32.not_le]; exact h5
    rw [if_neg h5, if_pos (Or.inr h5'), zb_q, if_pos rfl]
    exact ⟨_, _, _, rfl, rfl, fun _ _ => rfl, Kp.refl _⟩
