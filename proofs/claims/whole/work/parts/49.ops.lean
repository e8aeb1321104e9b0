def s3 (τ : SF) (p q s : Nat) (a b d : Nat → Int32) : SF := fun c => if c = p then a else if c = q then b else if c = s then d else τ c
section S3
variable {τ : SF} {p q s c i : Nat} {a b d : Nat → Int32} {v : Int32}
theorem s3_o (h1 : c ≠ p) (h2 : c ≠ q) (h3 : c ≠ s) : s3 τ p q s a b d c = τ c := by simp [s3, h1, h2, h3]
theorem s3_p : zst (s3 τ p q s a b d) p i v = s3 τ p q s (upd a i v) b d := by
  funext c; unfold zst zsr s3; by_cases h : c = p
  · subst h; simp
  · simp [h]
theorem s3_q (h1 : q ≠ p) : zst (s3 τ p q s a b d) q i v = s3 τ p q s a (upd b i v) d := by
  funext c; unfold zst zsr s3; by_cases h : c = q
  · subst h; simp [h1]
  · simp [h]
theorem s3_s (h1 : s ≠ p) (h2 : s ≠ q) : zst (s3 τ p q s a b d) s i v = s3 τ p q s a b (upd d i v) := by
  funext c; unfold zst zsr s3; by_cases h : c = s
  · subst h; simp [h1, h2]
  · simp [h]
theorem s3_self : s3 τ p q s (τ p) (τ q) (τ s) = τ := by
  funext c; unfold s3
  by_cases h1 : c = p
  · subst h1; simp
  · by_cases h2 : c = q
    · subst h2; simp [h1]
    · by_cases h3 : c = s
      · subst h3; simp [h1, h2]
      · simp [h1, h2, h3]
end S3
section CPY
variable {τ : SF}
theorem im33 : ∀ (m N i : Nat) (a b : Nat → Int32), i + m = 8 → m < N → L_X7_image_33 N (nI i) (r2 τ 22 23 a b) = some (nI 8, r2 τ 22 23 (rfrom (τ 1) a i 8) (rfrom (τ 2) b (2 * i) 16)) := by
  intro m
  induction m with
  | zero =>
    intro N i a b hi hN
    obtain ⟨N, rfl⟩ : ∃ K, N = K + 1 := ⟨N - 1, by omega⟩
    have : i = 8 := by omega
    subst this
    unfold L_X7_image_33
    rw [if_pos (by decide), rfrom_end (Nat.le_refl _), rfrom_end (by decide)]
  | succ m ih =>
    intro N i a b hi hN
    obtain ⟨N, rfl⟩ : ∃ K, N = K + 1 := ⟨N - 1, by omega⟩
    have h8 := nq_zin1 (show i < 8 by omega) (by decide)
    have h16 := nq_zin1 (show 2 * i < 16 by omega) (by decide)
    have h17 := nq_zin1 (show 2 * i + 1 < 16 by omega) (by decide)
    unfold L_X7_image_33
    rw [if_neg (by rw [nl_8]; exact nI_ge (by omega) (by decide)), nI_2k, nI_1, zg_q h8, zg_q h8, zl_q, zl_q, zg_q h16, zg_q h16, zl_q, zl_q, zg_q h17, zg_q h17, zl_q, zl_q, nI_clamp (by omega), nI_clamp (by omega), nI_clamp (by omega), r2_o (c := 1) (by decide) (by decide), r2_sp (by decide), r2_o (c := 2) (by decide) (by decide), r2_sq, r2_o (c := 2) (by decide) (by decide), r2_sq, nI_1, ih N (i + 1) _ _ (by omega) (by omega), rfrom_step (by omega)]
    have e1 : 2 * (i + 1) = 2 * i + 1 + 1 := by omega
    rw [e1, rfrom_step (by omega), rfrom_step (by omega)]
theorem re31 : ∀ (m N i : Nat) (a b : Nat → Int32), i + m = 8 → m < N → L_X7_restore_31 N (nI i) (r2 τ 1 2 a b) = some (nI 8, r2 τ 1 2 (rfrom (τ 22) a i 8) (rfrom (τ 23) b (2 * i) 16)) := by
  intro m
  induction m with
  | zero =>
    intro N i a b hi hN
    obtain ⟨N, rfl⟩ : ∃ K, N = K + 1 := ⟨N - 1, by omega⟩
    have : i = 8 := by omega
    subst this
    unfold L_X7_restore_31
    rw [if_pos (by decide), rfrom_end (Nat.le_refl _), rfrom_end (by decide)]
  | succ m ih =>
    intro N i a b hi hN
    obtain ⟨N, rfl⟩ : ∃ K, N = K + 1 := ⟨N - 1, by omega⟩
    have h8 := nq_zin1 (show i < 8 by omega) (by decide)
    have h16 := nq_zin1 (show 2 * i < 16 by omega) (by decide)
    have h17 := nq_zin1 (show 2 * i + 1 < 16 by omega) (by decide)
    unfold L_X7_restore_31
    rw [if_neg (by rw [nl_8]; exact nI_ge (by omega) (by decide)), nI_2k, nI_1, zg_q h8, zg_q h8, zl_q, zl_q, zg_q h16, zg_q h16, zl_q, zl_q, zg_q h17, zg_q h17, zl_q, zl_q, nI_clamp (by omega), nI_clamp (by omega), nI_clamp (by omega), r2_o (c := 22) (by decide) (by decide), r2_sp (by decide), r2_o (c := 23) (by decide) (by decide), r2_sq, r2_o (c := 23) (by decide) (by decide), r2_sq, nI_1, ih N (i + 1) _ _ (by omega) (by omega), rfrom_step (by omega)]
    have e1 : 2 * (i + 1) = 2 * i + 1 + 1 := by omega
    rw [e1, rfrom_step (by omega), rfrom_step (by omega)]
theorem nl_6 : (6 : Int32) = nI 6 := rfl
theorem im95 : ∀ (m N i : Nat) (a b d : Nat → Int32), i + m = 6 → m < N → L_X7_image_95 N (nI i) (s3 τ 24 25 26 a b d) = some (nI 6, s3 τ 24 25 26 (rfrom (τ 4) a i 6) (rfrom (τ 5) b i 6) (rfrom (τ 6) d i 6)) := by
  intro m
  induction m with
  | zero =>
    intro N i a b d hi hN
    obtain ⟨N, rfl⟩ : ∃ K, N = K + 1 := ⟨N - 1, by omega⟩
    have : i = 6 := by omega
    subst this
    unfold L_X7_image_95
    rw [if_pos (by decide), rfrom_end (Nat.le_refl _), rfrom_end (Nat.le_refl _), rfrom_end (Nat.le_refl _)]
  | succ m ih =>
    intro N i a b d hi hN
    obtain ⟨N, rfl⟩ : ∃ K, N = K + 1 := ⟨N - 1, by omega⟩
    have h6 := nq_zin1 (show i < 6 by omega) (by decide)
    unfold L_X7_image_95
    rw [if_neg (by rw [nl_6]; exact nI_ge (by omega) (by decide)), zg_q h6, zg_q h6, zl_q, zg_q h6, zg_q h6, zl_q, zg_q h6, zg_q h6, zl_q, zl_q, nI_clamp (by omega), s3_o (c := 4) (by decide) (by decide) (by decide), s3_p, s3_o (c := 5) (by decide) (by decide) (by decide), s3_q (by decide), s3_o (c := 6) (by decide) (by decide) (by decide), s3_s (by decide) (by decide), nI_1, ih N (i + 1) _ _ _ (by omega) (by omega), rfrom_step (by omega), rfrom_step (by omega), rfrom_step (by omega)]
theorem re93 : ∀ (m N i : Nat) (a b d : Nat → Int32), i + m = 6 → m < N → L_X7_restore_93 N (nI i) (s3 τ 4 5 6 a b d) = some (nI 6, s3 τ 4 5 6 (rfrom (τ 24) a i 6) (rfrom (τ 25) b i 6) (rfrom (τ 26) d i 6)) := by
  intro m
  induction m with
  | zero =>
    intro N i a b d hi hN
    obtain ⟨N, rfl⟩ : ∃ K, N = K + 1 := ⟨N - 1, by omega⟩
    have : i = 6 := by omega
    subst this
    unfold L_X7_restore_93
    rw [if_pos (by decide), rfrom_end (Nat.le_refl _), rfrom_end (Nat.le_refl _), rfrom_end (Nat.le_refl _)]
  | succ m ih =>
    intro N i a b d hi hN
    obtain ⟨N, rfl⟩ : ∃ K, N = K + 1 := ⟨N - 1, by omega⟩
    have h6 := nq_zin1 (show i < 6 by omega) (by decide)
    unfold L_X7_restore_93
    rw [if_neg (by rw [nl_6]; exact nI_ge (by omega) (by decide)), zg_q h6, zg_q h6, zl_q, zg_q h6, zg_q h6, zl_q, zg_q h6, zg_q h6, zl_q, zl_q, nI_clamp (by omega), s3_o (c := 24) (by decide) (by decide) (by decide), s3_p, s3_o (c := 25) (by decide) (by decide) (by decide), s3_q (by decide), s3_o (c := 26) (by decide) (by decide) (by decide), s3_s (by decide) (by decide), nI_1, ih N (i + 1) _ _ _ (by omega) (by omega), rfrom_step (by omega), rfrom_step (by omega), rfrom_step (by omega)]
end CPY
section OP6
variable {k : Nat} {σ τ : SF}
theorem op_image (h : Inv k σ τ) : ∃ r σ' τ', F_X6_image σ = some (r, σ') ∧ F_X7_image τ = some (r, τ') ∧ Inv (k + 1) σ' τ' := by
  have hI := h
  obtain ⟨n, kd, f0, f1, s, nd, vs, dd, L, pg, K, m, r, a1, a2, a3, a4, a5, a6⟩ := h
  have hn := a1.1.1
  unfold F_X6_image F_X7_image
  rw [a1.2.1.1, a1.2.2.1.1]
  by_cases z : n = 0
  · subst z
    rw [if_pos (show nI 0 = 0 from rfl), if_pos (show nI 0 = 0 from rfl)]
    exact ⟨_, _, _, rfl, rfl, hI.step (Kp.refl _)⟩
  · rw [if_neg (nI_ne0 (by omega) (by omega)), if_neg (nI_ne0 (by omega) (by omega))]
    obtain ⟨σ1, c1, c2, c3, c4⟩ := copy1_ok (zst σ 0 10 1) (b := 23) (b2 := 3) (by omega)
    obtain ⟨σ2, d1, d2, d3, d4⟩ := copy3_ok σ1 (b := 27) (b2 := 19) (by omega)
    have e0 : (zst τ 0 46 1) 0 0 = nI r := a5.2.2.2.2.2
    have e7 : (zst (zst τ 0 46 1) 0 47 (nI r)) 0 7 = nI s := a2.2.1.1
    have l33 := im33 (τ := zst (zst (zst τ 0 46 1) 0 47 (nI r)) 0 48 (nI s)) 8 100 0 (τ 22) (τ 23) (by omega) (by omega)
    have es : r2 (zst (zst (zst τ 0 46 1) 0 47 (nI r)) 0 48 (nI s)) 22 23 (τ 22) (τ 23) = zst (zst (zst τ 0 46 1) 0 47 (nI r)) 0 48 (nI s) := r2_self (τ := zst (zst (zst τ 0 46 1) 0 47 (nI r)) 0 48 (nI s)) (p := 22) (q := 23)
    rw [es] at l33
    have l33' : L_X7_image_33 100 0 (zst (zst (zst τ 0 46 1) 0 47 (nI r)) 0 48 (nI s)) = some (nI 8, r2 (zst (zst (zst τ 0 46 1) 0 47 (nI r)) 0 48 (nI s)) 22 23 (rfrom (τ 1) (τ 22) 0 8) (rfrom (τ 2) (τ 23) 0 16)) := l33
    have l95 := im95 (τ := r2 (zst (zst (zst τ 0 46 1) 0 47 (nI r)) 0 48 (nI s)) 22 23 (rfrom (τ 1) (τ 22) 0 8) (rfrom (τ 2) (τ 23) 0 16)) 6 100 0 (τ 24) (τ 25) (τ 26) (by omega) (by omega)
    have es2 : s3 (r2 (zst (zst (zst τ 0 46 1) 0 47 (nI r)) 0 48 (nI s)) 22 23 (rfrom (τ 1) (τ 22) 0 8) (rfrom (τ 2) (τ 23) 0 16)) 24 25 26 (τ 24) (τ 25) (τ 26) = r2 (zst (zst (zst τ 0 46 1) 0 47 (nI r)) 0 48 (nI s)) 22 23 (rfrom (τ 1) (τ 22) 0 8) (rfrom (τ 2) (τ 23) 0 16) := s3_self (τ := r2 (zst (zst (zst τ 0 46 1) 0 47 (nI r)) 0 48 (nI s)) 22 23 (rfrom (τ 1) (τ 22) 0 8) (rfrom (τ 2) (τ 23) 0 16)) (p := 24) (q := 25) (s := 26)
    rw [es2] at l95
    have l95' : L_X7_image_95 100 0 (r2 (zst (zst (zst τ 0 46 1) 0 47 (nI r)) 0 48 (nI s)) 22 23 (rfrom (τ 1) (τ 22) 0 8) (rfrom (τ 2) (τ 23) 0 16)) = some (nI 6, s3 (r2 (zst (zst (zst τ 0 46 1) 0 47 (nI r)) 0 48 (nI s)) 22 23 (rfrom (τ 1) (τ 22) 0 8) (rfrom (τ 2) (τ 23) 0 16)) 24 25 26 (rfrom (τ 4) (τ 24) 0 6) (rfrom (τ 5) (τ 25) 0 6) (rfrom (τ 6) (τ 26) 0 6)) := l95
    have f3 : ∀ c, 1 ≤ c → c ≤ 22 → σ2 c = σ c := fun c x1 x2 => by
      rw [d4 c (by omega), c4 c (by omega)]
      unfold zst zsr; simp [show c ≠ 0 by omega]
    have f0' : ∀ j, j ≠ 10 → σ2 0 j = σ 0 j := fun j hj => by
      rw [d4 0 (by omega), c4 0 (by omega)]
      unfold zst zsr upd; simp [hj]
    have hJ23 : JIs σ2 23 n kd f0 f1 := JIs.eqv (σ := σ1) (JIs.copy (σ := zst σ 0 10 1) (b2 := 3) a1.2.1 hn c2 c3) (d4 _ (by omega)) (d4 _ (by omega)) (d4 _ (by omega)) (d4 _ (by omega))
    have ez : σ2 3 0 = nI n := by rw [f3 3 (by decide) (by decide)]; exact a1.2.1.1
    rw [zl_q, c1, zb_q, d1, zb_q, zl_q, e0, zl_q, e7, zl_q, l33', zb2_q, l95', zb2_q, ez]
    have en : (s3 (r2 (zst (zst (zst τ 0 46 1) 0 47 (nI r)) 0 48 (nI s)) 22 23 (rfrom (τ 1) (τ 22) 0 8) (rfrom (τ 2) (τ 23) 0 16)) 24 25 26 (rfrom (τ 4) (τ 24) 0 6) (rfrom (τ 5) (τ 25) 0 6) (rfrom (τ 6) (τ 26) 0 6)) 0 1 = nI n := a1.2.2.1.1
    rw [en]
    have hs6 := a2.2.2.1
    have g19 : ∀ c, 19 ≤ c → c ≤ 22 → σ1 c = σ c := fun c x1 x2 => by
      rw [c4 c (by omega)]
      unfold zst zsr; simp [show c ≠ 0 by omega]
    refine ⟨_, _, _, rfl, rfl, n, kd, f0, f1, s, nd, vs, dd, L, pg, K, m, r, ?_, ?_, ?_, ?_, ?_, ?_⟩
    · exact a1.fr (fun c x1 x2 => f3 c (by omega) (by omega)) rfl rfl rfl
    · exact a2.fr (fun c x1 x2 => f3 c (by omega) (by omega)) rfl (fun c x1 x2 => by rw [s3_o (by omega) (by omega) (by omega), r2_o (by omega) (by omega)]; unfold zst zsr; simp [show c ≠ 0 by omega])
    · exact a3.fr (by rw [f3 1 (by decide) (by decide)]) (f3 2 (by decide) (by decide)) rfl rfl
    · exact a4.fr (by rw [f3 16 (by decide) (by decide)]) (f3 17 (by decide) (by decide)) rfl rfl
    · exact a5.fr (by omega) (f0' 12 (by decide)) (f0' 11 (by decide)) rfl rfl
    · right
      refine ⟨by rw [d4 0 (by omega), c4 0 (by omega)]; rfl, rfl, rfl, by omega, ⟨kd, f0, f1, a1.1, hJ23, fun v hv => ?_⟩, s, nd, vs, dd, ⟨?_, fun i hi => ?_⟩, ⟨rfl, fun i hi => ?_⟩, a2.2.2⟩
      · show (rfrom (τ 1) (τ 22) 0 8) v = _ ∧ (rfrom (τ 2) (τ 23) 0 16) (2 * v) = _ ∧ (rfrom (τ 2) (τ 23) 0 16) (2 * v + 1) = _
        rw [rfrom_in (Nat.zero_le _) (by omega), rfrom_in (Nat.zero_le _) (by omega), rfrom_in (Nat.zero_le _) (by omega)]
        exact a1.2.2.1.2 v hv
      · rw [d2, g19 19 (by decide) (by decide)]; exact a2.1.1
      · obtain ⟨y1, y2, y3⟩ := d3 i (by omega)
        have y1' : σ2 28 i = σ 20 i := by rw [show σ2 28 i = σ1 (19 + 1) i from y1, g19 (19 + 1) (by decide) (by decide)]
        have y2' : σ2 29 i = σ 21 i := by rw [show σ2 29 i = σ1 (19 + 2) i from y2, g19 (19 + 2) (by decide) (by decide)]
        have y3' : σ2 30 i = σ 22 i := by rw [show σ2 30 i = σ1 (19 + 3) i from y3, g19 (19 + 3) (by decide) (by decide)]
        rw [y1', y2', y3']; exact a2.1.2 i hi
      · show (rfrom (τ 4) (τ 24) 0 6) i = _ ∧ (rfrom (τ 5) (τ 25) 0 6) i = _ ∧ (rfrom (τ 6) (τ 26) 0 6) i = _
        rw [rfrom_in (Nat.zero_le _) (by omega), rfrom_in (Nat.zero_le _) (by omega), rfrom_in (Nat.zero_le _) (by omega)]
        exact a2.2.1.2 i hi
end OP6
