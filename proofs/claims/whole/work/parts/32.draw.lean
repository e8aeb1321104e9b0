/-! counting bits -/
theorem bc_8 : ∀ a, a < 256 → F_J6_bitCount_0f7a4 (nI a) = some (nI (pc a)) := by decide +kernel
theorem bc_3 : ∀ c, c < 16 → ∀ b, b < c + 1 → ∀ a, a < b + 1 → F_J6_bitCount_0f7a4 (nI ((2 ^ a ||| 2 ^ b) ||| 2 ^ c)) = some (nI (pc ((2 ^ a ||| 2 ^ b) ||| 2 ^ c))) := by decide +kernel
theorem top_ex : ∀ (k T : Nat), T < 2 ^ k → T ≠ 0 → ∃ c T0, c < k ∧ T0 < 2 ^ c ∧ T = T0 ||| 2 ^ c := by
  intro k
  induction k with
  | zero => intro T h1 h2; omega
  | succ k ih =>
    intro T h1 h2
    cases hb : T.testBit k with
    | true =>
      obtain ⟨T0, g1, g2⟩ := top_split h1 hb
      exact ⟨k, T0, by omega, g1, g2⟩
    | false =>
      obtain ⟨c, T0, g1, g2, g3⟩ := ih T (lt_of_tb h1 hb) h2
      exact ⟨c, T0, by omega, g2, g3⟩
theorem pc_0 : pc 0 = 0 := by decide +kernel
theorem bc_pc {T : Nat} (hT : T < 2 ^ 16) (hp : pc T ≤ 3) : F_J6_bitCount_0f7a4 (nI T) = some (nI (pc T)) := by
  by_cases z : T = 0
  · subst z; exact bc_8 0 (by decide)
  obtain ⟨c, T0, c1, c2, rfl⟩ := top_ex 16 T hT z
  rw [pc_top c1 c2] at hp
  by_cases z0 : T0 = 0
  · subst z0
    have := bc_3 c c1 c (by omega) c (by omega)
    rw [Nat.or_self, Nat.or_self] at this
    rw [Nat.zero_or]; exact this
  obtain ⟨b, T1, b1, b2, rfl⟩ := top_ex c T0 c2 z0
  rw [pc_top (by omega) b2] at hp
  by_cases z1 : T1 = 0
  · subst z1
    have := bc_3 c c1 b (by omega) b (by omega)
    rw [Nat.or_self] at this
    rw [Nat.zero_or]; exact this
  obtain ⟨a, T2, a1, a2, rfl⟩ := top_ex b T1 b2 z1
  rw [pc_top (by omega) a2] at hp
  have ht2 : T2 < 2 ^ 16 := Nat.lt_of_lt_of_le a2 (Nat.pow_le_pow_right (by decide) (by omega))
  have : T2 = 0 := (pc_sub_eq (A := 0) (B := T2) (by decide) ht2 (fun i hi => by simp at hi) (by rw [pc_0]; omega)).symm
  subst this
  rw [Nat.zero_or]
  exact bc_3 c c1 b (by omega) a (by omega)
/-! DRAWN GRAPHS -/
def sd (k : Nat) : Nat := (1103515245 * k + 12345) % 2 ^ 31
def dr (k : Nat) : Nat := k / 65536 % 5
theorem sd_lt (k : Nat) : sd k < 2 ^ 31 := Nat.mod_lt _ (by decide)
theorem dr_lt (k : Nat) : dr k < 5 := Nat.mod_lt _ (by decide)
theorem sdL (k : Nat) : (((1103515245 : Int64) * lN k) + 12345) &&& 2147483647 = lN (sd k) := by
  have e1 : (1103515245 : Int64) * lN k = lN (1103515245 * k) := lN_mul 1103515245 k
  have e2 : lN (1103515245 * k) + 12345 = lN (1103515245 * k + 12345) := lN_add _ 12345
  rw [e1, e2]
  exact fb_maskL _ 31
theorem next_eq {k : Nat} (h : k < 2 ^ 31) : F_X6_nextSeed (nI k) = some (nI (sd k)) := by
  unfold F_X6_nextSeed
  rw [nI_l h, sdL, lN_i]
theorem draw_eq {k : Nat} (h : k < 2 ^ 31) : F_X6_drawBy (nI k) 5 = some (nI (dr k)) := by
  have e1 : ((nI k).toUInt32 >>> ((16 : Int32).toUInt32 &&& Int32.toUInt32 31)).toInt32 = nI (k / 65536) := pk_ushrN (by omega) 16 16 (by decide)
  have e2 : nI (k / 65536) - nI (k / 65536) / 5 * 5 = nI (k / 65536 % 5) := pk_rem (d := 5) (by omega) (by decide) (by decide)
  have e3 : znz 5 = true := by decide
  unfold F_X6_drawBy
  rw [if_neg (by decide), zg_q e3, e1, e2]
  rfl
/-- rows of a drawn graph, in the class -/
def r3 (σ : SF) (K A B : Nat → Int32) : SF := fun c => if c = 32 then K else if c = 33 then A else if c = 34 then B else σ c
def mr (τ : SF) (s : Int64) (a t : Nat → Int32) : SF := fun c => if c = 0 then upd (upd (τ 0) 45 (zLo s)) 145 (zHi s) else if c = 10 then a else if c = 11 then t else τ c
section DR
variable {σ τ : SF} {K A B a t : Nat → Int32} {s s' : Int64} {i : Nat} {v : Int32}
theorem r3_s32 : zst (r3 σ K A B) (31 + 1) i v = r3 σ (upd K i v) A B := by
  funext c; unfold zst zsr r3; by_cases h : c = 32
  · subst h; rfl
  · simp [h]
theorem r3_s33 : zst (r3 σ K A B) (31 + 2) i v = r3 σ K (upd A i v) B := by
  funext c; unfold zst zsr r3; by_cases h : c = 33
  · subst h; rfl
  · simp [h]
theorem r3_s34 : zst (r3 σ K A B) (31 + 3) i v = r3 σ K A (upd B i v) := by
  funext c; unfold zst zsr r3; by_cases h : c = 34
  · subst h; rfl
  · simp [h]
theorem r3_self : r3 σ (σ 32) (σ 33) (σ 34) = σ := by
  funext c; unfold r3
  by_cases h : c = 32
  · subst h; rfl
  · by_cases h2 : c = 33
    · subst h2; rfl
    · by_cases h3 : c = 34
      · subst h3; rfl
      · simp [h, h2, h3]
theorem mr_s10 : zst (mr τ s a t) 10 i v = mr τ s (upd a i v) t := by
  funext c; unfold zst zsr mr; by_cases h : c = 10
  · subst h; rfl
  · simp [h]
theorem mr_s11 : zst (mr τ s a t) 11 i v = mr τ s a (upd t i v) := by
  funext c; unfold zst zsr mr; by_cases h : c = 11
  · subst h; rfl
  · simp [h]
theorem mr_L : zgL (mr τ s a t) 0 45 = s := by
  show zLg (zLo s) (zHi s) = s
  exact zLg_of s
theorem mr_sL : zsL (mr τ s a t) 0 45 s' = mr τ s' a t := by
  funext c; unfold zsL zsr mr; by_cases h : c = 0
  · subst h
    simp only [if_true]
    funext j
    unfold upd
    by_cases h1 : j = 45
    · subst h1; rfl
    · by_cases h2 : j = 145
      · subst h2; rfl
      · simp [h1, h2]
  · simp [h]
theorem mr_mk : mr τ s (τ 10) (τ 11) = zsL τ 0 45 s := by
  funext c; unfold zsL zsr mr; by_cases h : c = 0
  · subst h; rfl
  · by_cases h1 : c = 10
    · subst h1; rfl
    · by_cases h2 : c = 11
      · subst h2; rfl
      · simp [h, h1, h2]
theorem mdraw {k : Nat} (h : k < 2 ^ 31) : F_X7_draw (mr τ (lN k) a t) 5 = some (nI (dr (sd k)), mr τ (lN (sd k)) a t) := by
  have hs := sd_lt k
  have e3 : znzL ((5 : Int32).toInt64) = true := by decide
  have e5 : ((5 : Int32).toInt64) = lN 5 := rfl
  have e4 : lN (sd k) / 65536 = lN (sd k / 65536) := pk_lDiv (b := 65536) (by omega) (by decide) (by decide)
  have e6 := pk_lRem (a := sd k / 65536) (b := 5) (by omega) (by decide) (by decide)
  unfold F_X7_draw
  rw [zl_q, zg_q e3, mr_L, sdL, mr_sL, mr_L, e4, e5, e6, lN_i]
  rfl
/-- both draw the same nodes -/
theorem dd_loop {y1 y3 y4 y5 y6 : Int32} : ∀ (m N v k : Nat) (K A B a t : Nat → Int32), v + m = 5 → m < N → k < 2 ^ 31 → Rl v 4 (nI 4) K A B a t → ∃ k' K' A' B' a' t', k' < 2 ^ 31 ∧ L_X6_drawDraft_12 N (nI k) (nI v) (r3 σ K A B) = some (nI k', nI 5, r3 σ K' A' B') ∧ L_X7_drawnNow_34 y1 y3 y4 y5 y6 N (nI v) (mr τ (lN k) a t) = some (nI 5, mr τ (lN k') a' t') ∧ Rl 5 4 (nI 4) K' A' B' a' t' := by
  intro m
  induction m with
  | zero =>
    intro N v k K A B a t hv hN hk hR
    obtain ⟨N, rfl⟩ : ∃ K, N = K + 1 := ⟨N - 1, by omega⟩
    have : v = 5 := by omega
    subst this
    refine ⟨k, K, A, B, a, t, hk, ?_, ?_, hR⟩
    · unfold L_X6_drawDraft_12; rw [if_pos (by decide)]
    · unfold L_X7_drawnNow_34; rw [if_pos (by decide)]
  | succ m ih =>
    intro N v k K A B a t hv hN hk hR
    obtain ⟨N, rfl⟩ : ∃ K, N = K + 1 := ⟨N - 1, by omega⟩
    have hz := nq_zin1 (show v < 8 by omega) (by decide)
    have h16 := nq_zin1 (show 2 * v < 16 by omega) (by decide)
    have h17 := nq_zin1 (show 2 * v + 1 < 16 by omega) (by decide)
    have s1 := sd_lt k
    have s2 := sd_lt (sd k)
    have s3 := sd_lt (sd (sd k))
    have d1 := dr_lt (sd k)
    have d2 := dr_lt (sd (sd k))
    have d3 := dr_lt (sd (sd (sd k)))
    obtain ⟨k', K', A', B', a', t', i0, i1, i2, i3⟩ := ih N (v + 1) (sd (sd (sd k))) (upd K v (nI (dr (sd k)))) (upd A v (nI (dr (sd (sd k))))) (upd B v (nI (dr (sd (sd (sd k)))))) (upd a v (nI (dr (sd k)))) (upd (upd t (2 * v) (nI (dr (sd (sd k))))) (2 * v + 1) (nI (dr (sd (sd (sd k)))))) (by omega) (by omega) s3 (by
      refine ⟨Or.inl rfl, by omega, fun w hw => ?_⟩
      by_cases q : w = v
      · subst q
        refine ⟨dr (sd k), dr (sd (sd k)), dr (sd (sd (sd k))), d1, by omega, by omega, by simp [upd], by simp [upd], by simp [upd], ?_, by simp [upd], by simp [upd]⟩
        unfold upd; rw [if_neg (by omega), if_pos rfl]
      · obtain ⟨x, y', z, h1, h2, h3, h4, h5, h6, h7, h8, h9⟩ := hR.2.2 w (by omega)
        refine ⟨x, y', z, h1, h2, h3, by simpa [upd, q] using h4, by simpa [upd, q] using h5, by simpa [upd, q] using h6, ?_, by simpa [upd, q] using h8, ?_⟩
        · unfold upd; rw [if_neg (by omega), if_neg (by omega)]; exact h7
        · unfold upd; rw [if_neg (by omega), if_neg (by omega)]; exact h9)
    refine ⟨k', K', A', B', a', t', i0, ?_, ?_, i3⟩
    · unfold L_X6_drawDraft_12
      rw [if_neg (show ¬ (5 : Int32) ≤ nI v from nI_ge (b := 5) (by omega) (by decide)), next_eq hk, zb_q, draw_eq s1, zb_q, zg_q hz, zl_q, nI_clamp (by omega), r3_s32, next_eq s1, zb_q, draw_eq s2, zb_q, zg_q hz, zl_q, r3_s33, next_eq s2, zb_q, draw_eq s3, zb_q, zg_q hz, zl_q, r3_s34, zl_q, nI_1]
      exact i1
    · unfold L_X7_drawnNow_34
      rw [if_neg (show ¬ (5 : Int32) ≤ nI v from nI_ge (b := 5) (by omega) (by decide)), mdraw hk, zb2_q, zg_q hz, zl_q, nI_clamp (by omega), mr_s10, mdraw s1, zb2_q, nI_2k, zg_q h16, zl_q, nI_clamp (by omega), mr_s11, mdraw s2, zb2_q, nI_1, zg_q h17, zl_q, nI_clamp (by omega), mr_s11, zl_q, nI_1]
      exact i2
end DR
