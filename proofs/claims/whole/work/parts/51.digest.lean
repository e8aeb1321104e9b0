/-! DIGESTS -/
theorem zh_g (τ : SF) (w : Int64) : zgL (zsL τ 0 54 w) 0 54 = w := by
  show zLg (zLo w) (zHi w) = w
  exact zLg_of w
theorem zh_s (τ : SF) (w w' : Int64) : zsL (zsL τ 0 54 w) 0 54 w' = zsL τ 0 54 w' := by
  funext c; unfold zsL zsr; by_cases h : c = 0
  · subst h
    simp only [if_true]
    funext j
    unfold upd
    by_cases h1 : j = 54
    · subst h1; rfl
    · by_cases h2 : j = 154
      · subst h2; rfl
      · simp [h1, h2]
  · simp [h]
theorem mix_eq (τ : SF) (w x : Int64) : F_X7_mix (zsL τ 0 54 w) x = some (zsL τ 0 54 ((31 : Int64) * w + x)) := by
  unfold F_X7_mix
  rw [zh_g, zh_s, zl_q]
theorem nl_10 : (10 : Int32) = nI 10 := rfl
section DG
variable {σ τ : SF} {n : Nat} {kd f0 f1 : Nat → Nat} {s : Nat} {nd vs dd : Nat → Nat}
theorem dg16 (hw : gwf n kd f0 f1) (h0 : 0 < n) (hJ : JIs σ 3 n kd f0 f1) (hF : FlowIs σ 3 (mkG n kd f0 f1 0)) (hR : RIs τ n kd f0 f1) (l2 : LayIs τ n (mkG n kd f0 f1 0)) (hS1 : SIs (σ 19 0) (σ 20) (σ 21) (σ 22) s nd vs dd) (hS2 : SIs (τ 0 7) (τ 4) (τ 5) (τ 6) s nd vs dd) (hSo : SOk s nd vs dd) {v : Nat} (hv : v < n) : ∀ (m N c : Nat) (w : Int64), c + m = 10 → m < N → ∃ w', L_X6_digest_20 σ (nI v) N w (nI c) = some (w', nI 10) ∧ L_X7_mixGraph_16 (nI v) N (nI c) (zsL τ 0 54 w) = some (nI 10, zsL τ 0 54 w') := by
  intro m
  induction m with
  | zero =>
    intro N c w hc hN
    obtain ⟨N, rfl⟩ : ∃ K, N = K + 1 := ⟨N - 1, by omega⟩
    have : c = 10 := by omega
    subst this
    refine ⟨w, ?_, ?_⟩
    · unfold L_X6_digest_20; rw [if_pos (by decide)]
    · unfold L_X7_mixGraph_16; rw [if_pos (by decide)]
  | succ m ih =>
    intro N c w hc hN
    obtain ⟨N, rfl⟩ : ∃ K, N = K + 1 := ⟨N - 1, by omega⟩
    obtain ⟨r, e1, e2⟩ := nodeNow_eq (τ' := zsL τ 0 54 w) hw h0 hJ hF hR l2 hS1 hS2 hSo hv (show c ≤ 9 by omega)
    obtain ⟨w', i1, i2⟩ := ih N (c + 1) ((31 : Int64) * w + r.toInt64) (by omega) (by omega)
    refine ⟨w', ?_, ?_⟩
    · unfold L_X6_digest_20
      rw [if_neg (by rw [nl_10]; exact nI_ge (by omega) (by decide)), e1, zb_q, zl_q, zl_q, nI_1]; exact i1
    · unfold L_X7_mixGraph_16
      rw [if_neg (by rw [nl_10]; exact nI_ge (by omega) (by decide)), e2, zb_q, mix_eq, zb_q, zl_q, nI_1]; exact i2
theorem c_edge (hJ : JIs σ 3 n kd f0 f1) (hn : n ≤ 8) (hF : FlowIs σ 3 (mkG n kd f0 f1 0)) {v c : Nat} (hv : v < n) (hc : c < 2) : F_X6_edge σ (nI v) (nI c) = some (sv (mkG n kd f0 f1 0) (2 * v + c)) := by
  have he : F_X6_isEnd (nI c) = some 1 := by
    rcases (show c = 0 ∨ c = 1 by omega) with rfl | rfl <;> rfl
  unfold F_X6_edge
  rw [has1 hJ hn hv, zb_q, if_neg i10, he, zb_q, if_neg i10, q_state hJ hn hF hv hc, zb_q]
theorem dg6 (hw : gwf n kd f0 f1) (h0 : 0 < n) (hJ : JIs σ 3 n kd f0 f1) (hF : FlowIs σ 3 (mkG n kd f0 f1 0)) (hR : RIs τ n kd f0 f1) (l2 : LayIs τ n (mkG n kd f0 f1 0)) (l3 : MIs (τ 0) (τ 10) (τ 11) n kd f0 f1 0) (hS1 : SIs (σ 19 0) (σ 20) (σ 21) (σ 22) s nd vs dd) (hS2 : SIs (τ 0 7) (τ 4) (τ 5) (τ 6) s nd vs dd) (hSo : SOk s nd vs dd) : ∀ (m N v : Nat) (w : Int64), v + m = n → m < N → ∃ w', L_X6_digest_6 σ N w (nI v) = some (w', nI n) ∧ L_X7_mixGraph_6 N (nI v) (zsL τ 0 54 w) = some (nI n, zsL τ 0 54 w') := by
  have hn := hw.1
  intro m
  induction m with
  | zero =>
    intro N v w hc hN
    obtain ⟨N, rfl⟩ : ∃ K, N = K + 1 := ⟨N - 1, by omega⟩
    have : v = n := by omega
    subst this
    have e1 : (zsL τ 0 54 w) 0 1 = nI v := hR.1
    refine ⟨w, ?_, ?_⟩
    · unfold L_X6_digest_6; rw [hJ.1, if_pos (nI_le (Nat.le_refl _) (by omega))]
    · unfold L_X7_mixGraph_6; rw [e1, if_pos (nI_le (Nat.le_refl _) (by omega))]
  | succ m ih =>
    intro N v w hc hN
    obtain ⟨N, rfl⟩ : ∃ K, N = K + 1 := ⟨N - 1, by omega⟩
    have hv : v < n := by omega
    obtain ⟨w1, a1, a2⟩ := dg16 hw h0 hJ hF hR l2 hS1 hS2 hSo hv 10 100 0 w (by omega) (by omega)
    have a1' : L_X6_digest_20 σ (nI v) 100 w 0 = some (w1, nI 10) := a1
    have a2' : L_X7_mixGraph_16 (nI v) 100 0 (zsL τ 0 54 w) = some (nI 10, zsL τ 0 54 w1) := a2
    have c0 : F_X6_edge σ (nI v) 0 = some (sv (mkG n kd f0 f1 0) (2 * v)) := c_edge hJ hn hF hv (c := 0) (by decide)
    have c1 : F_X6_edge σ (nI v) 1 = some (sv (mkG n kd f0 f1 0) (2 * v + 1)) := c_edge hJ hn hF hv (c := 1) (by decide)
    have m0 : ∀ w, F_X7_edgeNow (zsL τ 0 54 w) (nI (2 * v)) = some (sv (mkG n kd f0 f1 0) (2 * v)) := fun w => m_edge (τ := zsL τ 0 54 w) hw l2 l3 (by omega)
    have m1 : ∀ w, F_X7_edgeNow (zsL τ 0 54 w) (nI (2 * v + 1)) = some (sv (mkG n kd f0 f1 0) (2 * v + 1)) := fun w => m_edge (τ := zsL τ 0 54 w) hw l2 l3 (by omega)
    have e1 : (zsL τ 0 54 w) 0 1 = nI n := hR.1
    obtain ⟨w', i1, i2⟩ := ih N (v + 1) _ (by omega) (by omega)
    refine ⟨w', ?_, ?_⟩
    rotate_left
    · unfold L_X7_mixGraph_6
      rw [e1, if_neg (nI_ge hv (by omega)), a2', zb2_q, nI_2k, m0, zb_q, mix_eq, zb_q, nI_1, m1, zb_q, mix_eq, zb_q, zl_q, nI_1]
      exact i2
    · unfold L_X6_digest_6
      rw [hJ.1, if_neg (nI_ge hv (by omega)), a1', zb2_q, c0, zb_q, zl_q, c1, zb_q, zl_q, zl_q, nI_1]
      exact i1
theorem dg77 (hw : gwf n kd f0 f1) (h0 : 0 < n) (hJ : JIs σ 3 n kd f0 f1) (hF : FlowIs σ 3 (mkG n kd f0 f1 0)) (hS : SGs σ (FT (mkG n kd f0 f1 0) kd)) (hf : ∀ c w, c < 4 → F_X7_foldNow (zsL τ 0 54 w) (nI c) = F_X6_fold σ (nI c)) : ∀ (m N c : Nat) (w : Int64), c + m = 4 → m < N → ∃ w', L_X6_digest_94 σ N w (nI c) = some (w', nI 4) ∧ L_X7_mixGraph_77 N (nI c) (zsL τ 0 54 w) = some (nI 4, zsL τ 0 54 w') := by
  intro m
  induction m with
  | zero =>
    intro N c w hc hN
    obtain ⟨N, rfl⟩ : ∃ K, N = K + 1 := ⟨N - 1, by omega⟩
    have : c = 4 := by omega
    subst this
    refine ⟨w, ?_, ?_⟩
    · unfold L_X6_digest_94; rw [if_pos (by decide)]
    · unfold L_X7_mixGraph_77; rw [if_pos (by decide)]
  | succ m ih =>
    intro N c w hc hN
    obtain ⟨N, rfl⟩ : ∃ K, N = K + 1 := ⟨N - 1, by omega⟩
    have e1 := c_fold hw h0 hJ hF hS (show c < 4 by omega)
    have e2 := (hf c w (by omega)).trans e1
    obtain ⟨w', i1, i2⟩ := ih N (c + 1) _ (by omega) (by omega)
    refine ⟨w', ?_, ?_⟩
    · unfold L_X6_digest_94
      rw [if_neg (show ¬ (4 : Int32) ≤ nI c from nI_ge (b := 4) (by omega) (by decide)), e1, zb_q, zl_q, zl_q, nI_1]; exact i1
    · unfold L_X7_mixGraph_77
      rw [if_neg (show ¬ (4 : Int32) ≤ nI c from nI_ge (b := 4) (by omega) (by decide)), e2, zb_q, mix_eq, zb_q, zl_q, nI_1]; exact i2
/-- rows that are joined -/
def jo (x : Nat → Int32) : Nat → Nat → Int64 → Int64
  | 0, _, w => w
  | m + 1, i, w => jo x m (i + 1) ((31 : Int64) * w + (x i).toInt64)
theorem jn_c {q nn M : Nat} (hM : M ≤ nn) (hnn : nn < 100) (x : Nat → Int32) (hx : ∀ i, i < M → σ q i = x i) : ∀ (m N i : Nat) (w : Int64), i + m = M → m < N → L_X6_joined_6 σ q nn (nI M) N w (nI i) = some (jo x m i w, nI M) := by
  intro m
  induction m with
  | zero =>
    intro N i w hi hN
    obtain ⟨N, rfl⟩ : ∃ K, N = K + 1 := ⟨N - 1, by omega⟩
    have : i = M := by omega
    subst this
    unfold L_X6_joined_6
    rw [if_pos (nI_le (Nat.le_refl _) (by omega))]
    rfl
  | succ m ih =>
    intro N i w hi hN
    obtain ⟨N, rfl⟩ : ∃ K, N = K + 1 := ⟨N - 1, by omega⟩
    unfold L_X6_joined_6
    rw [if_neg (nI_ge (by omega) (by omega)), if_neg (nI_ge (by omega) (by omega)), zg_q (nq_zin1 (show i < nn by omega) (by omega)), zl_q, zl_q, nI_clamp (by omega), hx i (by omega), nI_1, ih N (i + 1) _ (by omega) (by omega)]
    rfl
theorem F_joined_eq {q nn M : Nat} (hM : M ≤ nn) (hnn : nn < 100) (x : Nat → Int32) (hx : ∀ i, i < M → σ q i = x i) (w : Int64) : F_X6_joined σ q nn w (nI M) = some (jo x M 0 w) := by
  have e := jn_c hM hnn x hx M 100 0 w (by omega) (by omega)
  have e' : L_X6_joined_6 σ q nn (nI M) 100 w 0 = _ := e
  unfold F_X6_joined
  rw [e', zb2_q]
theorem jn_100 {M : Nat} (hM : M ≤ 72) (h36 : τ 0 36 = nI M) (x : Nat → Int32) (hx : ∀ i, i < M → τ 19 i = x i) : ∀ (m N i : Nat) (w : Int64), i + m = M → m < N → L_X7_mixGraph_100 N (nI i) (zsL τ 0 54 w) = some (nI M, zsL τ 0 54 (jo x m i w)) := by
  intro m
  induction m with
  | zero =>
    intro N i w hi hN
    obtain ⟨N, rfl⟩ : ∃ K, N = K + 1 := ⟨N - 1, by omega⟩
    have : i = M := by omega
    subst this
    have e : (zsL τ 0 54 w) 0 36 = nI i := h36
    unfold L_X7_mixGraph_100
    rw [e, if_pos (nI_le (Nat.le_refl _) (by omega))]
    rfl
  | succ m ih =>
    intro N i w hi hN
    obtain ⟨N, rfl⟩ : ∃ K, N = K + 1 := ⟨N - 1, by omega⟩
    have e : (zsL τ 0 54 w) 0 36 = nI M := h36
    have e2 : (zsL τ 0 54 w) 19 i = x i := hx i (by omega)
    unfold L_X7_mixGraph_100
    rw [e, if_neg (nI_ge (by omega) (by omega)), zg_q (nq_zin1 (show i < 128 by omega) (by decide)), nI_clamp (by omega), e2, mix_eq, zb_q, zl_q, nI_1, ih N (i + 1) _ (by omega) (by omega)]
    rfl
theorem jn_20 {M : Nat} (hM : M ≤ 30) (h4 : τ 0 4 = nI M) (x : Nat → Int32) (hx : ∀ i, i < M → τ 3 i = x i) : ∀ (m N i : Nat) (w : Int64), i + m = M → m < N → L_X7_digest_20 N (nI i) (zsL τ 0 54 w) = some (nI M, zsL τ 0 54 (jo x m i w)) := by
  intro m
  induction m with
  | zero =>
    intro N i w hi hN
    obtain ⟨N, rfl⟩ : ∃ K, N = K + 1 := ⟨N - 1, by omega⟩
    have : i = M := by omega
    subst this
    have e : (zsL τ 0 54 w) 0 4 = nI i := h4
    unfold L_X7_digest_20
    rw [e, if_pos (nI_le (Nat.le_refl _) (by omega))]
    rfl
  | succ m ih =>
    intro N i w hi hN
    obtain ⟨N, rfl⟩ : ∃ K, N = K + 1 := ⟨N - 1, by omega⟩
    have e : (zsL τ 0 54 w) 0 4 = nI M := h4
    have e2 : (zsL τ 0 54 w) 3 i = x i := hx i (by omega)
    unfold L_X7_digest_20
    rw [e, if_neg (nI_ge (by omega) (by omega)), zg_q (nq_zin1 (show i < 30 by omega) (by decide)), nI_clamp (by omega), e2, mix_eq, zb_q, zl_q, nI_1, ih N (i + 1) _ (by omega) (by omega)]
    rfl
theorem jn_47 {M : Nat} (hM : M ≤ 34) (h11 : τ 0 11 = nI M) (x : Nat → Int32) (hx : ∀ i, i < M → τ 7 i = x i) : ∀ (m N i : Nat) (w : Int64), i + m = M → m < N → L_X7_digest_47 N (nI i) (zsL τ 0 54 w) = some (nI M, zsL τ 0 54 (jo x m i w)) := by
  intro m
  induction m with
  | zero =>
    intro N i w hi hN
    obtain ⟨N, rfl⟩ : ∃ K, N = K + 1 := ⟨N - 1, by omega⟩
    have : i = M := by omega
    subst this
    have e : (zsL τ 0 54 w) 0 11 = nI i := h11
    unfold L_X7_digest_47
    rw [e, if_pos (nI_le (Nat.le_refl _) (by omega))]
    rfl
  | succ m ih =>
    intro N i w hi hN
    obtain ⟨N, rfl⟩ : ∃ K, N = K + 1 := ⟨N - 1, by omega⟩
    have e : (zsL τ 0 54 w) 0 11 = nI M := h11
    have e2 : (zsL τ 0 54 w) 7 i = x i := hx i (by omega)
    unfold L_X7_digest_47
    rw [e, if_neg (nI_ge (by omega) (by omega)), zg_q (nq_zin1 (show i < 34 by omega) (by decide)), nI_clamp (by omega), e2, mix_eq, zb_q, zl_q, nI_1, ih N (i + 1) _ (by omega) (by omega)]
    rfl
/-- only the sum is changed -/
theorem Inv.h {k : Nat} (h : Inv k σ τ) (w : Int64) : Inv k σ (zsL τ 0 54 w) := by
  obtain ⟨n, kd, f0, f1, s, nd, vs, dd, L, pg, K, m, r, a1, a2, a3, a4, a5, a6⟩ := h
  exact ⟨n, kd, f0, f1, s, nd, vs, dd, L, pg, K, m, r, a1.fr (fun _ _ _ => rfl) rfl rfl rfl, a2.fr (fun _ _ _ => rfl) rfl (fun c x1 x2 => by unfold zsL zsr; simp [show c ≠ 0 by omega]), a3.fr rfl rfl rfl rfl, a4.fr rfl rfl rfl rfl, a5.fr (Nat.le_refl _) rfl rfl rfl rfl, a6.fr rfl (fun _ _ _ => rfl) rfl rfl rfl (fun c x1 x2 => by unfold zsL zsr; simp [show c ≠ 0 by omega])⟩
/-- a memory whose sum is w -/
theorem h_self {w : Int64} (h1 : τ 0 54 = zLo w) (h2 : τ 0 154 = zHi w) : zsL τ 0 54 w = τ := by
  funext c; unfold zsL zsr; by_cases h : c = 0
  · subst h
    simp only [if_true]
    rw [fa_upd_same h1]
    exact fa_upd_same h2
  · simp [h]
theorem dg74 {k : Nat} : ∀ (m N c : Nat) (w : Int64) (τ : SF), Inv k σ τ → c + m = 12 → m < N → ∃ w' τ', L_X6_digest_177 σ N w (nI c) = some (w', nI 12) ∧ L_X7_digest_74 N (nI c) (zsL τ 0 54 w) = some (nI 12, zsL τ' 0 54 w') ∧ Inv k σ τ' := by
  intro m
  induction m with
  | zero =>
    intro N c w τ hI hc hN
    obtain ⟨N, rfl⟩ : ∃ K, N = K + 1 := ⟨N - 1, by omega⟩
    have : c = 12 := by omega
    subst this
    refine ⟨w, τ, ?_, ?_, hI⟩
    · unfold L_X6_digest_177; rw [if_pos (by decide)]
    · unfold L_X7_digest_74; rw [if_pos (by decide)]
  | succ m ih =>
    intro N c w τ hI hc hN
    obtain ⟨N, rfl⟩ : ∃ K, N = K + 1 := ⟨N - 1, by omega⟩
    obtain ⟨r, τ1, e1, e2, e3, -⟩ := count_any (hI.h w) (nI c)
    have hs : zsL τ1 0 54 w = τ1 := h_self ((e3.2 54 (by omega)).trans rfl) ((e3.2 154 (by omega)).trans rfl)
    have hI1 : Inv k σ τ1 := (hI.h w).fr (Nat.le_refl _) (fun _ _ => rfl) e3
    obtain ⟨w', τ', i1, i2, i3⟩ := ih N (c + 1) ((31 : Int64) * w + r.toInt64) τ1 hI1 (by omega) (by omega)
    refine ⟨w', τ', ?_, ?_, i3⟩
    · unfold L_X6_digest_177
      rw [if_neg (show ¬ (12 : Int32) ≤ nI c from nI_ge (b := 12) (by omega) (by decide)), e1, zb_q, zl_q, zl_q, nI_1]; exact i1
    · unfold L_X7_digest_74
      rw [if_neg (show ¬ (12 : Int32) ≤ nI c from nI_ge (b := 12) (by omega) (by decide)), e2, zb2_q, ← hs, mix_eq, zb_q, zl_q, nI_1]; exact i2
end DG
