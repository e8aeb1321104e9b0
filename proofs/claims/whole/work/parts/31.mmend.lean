/-! copies -/
theorem copy1_ok (σ : SF) {b b2 : Nat} (h : b + 4 ≤ b2 ∨ b2 + 4 ≤ b) : ∃ σ', F_X1_copyFrom σ b b2 = some σ' ∧ σ' b 0 = σ b2 0 ∧ (∀ i, i < 8 → σ' (b + 1) i = σ (b2 + 1) i ∧ σ' (b + 2) i = σ (b2 + 2) i ∧ σ' (b + 3) i = σ (b2 + 3) i) ∧ ∀ c, (c < b ∨ b + 3 < c) → σ' c = σ c := by
  refine ⟨_, by unfold F_X1_copyFrom; rw [zl_q, zl_q, zl_q, zl_q], ?_, fun i hi => ?_, fun c hc => ?_⟩
  · simp [zst, zsr, upd]
  · have hcl : (8 : Int32).toNatClampNeg = 8 := rfl
    refine ⟨?_, ?_, ?_⟩ <;>
    · simp only [zst, zsr, hcl]
      simp [show b2 + 1 ≠ b by omega, show b2 + 2 ≠ b by omega, show b2 + 3 ≠ b by omega, show b2 + 1 ≠ b + 1 by omega, show b2 + 2 ≠ b + 1 by omega, show b2 + 3 ≠ b + 1 by omega, show b2 + 2 ≠ b + 2 by omega, show b2 + 3 ≠ b + 2 by omega, pk_cpy_in (sp := 0) (Nat.zero_le i) (show i < 0 + 8 by omega)]
  · simp [zst, zsr, show c ≠ b by omega, show c ≠ b + 1 by omega, show c ≠ b + 2 by omega, show c ≠ b + 3 by omega]
theorem copy3_ok (σ : SF) {b b2 : Nat} (h : b + 4 ≤ b2 ∨ b2 + 4 ≤ b) : ∃ σ', F_X3_copyFrom σ b b2 = some σ' ∧ σ' b 0 = σ b2 0 ∧ (∀ i, i < 6 → σ' (b + 1) i = σ (b2 + 1) i ∧ σ' (b + 2) i = σ (b2 + 2) i ∧ σ' (b + 3) i = σ (b2 + 3) i) ∧ ∀ c, (c < b ∨ b + 3 < c) → σ' c = σ c := by
  refine ⟨_, by unfold F_X3_copyFrom; rw [zl_q, zl_q, zl_q, zl_q], ?_, fun i hi => ?_, fun c hc => ?_⟩
  · simp [zst, zsr, upd]
  · have hcl : (6 : Int32).toNatClampNeg = 6 := rfl
    refine ⟨?_, ?_, ?_⟩ <;>
    · simp only [zst, zsr, hcl]
      simp [show b2 + 1 ≠ b by omega, show b2 + 2 ≠ b by omega, show b2 + 3 ≠ b by omega, show b2 + 1 ≠ b + 1 by omega, show b2 + 2 ≠ b + 1 by omega, show b2 + 3 ≠ b + 1 by omega, show b2 + 2 ≠ b + 2 by omega, show b2 + 3 ≠ b + 2 by omega, pk_cpy_in (sp := 0) (Nat.zero_le i) (show i < 0 + 6 by omega)]
  · simp [zst, zsr, show c ≠ b by omega, show c ≠ b + 1 by omega, show c ≠ b + 2 by omega, show c ≠ b + 3 by omega]
theorem JIs.copy {σ σ' : SF} {b b2 n : Nat} {kd f0 f1 : Nat → Nat} (h : JIs σ b2 n kd f0 f1) (hn : n ≤ 8) (e0 : σ' b 0 = σ b2 0) (e1 : ∀ i, i < 8 → σ' (b + 1) i = σ (b2 + 1) i ∧ σ' (b + 2) i = σ (b2 + 2) i ∧ σ' (b + 3) i = σ (b2 + 3) i) : JIs σ' b n kd f0 f1 := by
  refine ⟨e0.trans h.1, fun v hv => ?_⟩
  obtain ⟨a1, a2, a3⟩ := e1 v (by omega)
  rw [a1, a2, a3]
  exact h.2 v hv
section FW
variable {n : Nat} {kd f0 f1 : Nat → Nat}
theorem fw_loop (hw : gwf n kd f0 f1) (h0 : 0 < n) : ∀ (m M k : Nat) (σ : SF), k + m = 4 → m < M → CB σ n kd f0 f1 → (∀ T, sub T (lmk (mkG n kd f0 f1 0) 16) → pc T < k → ¬ Fbd n kd f0 f1 T) → ∃ r z σ', L_X6_fewestLeftOut_15 M (-1) (nI k) σ = some (r, z, σ') ∧ trK σ σ' ∧ MB (lmk (mkG n kd f0 f1 0) 16) (Fbd n kd f0 f1) r := by
  intro m
  induction m with
  | zero =>
    intro M k σ hm hM hB hno
    obtain ⟨M, rfl⟩ : ∃ K, M = K + 1 := ⟨M - 1, by omega⟩
    refine ⟨-1, nI k, σ, ?_, trK.refl _, Or.inr ⟨rfl, fun T hs hp => hno T hs (by omega)⟩⟩
    unfold L_X6_fewestLeftOut_15
    rw [if_pos (show (3 : Int32) < nI k from nI_lt (a := 3) (by omega) (by omega))]
  | succ m ih =>
    intro M k σ hm hM hB hno
    obtain ⟨M, rfl⟩ : ∃ K, M = K + 1 := ⟨M - 1, by omega⟩
    obtain ⟨r, σ', h1, h2, h3⟩ := lo_all hw h0 k 5 16 0 σ (by omega) (by omega) (by omega) (by decide) hB
    have h1' : F_X6_leastLeftOut 5 σ (nI k) 16 0 = some (r, σ') := h1
    have hlm := lmk_lt (mkG n kd f0 f1 0) 16
    unfold L_X6_fewestLeftOut_15
    rw [if_neg (show ¬ (3 : Int32) < nI k from nI_nlt (a := 3) (by omega) (by decide)), if_pos rfl, h1', zb2_q, zl_q, nI_1]
    rcases h3 with ⟨T, g1, g2, g3, g4, g5, g6⟩ | ⟨g1, g2⟩
    · rw [Nat.zero_or] at g4 g5
      refine ⟨r, nI (k + 1), σ', ?_, h2, Or.inl ⟨T, g2, by omega, g4, g5, fun T' hs hp hF => ?_⟩⟩
      · obtain ⟨M, rfl⟩ : ∃ K, M = K + 1 := ⟨M - 1, by omega⟩
        have hne : r ≠ -1 := by rw [g5]; exact fun z => (nI_m1 (by omega)).mp z
        unfold L_X6_fewestLeftOut_15
        rw [if_neg hne]
        split <;> rfl
      · rcases Nat.lt_or_ge (pc T') k with q | q
        · exact absurd hF (hno T' hs q)
        · by_cases e : pc T' = k
          · refine Or.inr ⟨by omega, g6 T' (sub_lt hs hlm) hs e ?_⟩
            rw [Nat.zero_or]; exact hF
          · left; omega
    · subst g1
      obtain ⟨r2, z, σ2, i1, i2, i3⟩ := ih M (k + 1) σ' (by omega) (by omega) (hB.trK h2) (fun T hs hp hF => by
        by_cases e : pc T = k
        · refine g2 T (sub_lt hs hlm) hs e ?_
          rw [Nat.zero_or]; exact hF
        · exact hno T hs (by omega) hF)
      exact ⟨r2, z, σ2, i1, h2.trans i2, i3⟩
theorem fewest_ok (hw : gwf n kd f0 f1) (h0 : 0 < n) {σ : SF} (hJ : JIs σ 3 n kd f0 f1) (hF : FlowIs σ 3 (mkG n kd f0 f1 0)) : ∃ r σ', F_X6_fewestLeftOut σ = some (r, σ') ∧ MB (lmk (mkG n kd f0 f1 0) 16) (Fbd n kd f0 f1) r ∧ ∀ c, (c < 31 ∨ 40 < c) → σ' c = σ c := by
  obtain ⟨σ1, h1, h2, h3, h4⟩ := copy1_ok σ (b := 31) (b2 := 3) (by omega)
  have hB : CB σ1 n kd f0 f1 := ⟨hJ.eqv (h4 _ (by omega)) (h4 _ (by omega)) (h4 _ (by omega)) (h4 _ (by omega)), hF.eqv (h4 _ (by omega)) (h4 _ (by omega)) (h4 _ (by omega)) (h4 _ (by omega)) (h4 _ (by omega)), hJ.copy hw.1 h2 h3⟩
  obtain ⟨r, z, σ2, k1, k2, k3⟩ := fw_loop hw h0 4 100 0 σ1 (by omega) (by omega) hB (fun T _ hp => absurd hp (by omega))
  have k1' : L_X6_fewestLeftOut_15 100 (-1) 0 σ1 = some (r, z, σ2) := k1
  refine ⟨r, σ2, ?_, k3, fun c hc => (k2 c (by omega)).trans (h4 c (by omega))⟩
  unfold F_X6_fewestLeftOut
  rw [h1, zb_q, k1', zb3_q]
/-! the reference mends -/
theorem m8_loop (hw : gwf n kd f0 f1) {τ : SF} (hE : MEs τ n 0 kd f0 f1) (ho : τ 0 1 = nI n) : ∀ (m N e : Nat), e + m = 2 * n → m < N → L_X7_mendSet_8 τ N (nI (lmk (mkG n kd f0 f1 0) e)) (nI e) = some (nI (lmk (mkG n kd f0 f1 0) (2 * n)), nI (2 * n)) := by
  have hn := hw.1
  intro m
  induction m with
  | zero =>
    intro N e he hN
    obtain ⟨N, rfl⟩ : ∃ K, N = K + 1 := ⟨N - 1, by omega⟩
    have : e = 2 * n := by omega
    subst this
    unfold L_X7_mendSet_8
    rw [ho, nI_2k, if_pos (nI_le (Nat.le_refl _) (by omega))]
  | succ m ih =>
    intro N e he hN
    obtain ⟨N, rfl⟩ : ∃ K, N = K + 1 := ⟨N - 1, by omega⟩
    have := ih N (e + 1) (by omega) (by omega)
    have hs : lmk (mkG n kd f0 f1 0) (e + 1) = lmk (mkG n kd f0 f1 0) e ||| (if (lvE (mkG n kd f0 f1 0) e).isSome then 2 ^ e else 0) := rfl
    rw [hs] at this
    unfold L_X7_mendSet_8
    rw [ho, nI_2k, if_neg (nI_ge (by omega) (by omega)), F_isLive_nI hE hw (by decide) (by omega), zb_q, zl_q, zl_q, zl_q, zl_q, or0, nq_1 (show e < 31 by omega), fa_or, nI_1]
    cases hb : (lvE (mkG n kd f0 f1 0) e).isSome with
    | false => rw [hb] at this; rw [if_pos (by simp)]; simpa using this
    | true => rw [hb] at this; rw [if_neg (by simp)]; simpa using this
/-- the best of those from T on -/
def BSe (lm : Nat) (Fb : Nat → Prop) (T : Nat) (y2 y3 : Int32) : Prop :=
  (y2 = -1 ∧ y3 = nI 4 ∧ ∀ T', sub T' lm → T ≤ T' → pc T' ≤ 3 → ¬ Fb T') ∨ (∃ B, y2 = nI B ∧ y3 = nI (pc B) ∧ sub B lm ∧ pc B ≤ 3 ∧ Fb B ∧ ∀ T', sub T' lm → T ≤ T' → pc T' ≤ 3 → Fb T' → pc B < pc T' ∨ (pc B = pc T' ∧ B ≤ T'))
def MG (τ : SF) (n : Nat) (kd f0 f1 : Nat → Nat) : Prop := τ 0 18 = nI n ∧ ∀ v, v < n → τ 10 v = nI (kd v) ∧ τ 11 (2 * v) = nI (f0 v) ∧ τ 11 (2 * v + 1) = nI (f1 v)
theorem nand (a b : Nat) : nI a &&& nI b = nI (a &&& b) := fa_and a b
theorem m49_loop (hw : gwf n kd f0 f1) (h0 : 0 < n) {lm : Nat} (hlm : lm < 2 ^ 16) : ∀ (T N : Nat) (y2 y3 : Int32) (τ : SF), T + 1 < N → sub T lm → MG τ n kd f0 f1 → BSe lm (Fbd n kd f0 f1) (T + 1) y2 y3 →
    ∃ r a b τ', L_X7_mendSet_49 (nI lm) N y2 y3 (nI T) τ = some (r, a, b, τ') ∧ MB lm (Fbd n kd f0 f1) r ∧ Kp τ τ' := by
  intro T
  induction T using Nat.strongRecOn with
  | ind T ih =>
    intro N y2 y3 τ hN hs hG hbs
    obtain ⟨N, rfl⟩ : ∃ K, N = K + 1 := ⟨N - 1, by omega⟩
    have hT := sub_lt hs hlm
    have hpc := pc_bound hT (Nat.le_refl _)
    have tail : ∀ (y2 y3 : Int32) (τ1 : SF), MG τ1 n kd f0 f1 → Kp τ τ1 → BSe lm (Fbd n kd f0 f1) T y2 y3 → ∃ r a b τ', (if nI T = 0 then (L_X7_mendSet_49 (nI lm) N y2 y3 (-1) τ1) else (zl ((nI T - 1) &&& nI lm) fun v14 => L_X7_mendSet_49 (nI lm) N y2 y3 v14 τ1)) = some (r, a, b, τ') ∧ MB lm (Fbd n kd f0 f1) r ∧ Kp τ τ' := by
      intro y2 y3 τ1 hG1 hK1 hb1
      by_cases h : T = 0
      · subst h
        obtain ⟨N, rfl⟩ : ∃ K, N = K + 1 := ⟨N - 1, by omega⟩
        refine ⟨y2, y3, -1, τ1, ?_, ?_, hK1⟩
        · rw [if_pos (show nI 0 = 0 from rfl)]
          unfold L_X7_mendSet_49
          rw [if_pos (by decide)]
        · rcases hb1 with ⟨g1, g2, g3⟩ | ⟨B, g1, g2, g3, g4, g5, g6⟩
          · exact Or.inr ⟨g1, fun T hs hp => g3 T hs (Nat.zero_le _) hp⟩
          · exact Or.inl ⟨B, g3, g4, g5, g1, fun T hs hp => g6 T hs (Nat.zero_le _) hp⟩
      · have e1 : nI T - 1 = nI (T - 1) := by rw [nl_1, pk_sub (by omega)]
        have hle : (T - 1) &&& lm ≤ T - 1 := Nat.and_le_left
        have hs2 : sub ((T - 1) &&& lm) lm := fun i hi => by rw [Nat.testBit_and, Bool.and_eq_true] at hi; exact hi.2
        have hcov : ∀ T', sub T' lm → ((T - 1) &&& lm) + 1 ≤ T' → T ≤ T' := fun T' hs' hlt => by
          rcases Nat.lt_or_ge T' T with q | q
          · have := sub_next T lm T' hs hs' q
            omega
          · exact q
        obtain ⟨r, a, b, τ', i1, i2, i3⟩ := ih ((T - 1) &&& lm) (by omega) N y2 y3 τ1 (by omega) hs2 hG1 (by
          rcases hb1 with ⟨g1, g2, g3⟩ | ⟨B, g1, g2, g3, g4, g5, g6⟩
          · exact Or.inl ⟨g1, g2, fun T' hs' hlt hp => g3 T' hs' (hcov T' hs' hlt) hp⟩
          · exact Or.inr ⟨B, g1, g2, g3, g4, g5, fun T' hs' hlt hp => g6 T' hs' (hcov T' hs' hlt) hp⟩)
        refine ⟨r, a, b, τ', ?_, i2, hK1.trans i3⟩
        rw [if_neg (fun z => h ((nI_eq (by omega) (by decide)).mp (z.trans nl_0))), zl_q, e1, nand]
        exact i1
    -- those that are passed over
    have skip : (4 ≤ pc T ∨ ∃ B, y3 = nI (pc B) ∧ pc B ≤ 3 ∧ pc B < pc T) ∨ ¬ Fbd n kd f0 f1 T → BSe lm (Fbd n kd f0 f1) T y2 y3 := by
      intro hsk
      rcases hbs with ⟨g1, g2, g3⟩ | ⟨B, g1, g2, g3, g4, g5, g6⟩
      · refine Or.inl ⟨g1, g2, fun T' hs' hle hp hF => ?_⟩
        by_cases e : T' = T
        · subst e
          rcases hsk with (q | ⟨B, b1, b2, b3⟩) | q
          · omega
          · rw [g2] at b1
            have := (nI_eq (by decide) (by omega)).mp b1
            omega
          · exact q hF
        · exact g3 T' hs' (by omega) hp hF
      · refine Or.inr ⟨B, g1, g2, g3, g4, g5, fun T' hs' hle hp hF => ?_⟩
        by_cases e : T' = T
        · subst e
          rcases hsk with (q | ⟨B', b1, b2, b3⟩) | q
          · omega
          · rw [g2] at b1
            have := (nI_eq (by omega) (by omega)).mp b1
            left; omega
          · exact absurd hF q
        · exact g6 T' hs' (by omega) hp hF
    have hy3 : ∃ s, y3 = nI s ∧ s ≤ 4 ∧ (s = 4 ∨ ∃ B, y3 = nI (pc B) ∧ pc B ≤ 3 ∧ s = pc B) := by
      rcases hbs with ⟨g1, g2, g3⟩ | ⟨B, g1, g2, g3, g4, g5, g6⟩
      · exact ⟨4, g2, by omega, Or.inl rfl⟩
      · exact ⟨pc B, g2, by omega, Or.inr ⟨B, g2, g4, rfl⟩⟩
    obtain ⟨s, hs3, hs4, hsB⟩ := hy3
    unfold L_X7_mendSet_49
    rw [if_neg (nI_pos (by omega)), F_size_nI hT, zb_q, zb_q]
    by_cases q1 : s < pc T
    · rw [if_pos (by rw [hs3]; exact nI_lt q1 (by omega))]
      refine tail y2 y3 τ hG (Kp.refl _) (skip (Or.inl ?_))
      rcases hsB with q | ⟨B, b1, b2, b3⟩
      · left; omega
      · right; exact ⟨B, b1, b2, by omega⟩
    · rw [if_neg (by rw [hs3]; exact nI_nlt (by omega) (by omega))]
      by_cases q2 : 4 ≤ pc T
      · rw [if_pos (show (4 : Int32) ≤ nI (pc T) from nI_le (a := 4) q2 (by omega))]
        exact tail y2 y3 τ hG (Kp.refl _) (skip (Or.inl (Or.inl q2)))
      · rw [if_neg (show ¬ (4 : Int32) ≤ nI (pc T) from nI_ge (b := 4) (by omega) (by decide)), zl_q]
        have hM : MIs ((zst τ 0 19 (nI T)) 0) ((zst τ 0 19 (nI T)) 10) ((zst τ 0 19 (nI T)) 11) n kd f0 f1 T := ⟨hG.1, rfl, hG.2⟩
        obtain ⟨τ1, l1, l2, l3⟩ := F_lay_eq hw h0 hT hM
        have hK0 : Kp τ (zst τ 0 19 (nI T)) := ⟨fun i hi => by unfold zst zsr; simp [show i ≠ 0 by omega], fun k hk => by unfold zst zsr upd; simp [show k ≠ 19 by omega]⟩
        have hK1 := hK0.trans (Kp.lay l3)
        have hG1 : MG τ1 n kd f0 f1 := by
          refine ⟨(l3.2 18 (by decide) (by decide) (by decide) (by decide) (by decide) (by decide) (by decide)).trans hG.1, ?_⟩
          rw [l3.1 10 (by decide) (by decide) (by decide) (by decide) (by decide) (by decide) (by decide), l3.1 11 (by decide) (by decide) (by decide) (by decide) (by decide) (by decide) (by decide)]
          exact hG.2
        have hbd : τ1 0 30 = nI (bd (mkG n kd f0 f1 T)) := l2.2.2.2.2.2.2.2.2.1
        have hb16 : bd (mkG n kd f0 f1 T) ≤ 16 := (wa_ct _ 16).2.2
        rw [l1, zb_q, hbd]
        by_cases q3 : bd (mkG n kd f0 f1 T) = 0
        · rw [if_pos (by rw [q3]; rfl), zb_q]
          refine tail (nI T) (nI (pc T)) τ1 hG1 hK1 (Or.inr ⟨T, rfl, rfl, hs, by omega, q3, fun T' hs' hle hp hF => ?_⟩)
          by_cases e : T' = T
          · subst e; right; omega
          · rcases hbs with ⟨g1, g2, g3⟩ | ⟨B, g1, g2, g3, g4, g5, g6⟩
            · exact absurd hF (g3 T' hs' (by omega) hp)
            · have := g6 T' hs' (by omega) hp hF
              rw [g2] at hs3
              have := (nI_eq (by omega) (by omega)).mp hs3
              omega
        · rw [if_neg (fun z => q3 ((nI_eq (by omega) (by decide)).mp (z.trans nl_0)))]
          exact tail y2 y3 τ1 hG1 hK1 (skip (Or.inr q3))
theorem mendSet_ok (hw : gwf n kd f0 f1) (h0 : 0 < n) {τ : SF} (hR : RIs τ n kd f0 f1) : ∃ r τ', F_X7_mendSet τ = some (r, τ') ∧ MB (lmk (mkG n kd f0 f1 0) 16) (Fbd n kd f0 f1) r ∧ Kp τ τ' := by
  obtain ⟨τ1, h1, h2, h3, h4⟩ := F_layNow_eq hw h0 hR
  have hR1 := hR.kp h4
  have hlm := lmk_lt (mkG n kd f0 f1 0) 16
  have e8 := m8_loop hw (h2.mes h3) hR1.1 (2 * n) 100 0 (by omega) (by have := hw.1; omega)
  rw [lmk_16 hw] at e8
  have e8' : L_X7_mendSet_8 τ1 100 0 0 = some (nI (lmk (mkG n kd f0 f1 0) 16), nI (2 * n)) := e8
  obtain ⟨r, a, b, τ2, k1, k2, k3⟩ := m49_loop hw h0 hlm (lmk (mkG n kd f0 f1 0) 16) 70000 (-1) 4 τ1 (by omega) (fun i hi => hi) ⟨h3.1, h3.2.2⟩ (Or.inl ⟨rfl, rfl, fun T' hs hlt => by
    have : T' ≤ lmk (mkG n kd f0 f1 0) 16 := by
      rw [← sub_and hs]; exact Nat.and_le_right
    omega⟩)
  refine ⟨r, τ2, ?_, k2, h4.trans k3⟩
  unfold F_X7_mendSet
  rw [h1, zb_q, e8', zb2_q, k1, zb4_q]
end FW
