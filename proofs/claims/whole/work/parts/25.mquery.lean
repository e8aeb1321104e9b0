/-! WHAT THE REFERENCE TELLS OF A GRAPH -/
/-- two rows written anew -/
def r2 (τ : SF) (p q : Nat) (a b : Nat → Int32) : SF := zsr (zsr τ p a) q b
section R2
variable {τ : SF} {p q c k : Nat} {a b : Nat → Int32} {v : Int32}
theorem r2_q : r2 τ p q a b q = b := by simp [r2, zsr]
theorem r2_p (h : p ≠ q) : r2 τ p q a b p = a := by simp [r2, zsr, h]
theorem r2_o (h1 : c ≠ p) (h2 : c ≠ q) : r2 τ p q a b c = τ c := by simp [r2, zsr, h1, h2]
theorem r2_sq : zst (r2 τ p q a b) q k v = r2 τ p q a (upd b k v) := by
  unfold zst; rw [r2_q]; unfold r2; rw [zsr_zsr]
theorem r2_sp (h : p ≠ q) : zst (r2 τ p q a b) p k v = r2 τ p q (upd a k v) b := by
  unfold zst; rw [r2_p h]; unfold r2
  funext i
  simp only [zsr]
  by_cases h1 : i = p
  · subst h1; simp [h]
  · simp [h1]
theorem r2_self : r2 τ p q (τ p) (τ q) = τ := by
  unfold r2
  funext i
  simp only [zsr]
  by_cases h1 : i = q
  · simp [h1]
  · by_cases h2 : i = p
    · subst h2; simp [h1]
    · simp [h1, h2]
end R2
/-- the reference's graph -/
def RIs (τ : SF) (n : Nat) (kd f0 f1 : Nat → Nat) : Prop := τ 0 1 = nI n ∧ ∀ v, v < n → τ 1 v = nI (kd v) ∧ τ 2 (2 * v) = nI (f0 v) ∧ τ 2 (2 * v + 1) = nI (f1 v)
/-- what is no work space keeps its value -/
def Kp (τ τ' : SF) : Prop := (∀ i, (1 ≤ i ∧ i ≤ 7 ∨ 22 ≤ i) → τ' i = τ i) ∧ ∀ k, (k ≤ 11 ∨ 46 ≤ k ∧ k ≤ 48 ∨ k = 54 ∨ k = 154) → τ' 0 k = τ 0 k
theorem Kp.refl (τ : SF) : Kp τ τ := ⟨fun _ _ => rfl, fun _ _ => rfl⟩
theorem Kp.trans {a b c : SF} (h1 : Kp a b) (h2 : Kp b c) : Kp a c := ⟨fun i h => (h2.1 i h).trans (h1.1 i h), fun k h => (h2.2 k h).trans (h1.2 k h)⟩
theorem Kp.lay {τ τ' : SF} (h : layKeep τ τ') : Kp τ τ' := ⟨fun i hi => h.1 i (by omega) (by omega) (by omega) (by omega) (by omega) (by omega) (by omega), fun k hk => h.2 k (by omega) (by omega) (by omega) (by omega) (by omega) (by omega) (by omega)⟩
theorem RIs.kp {τ τ' : SF} {n : Nat} {kd f0 f1 : Nat → Nat} (h : RIs τ n kd f0 f1) (hk : Kp τ τ') : RIs τ' n kd f0 f1 := by
  unfold RIs
  rw [hk.1 1 (by omega), hk.1 2 (by omega), hk.2 1 (by omega)]
  exact h
theorem nI_2k (k : Nat) : (2 : Int32) * nI k = nI (2 * k) := pk_mul 2 k
section MQ
variable {τ : SF} {n : Nat} {kd f0 f1 : Nat → Nat}
theorem lg_loop (ho : τ 0 1 = nI n) (hn : n ≤ 8) : ∀ (m N i : Nat) (a b : Nat → Int32), i + m = n → m < N → L_X7_layGraph_15 N (nI i) (r2 τ 10 11 a b) = some (nI n, r2 τ 10 11 (rfrom (τ 1) a i n) (rfrom (τ 2) b (2 * i) (2 * n))) := by
  intro m
  induction m with
  | zero =>
    intro N i a b hi hN
    obtain ⟨N, rfl⟩ : ∃ K, N = K + 1 := ⟨N - 1, by omega⟩
    have : i = n := by omega
    subst this
    unfold L_X7_layGraph_15
    rw [r2_o (by decide) (by decide), ho, if_pos (nI_le (Nat.le_refl _) (by omega)), rfrom_end (Nat.le_refl _), rfrom_end (Nat.le_refl _)]
  | succ m ih =>
    intro N i a b hi hN
    obtain ⟨N, rfl⟩ : ∃ K, N = K + 1 := ⟨N - 1, by omega⟩
    have h8 := nq_zin1 (show i < 8 by omega) (by decide)
    have h16 := nq_zin1 (show 2 * i < 16 by omega) (by decide)
    have h17 := nq_zin1 (show 2 * i + 1 < 16 by omega) (by decide)
    unfold L_X7_layGraph_15
    rw [r2_o (by decide) (by decide), ho, if_neg (nI_ge (by omega) (by omega)), nI_2k, nI_1, zg_q h8, zg_q h8, zl_q, zl_q, zg_q h16, zg_q h16, zl_q, zl_q, zg_q h17, zg_q h17, zl_q, zl_q, nI_clamp (by omega), nI_clamp (by omega), nI_clamp (by omega), r2_o (c := 1) (by decide) (by decide), r2_sp (by decide), r2_o (c := 2) (by decide) (by decide), r2_sq, r2_o (c := 2) (by decide) (by decide), r2_sq, nI_1, ih N (i + 1) _ _ (by omega) (by omega), rfrom_step (by omega)]
    have e1 : 2 * (i + 1) = 2 * i + 1 + 1 := by omega
    rw [e1, rfrom_step (by omega), rfrom_step (by omega)]
theorem F_layNow_eq (hw : gwf n kd f0 f1) (h0 : 0 < n) (hR : RIs τ n kd f0 f1) : ∃ τ', F_X7_layNow τ = some τ' ∧ LayIs τ' n (mkG n kd f0 f1 0) ∧ MIs (τ' 0) (τ' 10) (τ' 11) n kd f0 f1 0 ∧ Kp τ τ' := by
  have hn := hw.1
  have e1 : L_X7_layGraph_15 100 0 (r2 (zst (zst τ 0 18 (nI n)) 0 19 0) 10 11 (τ 10) (τ 11)) = some (nI n, r2 (zst (zst τ 0 18 (nI n)) 0 19 0) 10 11 (rfrom (τ 1) (τ 10) 0 n) (rfrom (τ 2) (τ 11) 0 (2 * n))) := lg_loop (τ := zst (zst τ 0 18 (nI n)) 0 19 0) hR.1 hn n 100 0 (τ 10) (τ 11) (by omega) (by omega)
  have e2 : r2 (zst (zst τ 0 18 (nI n)) 0 19 0) 10 11 (τ 10) (τ 11) = zst (zst τ 0 18 (nI n)) 0 19 0 := r2_self (τ := zst (zst τ 0 18 (nI n)) 0 19 0) (p := 10) (q := 11)
  rw [e2] at e1
  have hG : F_X7_layGraph τ = some (r2 (zst (zst τ 0 18 (nI n)) 0 19 0) 10 11 (rfrom (τ 1) (τ 10) 0 n) (rfrom (τ 2) (τ 11) 0 (2 * n))) := by
    unfold F_X7_layGraph
    rw [zl_q, zl_q, hR.1, e1, zb2_q]
  have hM : MIs ((r2 (zst (zst τ 0 18 (nI n)) 0 19 0) 10 11 (rfrom (τ 1) (τ 10) 0 n) (rfrom (τ 2) (τ 11) 0 (2 * n))) 0) ((r2 (zst (zst τ 0 18 (nI n)) 0 19 0) 10 11 (rfrom (τ 1) (τ 10) 0 n) (rfrom (τ 2) (τ 11) 0 (2 * n))) 10) ((r2 (zst (zst τ 0 18 (nI n)) 0 19 0) 10 11 (rfrom (τ 1) (τ 10) 0 n) (rfrom (τ 2) (τ 11) 0 (2 * n))) 11) n kd f0 f1 0 := by
    rw [r2_o (by decide) (by decide), r2_p (by decide), r2_q]
    refine ⟨rfl, rfl, fun v hv => ?_⟩
    rw [rfrom_in (Nat.zero_le _) hv, rfrom_in (Nat.zero_le _) (by omega), rfrom_in (Nat.zero_le _) (by omega)]
    exact hR.2 v hv
  obtain ⟨τ', h1, h2, h3⟩ := F_lay_eq hw h0 (by decide) hM
  refine ⟨τ', ?_, h2, ?_, ?_⟩
  · unfold F_X7_layNow
    rw [hG, zb_q, h1, zb_q]
  · refine ⟨(h3.2 18 (by decide) (by decide) (by decide) (by decide) (by decide) (by decide) (by decide)).trans hM.1, (h3.2 19 (by decide) (by decide) (by decide) (by decide) (by decide) (by decide) (by decide)).trans hM.2.1, ?_⟩
    rw [h3.1 10 (by decide) (by decide) (by decide) (by decide) (by decide) (by decide) (by decide), h3.1 11 (by decide) (by decide) (by decide) (by decide) (by decide) (by decide) (by decide)]
    exact hM.2.2
  · refine Kp.trans ⟨fun i hi => ?_, fun k hk => ?_⟩ (Kp.lay h3)
    · rw [r2_o (by omega) (by omega)]
      unfold zst zsr
      rw [if_neg (by omega), if_neg (by omega)]
    · rw [r2_o (by decide) (by decide)]
      unfold zst zsr upd
      simp [show k ≠ 18 by omega, show k ≠ 19 by omega]
theorem m_dom_loop {g : Gr} (ho : τ 0 1 = nI n) (hn : n ≤ 8) (hd : ∀ v, v < n → τ 14 v = nI (dk g v)) {a : Nat} (ha : a < 8) : ∀ (m N i : Nat), i + m = n → m < N → L_X7_dominated_4 τ (nI a) N (nI (dct g a i)) (nI i) = some (nI (dct g a n), nI n) := by
  intro m
  induction m with
  | zero =>
    intro N i hi hN
    obtain ⟨N, rfl⟩ : ∃ K, N = K + 1 := ⟨N - 1, by omega⟩
    have : i = n := by omega
    subst this
    unfold L_X7_dominated_4
    rw [ho, if_pos (nI_le (Nat.le_refl _) (by omega))]
  | succ m ih =>
    intro N i hi hN
    obtain ⟨N, rfl⟩ : ∃ K, N = K + 1 := ⟨N - 1, by omega⟩
    have hk := dk_lt g i
    unfold L_X7_dominated_4
    have hs : dct g a (i + 1) = dct g a i + (if (dk g i).testBit a then 1 else 0) := fb_ct_succ _ _
    rw [ho, if_neg (nI_ge (by omega) (by omega)), zg_q (nq_zin1 (show i < 8 by omega) (by decide)), nI_clamp (by omega), hd i (by omega), F_isIn_nI (show dk g i < 2 ^ 31 by omega) (show a < 31 by omega), zb_q]
    have := ih N (i + 1) (by omega) (by omega)
    rw [hs] at this
    cases hb : (dk g i).testBit a
    · rw [hb] at this
      rw [if_pos (by decide), zl_q, zl_q, nl_0, nI_add, nI_1]; exact this
    · rw [hb] at this
      rw [if_neg (by decide), zl_q, zl_q, nI_1, nI_1]; exact this
theorem m_dominated {g : Gr} (ho : τ 0 1 = nI n) (hn : n ≤ 8) (hd : ∀ v, v < n → τ 14 v = nI (dk g v)) {a : Nat} (ha : a < 8) : F_X7_dominated τ (nI a) = some (nI (dct g a n)) := by
  unfold F_X7_dominated
  have e : L_X7_dominated_4 τ (nI a) 100 0 0 = some (nI (dct g a n), nI n) := m_dom_loop ho hn hd ha n 100 0 (by omega) (by omega)
  rw [e, zb2_q]
theorem LayIs.mes (h : LayIs τ n (mkG n kd f0 f1 0)) (hM : MIs (τ 0) (τ 10) (τ 11) n kd f0 f1 0) : MEs τ n 0 kd f0 f1 := ⟨hM, h.1, h.2.2.2.1, h.2.2.2.2.1⟩
theorem m_edge (hw : gwf n kd f0 f1) (h : LayIs τ n (mkG n kd f0 f1 0)) (hM : MIs (τ 0) (τ 10) (τ 11) n kd f0 f1 0) {e : Nat} (he : e < 2 * n) : F_X7_edgeNow τ (nI e) = some (sv (mkG n kd f0 f1 0) e) := by
  have hg := mkG_ok hw 0
  unfold F_X7_edgeNow sv
  rw [F_isLive_nI (h.mes hM) hw (by decide) he, zb_q]
  cases hl : lvE (mkG n kd f0 f1 0) e with
  | none => rfl
  | some t =>
    have hm : e / 2 ∈ po (mkG n kd f0 f1 0) := by
      unfold lvE at hl
      split at hl
      · assumption
      · cases hl
    have hge : mkG n kd f0 f1 0 e = some t := by
      unfold lvE at hl
      rw [if_pos hm] at hl
      exact hl
    have hiff : (if (some t).isSome = true then (1 : Int32) else 0) = 0 ↔ False := by simp
    rw [if_neg (fun q => hiff.mp q), F_isBack_nI (h.mes hM) hw hge, zb_q]
    cases hb : (dk (mkG n kd f0 f1 0) (e / 2)).testBit t with
    | true =>
      have := ((dk_iff hg).mp hb).ple hg
      rw [if_neg (by simp)]
      simp only [if_neg (show ¬ pl (mkG n kd f0 f1 0) (e / 2) < pl (mkG n kd f0 f1 0) t by omega), hb, if_true]
    | false =>
      rw [if_pos (by simp), F_retreats_nI (h.mes hM) hw hge hm, zb_q]
      by_cases q : pl (mkG n kd f0 f1 0) (e / 2) < pl (mkG n kd f0 f1 0) t
      · simp only [if_pos q, if_true]
      · simp only [if_neg q, hb]
        rfl
end MQ
