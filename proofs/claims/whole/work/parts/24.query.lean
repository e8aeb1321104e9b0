/-! WHAT THE CLASS TELLS OF A GRAPH -/
/-- of the nodes before k: how many a rules -/
noncomputable def dct (g : Gr) (a k : Nat) : Nat := fb_ct (fun v => (dk g v).testBit a) k
theorem dct_le (g : Gr) (a k : Nat) : dct g a k ≤ k := fb_ct_le _ _
noncomputable def hd (g : Gr) : Nat := (wa g 16).2.2.2.1
noncomputable def mg (g : Gr) : Nat := (wa g 16).2.2.2.2.1
noncomputable def bd (g : Gr) : Nat := (wa g 16).2.2.1
section CQ
variable {σ : SF} {j n : Nat} {kd f0 f1 : Nat → Nat} {g : Gr}
theorem has1 (hJ : JIs σ j n kd f0 f1) (hn : n ≤ 8) {v : Nat} (hv : v < n) : F_X1_has σ j (nI v) = some 1 := by
  rw [F_has_nI hJ.1 (by omega) (by omega), if_pos hv]
theorem q_place (hJ : JIs σ j n kd f0 f1) (hn : n ≤ 8) (hF : FlowIs σ j g) {v : Nat} (hv : v < n) : F_X0_placeOf σ j (nI v) = some (if v ∈ po g then nI (pl g v) else -1) := by
  unfold F_X0_placeOf
  rw [has1 hJ hn hv, zb_q, if_neg (by decide), zg_q (nq_zin1 (show v < 8 by omega) (by decide)), nI_clamp (by omega), hF.2.2.2.1 v (by omega)]
theorem q_rules (hJ : JIs σ j n kd f0 f1) (hn : n ≤ 8) (hF : FlowIs σ j g) {a v : Nat} (ha : a < n) (hv : v < n) : F_X0_rules σ j (nI a) (nI v) = some (if (dk g v).testBit a then 1 else 0) := by
  have hd := dk_lt g v
  unfold F_X0_rules
  rw [has1 hJ hn ha, zb_q, if_neg (by decide), has1 hJ hn hv, zb_q, if_neg (by decide), zg_q (nq_zin1 (show v < 8 by omega) (by decide)), nI_clamp (by omega), hF.2.2.2.2.1 v (by omega)]
  simp only [nq_bit1 (show dk g v < 2 ^ 31 by omega) (show a < 31 by omega)]
  cases (dk g v).testBit a <;> simp
theorem q_ruled_loop (hJ : JIs σ j n kd f0 f1) (hn : n ≤ 8) (hF : FlowIs σ j g) {a : Nat} (ha : a < n) : ∀ (m N i : Nat), i + m = n → m < N → L_X0_ruledBy_4 σ j (nI a) N (nI (dct g a i)) (nI i) = some (nI (dct g a n), nI n) := by
  intro m
  induction m with
  | zero =>
    intro N i hi hN
    obtain ⟨N, rfl⟩ : ∃ K, N = K + 1 := ⟨N - 1, by omega⟩
    have : i = n := by omega
    subst this
    unfold L_X0_ruledBy_4
    rw [hJ.1, if_pos (nI_le (Nat.le_refl _) (by omega))]
  | succ m ih =>
    intro N i hi hN
    obtain ⟨N, rfl⟩ : ∃ K, N = K + 1 := ⟨N - 1, by omega⟩
    unfold L_X0_ruledBy_4
    have hs : dct g a (i + 1) = dct g a i + (if (dk g i).testBit a then 1 else 0) := fb_ct_succ _ _
    rw [hJ.1, if_neg (nI_ge (by omega) (by omega)), q_rules hJ hn hF ha (by omega), zb_q]
    have := ih N (i + 1) (by omega) (by omega)
    rw [hs] at this
    cases hb : (dk g i).testBit a
    · rw [hb] at this
      rw [if_pos (by decide), zl_q, zl_q, nl_0, nI_add, nI_1]; exact this
    · rw [hb] at this
      rw [if_neg (by decide), zl_q, zl_q, nI_1, nI_1]; exact this
theorem q_ruledBy (hJ : JIs σ j n kd f0 f1) (hn : n ≤ 8) (hF : FlowIs σ j g) {a : Nat} (ha : a < n) : F_X0_ruledBy σ j (nI a) = some (nI (dct g a n)) := by
  unfold F_X0_ruledBy
  have e : L_X0_ruledBy_4 σ j (nI a) 100 0 0 = some (nI (dct g a n), nI n) := q_ruled_loop hJ hn hF ha n 100 0 (by omega) (by omega)
  rw [e, zb2_q]
theorem q_lord_loop (hg : gok g) (hJ : JIs σ j n kd f0 f1) (hn : n ≤ 8) (hF : FlowIs σ j g) {v : Nat} (hgn : ∀ a, Rch g 99 a → a < n) : ∀ (m N i : Nat), i + m = n → m < N → (∀ a, a < i → ¬ Lrd g a v) →
    (∃ r, L_X0_lordOf_28 σ j (nI (clr (dk g v) v)) N (nI i) = some (.inl r) ∧ r = ld g v) ∨ (∃ r, L_X0_lordOf_28 σ j (nI (clr (dk g v) v)) N (nI i) = some (.inr r) ∧ ld g v = -1) := by
  intro m
  induction m with
  | zero =>
    intro N i hi hN hno
    obtain ⟨N, rfl⟩ : ∃ K, N = K + 1 := ⟨N - 1, by omega⟩
    have : i = n := by omega
    subst this
    right
    refine ⟨nI i, ?_, ld_none (fun a h => hno a (hgn a h.2.1.1) h)⟩
    unfold L_X0_lordOf_28
    rw [hJ.1, if_pos (nI_le (Nat.le_refl _) (by omega))]
  | succ m ih =>
    intro N i hi hN hno
    obtain ⟨N, rfl⟩ : ∃ K, N = K + 1 := ⟨N - 1, by omega⟩
    have hc := clr_lt v (dk_lt g v)
    have hk := dk_lt g i
    have nxt : ¬ Lrd g i v → _ := fun h => ih N (i + 1) (by omega) (by omega) (fun a ha q => by
      by_cases e : a = i
      · subst e; exact h q
      · exact hno a (by omega) q)
    unfold L_X0_lordOf_28
    rw [hJ.1, if_neg (nI_ge (by omega) (by omega))]
    by_cases z : clr (dk g v) v = 0
    · rw [if_pos (by rw [z]; rfl), zl_q, nI_1]
      exact nxt (fun q => ((Lrd_class hg).mpr q).1 z)
    · rw [if_neg (fun q => z ((nI_eq (by omega) (by decide)).mp (q.trans nl_0))), zg_q (nq_zin1 (show i < 8 by omega) (by decide)), nI_clamp (by omega), hF.2.2.2.2.1 i (by omega)]
      by_cases y : dk g i = clr (dk g v) v
      · rw [if_pos (by rw [y])]
        exact Or.inl ⟨nI i, rfl, (ld_some hg ((Lrd_class hg).mp ⟨z, y⟩)).symm⟩
      · rw [if_neg (fun q => y ((nI_eq (by omega) (by omega)).mp q)), zl_q, nI_1]
        exact nxt (fun q => y ((Lrd_class hg).mpr q).2)
theorem q_lord (hg : gok g) (hJ : JIs σ j n kd f0 f1) (hn : n ≤ 8) (hF : FlowIs σ j g) (hgn : ∀ a, Rch g 99 a → a < n) {v : Nat} (hv : v < n) : F_X0_lordOf σ j (nI v) = some (ld g v) := by
  have hl := q_lord_loop hg hJ hn hF (v := v) hgn n 100 0 (by omega) (by omega) (fun a ha => absurd ha (by omega))
  unfold F_X0_lordOf
  rw [has1 hJ hn hv, zb_q, if_neg (by decide), zg_q (nq_zin1 (show v < 8 by omega) (by decide)), zl_q, nI_clamp (by omega), hF.2.2.2.2.1 v (by omega), nq_1 (show v < 31 by omega), nq_clr]
  rcases hl with ⟨r, h1, h2⟩ | ⟨r, h1, h2⟩
  · have h1' : L_X0_lordOf_28 σ j (nI (clr (dk g v) v)) 100 0 = some (.inl r) := h1
    rw [h1', zs_ql, h2]
  · have h1' : L_X0_lordOf_28 σ j (nI (clr (dk g v) v)) 100 0 = some (.inr r) := h1
    rw [h1', zs_qr, zb_q, h2]
theorem q_head (hg : gok g) (hJ : JIs σ j n kd f0 f1) (hn : n ≤ 8) (hF : FlowIs σ j g) {v : Nat} (hv : v < n) : F_X0_isHead σ j (nI v) = some (if (hd g).testBit v then 1 else 0) := by
  have h1 : hd g < 2 ^ 8 := (wa_lt hg 16).1
  have h2 : σ (j + 4) 11 = nI (hd g) := hF.2.2.2.2.2.2.2.2.1
  unfold F_X0_isHead
  rw [has1 hJ hn hv, zb_q, if_neg (by decide), h2]
  simp only [nq_bit1 (show hd g < 2 ^ 31 by omega) (show v < 31 by omega)]
  cases (hd g).testBit v <;> simp
theorem q_merge (hg : gok g) (hJ : JIs σ j n kd f0 f1) (hn : n ≤ 8) (hF : FlowIs σ j g) {v : Nat} (hv : v < n) : F_X0_isMerge σ j (nI v) = some (if (mg g).testBit v then 1 else 0) := by
  have h1 : mg g < 2 ^ 8 := (wa_lt hg 16).2.1
  have h2 : σ (j + 4) 12 = nI (mg g) := hF.2.2.2.2.2.2.2.2.2
  unfold F_X0_isMerge
  rw [has1 hJ hn hv, zb_q, if_neg (by decide), h2]
  simp only [nq_bit1 (show mg g < 2 ^ 31 by omega) (show v < 31 by omega)]
  cases (mg g).testBit v <;> simp
theorem q_state (hJ : JIs σ j n kd f0 f1) (hn : n ≤ 8) (hF : FlowIs σ j g) {v w : Nat} (hv : v < n) (hw : w < 2) : F_X0_stateOf σ j (nI v) (nI w) = some (sv g (2 * v + w)) := by
  have he : F_X6_isEnd (nI w) = some 1 := by
    rcases (show w = 0 ∨ w = 1 by omega) with rfl | rfl <;> rfl
  have e1 : (2 : Int32) * nI v + nI w = nI (2 * v + w) := by rw [nl_2, pk_mul, nI_add]
  unfold F_X0_stateOf
  rw [has1 hJ hn hv, zb_q, if_neg (by decide), he, zb_q, if_neg (by decide), zl_q, e1, zg_q (nq_zin1 (show 2 * v + w < 16 by omega) (by decide)), nI_clamp (by omega), hF.1 _ (by omega)]
theorem q_nodeAt (hg : gok g) (hF : FlowIs σ j g) {i : Nat} (hi : i < (po g).length) : F_X0_nodeAt σ j (nI i) = some (nI ((po g)[(po g).length - 1 - i]'(by omega))) := by
  have h8 := po_len hg
  have e1 : nI (po g).length - 1 - nI i = nI ((po g).length - 1 - i) := by rw [nl_1, pk_sub (by omega), pk_sub (by omega)]
  unfold F_X0_nodeAt
  rw [if_neg (nI_pos (by omega)), hF.2.1, if_neg (nI_ge hi (by omega)), zl_q, e1, zg_q (nq_zin1 (show (po g).length - 1 - i < 8 by omega) (by decide)), nI_clamp (by omega), hF.2.2.1 _ (by omega)]
theorem q_folds (hg : gok g) (hF : FlowIs σ j g) : F_X0_folds σ j = some (if bd g = 0 then 1 else 0) := by
  have h8 := po_len hg
  have hpos : 0 < (po g).length := List.length_pos_of_mem (po_ok hg).2.2.2.2.1
  have hb : bd g ≤ 16 := (wa_ct g 16).2.2
  have h2 : σ (j + 4) 10 = nI (bd g) := hF.2.2.2.2.2.2.2.1
  unfold F_X0_folds
  rw [hF.2.1, if_neg (nI_nle hpos (by omega)), h2]
  by_cases z : bd g = 0
  · rw [if_pos z, if_pos (by rw [z]; rfl)]
  · rw [if_neg z, if_neg (fun q => z ((nI_eq (by omega) (by decide)).mp (q.trans nl_0)))]
end CQ
