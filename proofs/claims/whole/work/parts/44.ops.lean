/-! OPERATIONS THAT ONLY ASK -/
theorem FT_len {g : Gr} (hg : gok g) (kd : Nat → Nat) : (FT g kd).1.length ≤ 72 := by
  unfold FT
  split
  · rename_i hb
    have := (tr_room hg hb kd).1
    rw [ex_sg]
    exact this
  · simp
theorem anew_ok {σ : SF} {n : Nat} {kd f0 f1 : Nat → Nat} (hw : gwf n kd f0 f1) (h0 : 0 < n) (hJ : JIs σ 3 n kd f0 f1) : ∃ σ', F_X6_lookAnew σ = some σ' ∧ FlowIs σ' 3 (mkG n kd f0 f1 0) ∧ SGs σ' (FT (mkG n kd f0 f1 0) kd) ∧ ∀ c, (c < 7 ∨ 15 < c) → σ' c = σ c := by
  obtain ⟨o, t, s, d, p, r, h1, h2⟩ := look_ok hJ hw h0 (show 0 < 2 ^ 16 by decide)
  have h1' : F_X0_look σ 3 0 = some (fl σ 3 o t s d p r) := h1
  have hfr : ∀ c, (c < 7 ∨ 12 < c) → fl σ 3 o t s d p r c = σ c := fun c hc => by
    unfold fl
    simp [show c ≠ 3 + 4 by omega, show c ≠ 3 + 5 by omega, show c ≠ 3 + 6 by omega, show c ≠ 3 + 7 by omega, show c ≠ 3 + 8 by omega, show c ≠ 3 + 9 by omega]
  obtain ⟨σ', k1, k2⟩ := c_write hw h0 (hJ.fl o t s d p r) h2
  refine ⟨σ', ?_, k2.F h2, ⟨k2.2.1, k2.2.2.1, k2.2.2.2.1, k2.2.2.2.2.1, k2.2.2.2.2.2.2.1, FT_len (mkG_ok hw 0) kd⟩, fun c hc => ?_⟩
  · unfold F_X6_lookAnew
    rw [h1', zb_q, k1, zb_q]
  · rw [k2.1 c (by omega) (by omega) (by omega)]
    exact hfr c (by omega)
section OP
variable {k : Nat} {σ τ : SF}
theorem nodeNow_eq {τ' : SF} {n : Nat} {kd f0 f1 : Nat → Nat} {s : Nat} {nd vs dd : Nat → Nat} (hw : gwf n kd f0 f1) (h0 : 0 < n) (hJ : JIs σ 3 n kd f0 f1) (hF : FlowIs σ 3 (mkG n kd f0 f1 0)) (hR : RIs τ' n kd f0 f1) (l2 : LayIs τ' n (mkG n kd f0 f1 0)) (hS1 : SIs (σ 19 0) (σ 20) (σ 21) (σ 22) s nd vs dd) (hS2 : SIs (τ' 0 7) (τ' 4) (τ' 5) (τ' 6) s nd vs dd) (hSo : SOk s nd vs dd) {v c : Nat} (hv : v < n) (hc : c ≤ 9) : ∃ r, F_X6_node σ (nI v) (nI c) = some r ∧ F_X7_nodeNow τ' (nI v) (nI c) = some r := by
  have hn := hw.1
  have hg := mkG_ok hw 0
  obtain ⟨j1, j2, j3⟩ := hJ.2 v hv
  obtain ⟨t1, t2, t3⟩ := hR.2 v hv
  have hz8 := nq_zin1 (show v < 8 by omega) (by decide)
  have hgn : ∀ a, Rch (mkG n kd f0 f1 0) 99 a → a < n := fun a ha => Rch_n hw h0 ha
  unfold F_X6_node F_X7_nodeNow
  rw [has1 hJ hn hv, zb_q, if_neg i10, nI_clamp (show v < 2 ^ 31 by omega)]
  rcases (show c = 0 ∨ c = 1 ∨ c = 2 ∨ c = 3 ∨ c = 4 ∨ c = 5 ∨ c = 6 ∨ c = 7 ∨ c = 8 ∨ c = 9 by omega) with rfl | rfl | rfl | rfl | rfl | rfl | rfl | rfl | rfl | rfl
  · rw [if_pos (by decide), if_pos (by decide), zg_q hz8, zg_q hz8, j1, t1]
    exact ⟨_, rfl, rfl⟩
  · have e : (2 : Int32) * nI v + nI 1 - 1 = nI (2 * v) := by rw [nI_2k, nI_add, nl_1, pk_sub (by omega)]; rfl
    rw [if_neg (by decide), if_pos (by decide), if_neg (by decide), if_pos (by decide), zg_q hz8, j2, zl_q, e, zg_q (nq_zin1 (show 2 * v < 16 by omega) (by decide)), nI_clamp (by omega), t2]
    exact ⟨_, rfl, rfl⟩
  · have e : (2 : Int32) * nI v + nI 2 - 1 = nI (2 * v + 1) := by rw [nI_2k, nI_add, nl_1, pk_sub (by omega)]; rfl
    rw [if_neg (by decide), if_neg (by decide), if_pos (by decide), if_neg (by decide), if_neg (by decide), if_pos (by decide), zg_q hz8, j3, zl_q, e, zg_q (nq_zin1 (show 2 * v + 1 < 16 by omega) (by decide)), nI_clamp (by omega), t3]
    exact ⟨_, rfl, rfl⟩
  · have hrr := rr_lt hg
    rw [if_neg (by decide), if_neg (by decide), if_neg (by decide), if_pos (by decide), if_neg (by decide), if_neg (by decide), if_neg (by decide), if_pos (by decide), q_place hJ hn hF hv, zb_q, l2.1, F_isIn_nI (show rr (mkG n kd f0 f1 0) < 2 ^ 31 by omega) (show v < 31 by omega), zb_q, (po_ok hg).1]
    by_cases q : v ∈ po (mkG n kd f0 f1 0)
    · simp only [q, decide_true, if_true]
      rw [if_neg i10, zg_q hz8, l2.2.2.2.1 v q]
      exact ⟨_, rfl, rfl⟩
    · simp only [q, decide_false, if_false, Bool.false_eq_true, if_true]
      exact ⟨_, rfl, rfl⟩
  · rw [if_neg (by decide), if_neg (by decide), if_neg (by decide), if_neg (by decide), if_pos (by decide), if_neg (by decide), if_neg (by decide), if_neg (by decide), if_neg (by decide), if_pos (by decide), q_lord hg hJ hn hF hgn hv, zb_q, zg_q hz8, l2.2.2.2.2.2.1 v hv]
    exact ⟨_, rfl, rfl⟩
  · have hh : hd (mkG n kd f0 f1 0) < 2 ^ 8 := (wa_lt hg 16).1
    have e31 : τ' 0 31 = nI (hd (mkG n kd f0 f1 0)) := l2.2.2.2.2.2.2.2.2.2.1
    rw [if_neg (by decide), if_neg (by decide), if_neg (by decide), if_neg (by decide), if_neg (by decide), if_pos (by decide), if_neg (by decide), if_neg (by decide), if_neg (by decide), if_neg (by decide), if_neg (by decide), if_pos (by decide), q_head hg hJ hn hF hv, zb_q, e31, F_isIn_nI (show hd (mkG n kd f0 f1 0) < 2 ^ 31 by omega) (show v < 31 by omega), zb_q]
    cases (hd (mkG n kd f0 f1 0)).testBit v
    · exact ⟨0, rfl, rfl⟩
    · exact ⟨1, rfl, rfl⟩
  · have hh : mg (mkG n kd f0 f1 0) < 2 ^ 8 := (wa_lt hg 16).2.1
    have e32 : τ' 0 32 = nI (mg (mkG n kd f0 f1 0)) := l2.2.2.2.2.2.2.2.2.2.2
    rw [if_neg (by decide), if_neg (by decide), if_neg (by decide), if_neg (by decide), if_neg (by decide), if_neg (by decide), if_pos (by decide), if_neg (by decide), if_neg (by decide), if_neg (by decide), if_neg (by decide), if_neg (by decide), if_neg (by decide), if_pos (by decide), q_merge hg hJ hn hF hv, zb_q, e32, F_isIn_nI (show mg (mkG n kd f0 f1 0) < 2 ^ 31 by omega) (show v < 31 by omega), zb_q]
    cases (mg (mkG n kd f0 f1 0)).testBit v
    · exact ⟨0, rfl, rfl⟩
    · exact ⟨1, rfl, rfl⟩
  · rw [if_neg (by decide), if_neg (by decide), if_neg (by decide), if_neg (by decide), if_neg (by decide), if_neg (by decide), if_neg (by decide), if_pos (by decide), if_neg (by decide), if_neg (by decide), if_neg (by decide), if_neg (by decide), if_neg (by decide), if_neg (by decide), if_neg (by decide), if_pos (by decide), q_ruledBy hJ hn hF hv, zb_q, m_dominated hR.1 hn l2.2.2.2.2.1 (show v < 8 by omega), zb_q]
    exact ⟨_, rfl, rfl⟩
  · rw [if_neg (by decide), if_neg (by decide), if_neg (by decide), if_neg (by decide), if_neg (by decide), if_neg (by decide), if_neg (by decide), if_neg (by decide), if_pos (by decide), if_neg (by decide), if_neg (by decide), if_neg (by decide), if_neg (by decide), if_neg (by decide), if_neg (by decide), if_neg (by decide), if_neg (by decide), if_pos (by decide), c_sorts hS1 hSo (show v < 8 by omega), zb_q, m_sorts hS2 hSo (show v < 8 by omega), zb_q]
    exact ⟨_, rfl, rfl⟩
  · obtain ⟨r, e1, e2⟩ := ask_all (σ := σ) (τ := τ') (b := 19) hS1 hS2 hSo (show v < 8 by omega)
    rw [if_neg (by decide), if_neg (by decide), if_neg (by decide), if_neg (by decide), if_neg (by decide), if_neg (by decide), if_neg (by decide), if_neg (by decide), if_neg (by decide), if_pos (by decide), if_neg (by decide), if_neg (by decide), if_neg (by decide), if_neg (by decide), if_neg (by decide), if_neg (by decide), if_neg (by decide), if_neg (by decide), if_neg (by decide), e1, zb_q, e2, zb_q]
    exact ⟨_, rfl, rfl⟩
theorem op_node (h : Inv k σ τ) (x1 x2 : Int32) : ∃ r τ', F_X6_node σ x1 x2 = some r ∧ F_X7_node τ x1 x2 = some (r, τ') ∧ Inv (k + 1) σ τ' := by
  have hI := h
  obtain ⟨n, kd, f0, f1, s, nd, vs, dd, L, pg, K, m, r, a1, a2, a3, a4, a5, a6⟩ := h
  have hn := a1.1.1
  unfold F_X6_node F_X7_node
  rcases node_any a1 x1 with ⟨v, hv, rfl, h1, h2⟩ | ⟨h1, h2⟩
  · have h0 : 0 < n := by omega
    have hg := mkG_ok a1.1 0
    obtain ⟨hF, hSg⟩ := a1.2.2.2.1 h0
    obtain ⟨j1, j2, j3⟩ := a1.2.1.2 v hv
    obtain ⟨τ', l1, l2, l3, l4⟩ := F_layNow_eq a1.1 h0 a1.2.2.1
    have hR := a1.2.2.1.kp l4
    obtain ⟨t1, t2, t3⟩ := hR.2 v hv
    have hz8 := nq_zin1 (show v < 8 by omega) (by decide)
    have hgn : ∀ a, Rch (mkG n kd f0 f1 0) 99 a → a < n := fun a ha => Rch_n a1.1 h0 ha
    have hIn := hI.step l4
    have hS2 : SIs (τ' 0 7) (τ' 4) (τ' 5) (τ' 6) s nd vs dd := by
      rw [l4.2 7 (by omega), l4.1 4 (by omega), l4.1 5 (by omega), l4.1 6 (by omega)]; exact a2.2.1
    rw [h1, zb_q, if_neg i10, h2, zb_q, if_neg i10, within_eq, l1]
    by_cases hx : x2 < 0 ∨ 9 < x2
    · rw [if_pos hx, zb_q, if_pos rfl]
      have hne : ∀ c : Nat, c < 10 → x2 ≠ nI c := fun c hc z => by
        rw [z] at hx
        rcases hx with q | q
        · exact nI_pos (by omega) q
        · exact nI_nlt (b := c) (a := 9) (by omega) (by decide) q
      rw [if_neg (show ¬ x2 = 0 from hne 0 (by decide)), if_neg (show ¬ x2 = 1 from hne 1 (by decide)), if_neg (show ¬ x2 = 2 from hne 2 (by decide)), if_neg (show ¬ x2 = 3 from hne 3 (by decide)), if_neg (show ¬ x2 = 4 from hne 4 (by decide)), if_neg (show ¬ x2 = 5 from hne 5 (by decide)), if_neg (show ¬ x2 = 6 from hne 6 (by decide)), if_neg (show ¬ x2 = 7 from hne 7 (by decide)), if_neg (show ¬ x2 = 8 from hne 8 (by decide)), if_neg (show ¬ x2 = 9 from hne 9 (by decide))]
      exact ⟨_, _, rfl, rfl, hI.step (Kp.refl _)⟩
    · rw [if_neg hx, zb_q, if_neg i10, zb_q]
      obtain ⟨c, hc, rfl⟩ := nI_of2 (M := 9) (n := 9) rfl (fun z => hx (Or.inl z)) (by rw [← Int32.not_lt]; exact fun z => hx (Or.inr z))
      obtain ⟨r, e1, e2⟩ := nodeNow_eq a1.1 h0 a1.2.1 hF hR l2 a2.1 hS2 a2.2.2 hv hc
      unfold F_X6_node at e1
      rw [h1, zb_q, if_neg i10] at e1
      rw [e1, e2, zb_q]
      exact ⟨_, _, rfl, rfl, hIn⟩
  · rw [h1, zb_q, if_pos rfl, h2, zb_q, if_pos rfl]
    exact ⟨_, _, rfl, rfl, hI.step (Kp.refl _)⟩
end OP
