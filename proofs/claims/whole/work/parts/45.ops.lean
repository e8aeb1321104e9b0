theorem rng_any {N : Nat} (hN : N < 2 ^ 31) (x : Int32) : (∃ i, i < N ∧ x = nI i ∧ ¬ x < 0 ∧ ¬ nI N ≤ x ∧ F_X7_within x 0 (nI N - 1) = some 1) ∨ ((x < 0 ∨ nI N ≤ x) ∧ F_X7_within x 0 (nI N - 1) = some 0) := by
  rw [within_eq]
  by_cases q0 : x < 0
  · exact Or.inr ⟨Or.inl q0, if_pos (Or.inl q0)⟩
  · obtain ⟨j, j1, rfl⟩ := nI_of q0
    by_cases q : j < N
    · left
      have e : nI N - 1 = nI (N - 1) := by rw [nl_1, pk_sub (by omega)]
      refine ⟨j, q, rfl, q0, nI_ge q hN, ?_⟩
      rw [e, if_neg (fun z => z.elim (nI_pos (by omega)) (nI_nlt (by omega) (by omega)))]
    · right
      refine ⟨Or.inr (nI_le (by omega) j1), if_pos (Or.inr ?_)⟩
      by_cases z : N = 0
      · subst z
        have e : nI 0 - 1 = -1 := by decide
        rw [e, Int32.lt_iff_toInt_lt, nI_toInt j1]
        have : (-1 : Int32).toInt = -1 := rfl
        omega
      · have e : nI N - 1 = nI (N - 1) := by rw [nl_1, pk_sub (by omega)]
        rw [e]
        exact nI_lt (by omega) j1
theorem end_any (x : Int32) : (∃ c, c < 2 ∧ x = nI c ∧ F_X6_isEnd x = some 1 ∧ F_X7_within x 0 1 = some 1) ∨ (F_X6_isEnd x = some 0 ∧ F_X7_within x 0 1 = some 0) := by
  rw [within_eq]
  by_cases hx : x < 0 ∨ 1 < x
  · right
    have hne : ∀ c : Nat, c < 2 → x ≠ nI c := fun c hc z => by
      rw [z] at hx
      rcases hx with q | q
      · exact nI_pos (by omega) q
      · exact nI_nlt (b := c) (a := 1) (by omega) (by decide) q
    refine ⟨?_, if_pos hx⟩
    unfold F_X6_isEnd
    rw [if_neg (show ¬ x = 0 from hne 0 (by decide)), if_neg (show ¬ x = 1 from hne 1 (by decide))]
  · left
    obtain ⟨c, hc, rfl⟩ := nI_of2 (M := 1) (n := 1) rfl (fun z => hx (Or.inl z)) (by rw [← Int32.not_lt]; exact fun z => hx (Or.inr z))
    refine ⟨c, by omega, rfl, ?_, if_neg hx⟩
    rcases (show c = 0 ∨ c = 1 by omega) with rfl | rfl <;> rfl
theorem kind_any (x : Int32) : (∃ c, c < 5 ∧ x = nI c ∧ F_X6_isKind x = some 1 ∧ F_X7_within x 0 4 = some 1) ∨ (F_X6_isKind x = some 0 ∧ F_X7_within x 0 4 = some 0) := by
  rw [within_eq]
  by_cases hx : x < 0 ∨ 4 < x
  · right
    refine ⟨?_, if_pos hx⟩
    unfold F_X6_isKind
    rcases hx with q | q
    · rw [if_pos q]
    · have h5 : (5 : Int32) ≤ x := by
        rw [Int32.lt_iff_toInt_lt] at q
        rw [Int32.le_iff_toInt_le]
        have e4 : (4 : Int32).toInt = 4 := rfl
        have e5 : (5 : Int32).toInt = 5 := rfl
        omega
      split
      · rfl
      · rfl
  · left
    obtain ⟨c, hc, rfl⟩ := nI_of2 (M := 4) (n := 4) rfl (fun z => hx (Or.inl z)) (by rw [← Int32.not_lt]; exact fun z => hx (Or.inr z))
    exact ⟨c, by omega, rfl, isKind_in (by omega), if_neg hx⟩
section OP2
variable {k : Nat} {σ τ : SF}
theorem op_as (h : Inv k σ τ) (x1 x2 : Int32) : ∃ r, F_X6_as σ x1 x2 = some r ∧ F_X7_as τ x1 x2 = some r ∧ Inv (k + 1) σ τ := by
  have hI := h.step (Kp.refl _)
  obtain ⟨n, kd, f0, f1, s, nd, vs, dd, L, pg, K, m, r, a1, a2, a3, a4, a5, a6⟩ := h
  have hn := a1.1.1
  unfold F_X6_as F_X7_as
  rcases node_any a1 x1 with ⟨v, hv, rfl, h1, h2⟩ | ⟨h1, h2⟩
  · rw [h1, zb_q, if_neg i10, h2, zb_q, if_neg i10]
    rcases kind_any x2 with ⟨c, hc, rfl, g1, g2⟩ | ⟨g1, g2⟩
    · have hz := nq_zin1 (show v < 8 by omega) (by decide)
      have h5 := (a1.1.2 v hv).1
      rw [g1, zb_q, if_neg i10, g2, zb_q, if_neg i10, zg_q hz, zg_q hz, zl_q, zl_q, nI_clamp (by omega), (a1.2.1.2 v hv).1, (a1.2.2.1.2 v hv).1]
      refine ⟨if nI c = nI (kd v) ∨ nI c = 0 ∨ (nI c = 3 ∧ nI (kd v) = 4) then nI v else -1, ?_, ?_, hI⟩
      · by_cases b1 : nI c = nI (kd v)
        · rw [if_pos b1, if_pos (Or.inl b1)]
        · by_cases b2 : nI c = 0
          · rw [if_neg b1, if_pos b2, if_pos (Or.inr (Or.inl b2))]
          · by_cases b3 : nI c = 3
            · by_cases b4 : nI (kd v) = 4
              · rw [if_neg b1, if_neg b2, if_pos b3, if_pos b4, if_pos (Or.inr (Or.inr ⟨b3, b4⟩))]
              · rw [if_neg b1, if_neg b2, if_pos b3, if_neg b4, if_neg (fun z => z.elim b1 (fun z => z.elim b2 (fun z => b4 z.2)))]
            · rw [if_neg b1, if_neg b2, if_neg b3, if_neg (fun z => z.elim b1 (fun z => z.elim b2 (fun z => b3 z.1)))]
      · by_cases b2 : nI c = 0
        · rw [if_pos b2, if_pos (Or.inr (Or.inl b2))]
        · by_cases b1 : nI c = nI (kd v)
          · rw [if_neg b2, if_pos b1.symm, if_pos (Or.inl b1)]
          · by_cases b3 : nI c = 3
            · by_cases b4 : nI (kd v) = 4
              · rw [if_neg b2, if_neg (fun z => b1 z.symm), if_pos b3, if_pos b4, if_pos (Or.inr (Or.inr ⟨b3, b4⟩))]
              · rw [if_neg b2, if_neg (fun z => b1 z.symm), if_pos b3, if_neg b4, if_neg (fun z => z.elim b1 (fun z => z.elim b2 (fun z => b4 z.2)))]
            · rw [if_neg b2, if_neg (fun z => b1 z.symm), if_neg b3, if_neg (fun z => z.elim b1 (fun z => z.elim b2 (fun z => b3 z.1)))]
    · rw [g1, zb_q, if_pos rfl, g2, zb_q, if_pos rfl]
      exact ⟨_, rfl, rfl, hI⟩
  · rw [h1, zb_q, if_pos rfl, h2, zb_q, if_pos rfl]
    exact ⟨_, rfl, rfl, hI⟩
theorem op_dominates (h : Inv k σ τ) (x1 x2 : Int32) : ∃ r τ', F_X6_dominates σ x1 x2 = some r ∧ F_X7_dominates τ x1 x2 = some (r, τ') ∧ Inv (k + 1) σ τ' := by
  have hI := h
  obtain ⟨n, kd, f0, f1, s, nd, vs, dd, L, pg, K, m, r, a1, a2, a3, a4, a5, a6⟩ := h
  have hn := a1.1.1
  unfold F_X6_dominates F_X7_dominates
  rcases node_any a1 x1 with ⟨v, hv, rfl, h1, h2⟩ | ⟨h1, h2⟩
  · rw [h1, zb_q, if_neg i10, h2, zb_q, if_neg i10]
    rcases node_any a1 x2 with ⟨w, hw, rfl, g1, g2⟩ | ⟨g1, g2⟩
    · have h0 : 0 < n := by omega
      obtain ⟨hF, hSg⟩ := a1.2.2.2.1 h0
      obtain ⟨τ', l1, l2, l3, l4⟩ := F_layNow_eq a1.1 h0 a1.2.2.1
      have hk := dk_lt (mkG n kd f0 f1 0) w
      rw [g1, zb_q, if_neg i10, g2, zb_q, if_neg i10, q_rules a1.2.1 hn hF hv hw, zb_q, l1, zb_q, zg_q (nq_zin1 (show w < 8 by omega) (by decide)), nI_clamp (by omega), l2.2.2.2.2.1 w hw, F_isIn_nI (show dk (mkG n kd f0 f1 0) w < 2 ^ 31 by omega) (show v < 31 by omega), zb_q]
      cases (dk (mkG n kd f0 f1 0) w).testBit v
      · exact ⟨0, τ', rfl, rfl, hI.step l4⟩
      · exact ⟨1, τ', rfl, rfl, hI.step l4⟩
    · rw [g1, zb_q, if_pos rfl, g2, zb_q, if_pos rfl]
      exact ⟨_, _, rfl, rfl, hI.step (Kp.refl _)⟩
  · rw [h1, zb_q, if_pos rfl, h2, zb_q, if_pos rfl]
    exact ⟨_, _, rfl, rfl, hI.step (Kp.refl _)⟩
theorem op_edge (h : Inv k σ τ) (x1 x2 : Int32) : ∃ r τ', F_X6_edge σ x1 x2 = some r ∧ F_X7_edge τ x1 x2 = some (r, τ') ∧ Inv (k + 1) σ τ' := by
  have hI := h
  obtain ⟨n, kd, f0, f1, s, nd, vs, dd, L, pg, K, m, r, a1, a2, a3, a4, a5, a6⟩ := h
  have hn := a1.1.1
  unfold F_X6_edge F_X7_edge
  rcases node_any a1 x1 with ⟨v, hv, rfl, h1, h2⟩ | ⟨h1, h2⟩
  · rw [h1, zb_q, if_neg i10, h2, zb_q, if_neg i10]
    rcases end_any x2 with ⟨c, hc, rfl, g1, g2⟩ | ⟨g1, g2⟩
    · have h0 : 0 < n := by omega
      obtain ⟨hF, hSg⟩ := a1.2.2.2.1 h0
      obtain ⟨τ', l1, l2, l3, l4⟩ := F_layNow_eq a1.1 h0 a1.2.2.1
      have e1 : (2 : Int32) * nI v + nI c = nI (2 * v + c) := by rw [nI_2k, nI_add]
      rw [g1, zb_q, if_neg i10, g2, zb_q, if_neg i10, q_state a1.2.1 hn hF hv hc, zb_q, l1, zb_q, e1, m_edge a1.1 l2 l3 (by omega), zb_q]
      exact ⟨_, _, rfl, rfl, hI.step l4⟩
    · rw [g1, zb_q, if_pos rfl, g2, zb_q, if_pos rfl]
      exact ⟨_, _, rfl, rfl, hI.step (Kp.refl _)⟩
  · rw [h1, zb_q, if_pos rfl, h2, zb_q, if_pos rfl]
    exact ⟨_, _, rfl, rfl, hI.step (Kp.refl _)⟩
theorem op_visit (h : Inv k σ τ) (x1 : Int32) : ∃ r, F_X6_visit σ x1 = some r ∧ F_X7_visit τ x1 = some r ∧ Inv (k + 1) σ τ := by
  have hI := h.step (Kp.refl _)
  obtain ⟨n, kd, f0, f1, s, nd, vs, dd, L, pg, K, m, r, a1, a2, a3, a4, a5, a6⟩ := h
  obtain ⟨k1, k2, k3, k4⟩ := a4
  unfold F_X6_visit F_X7_visit
  rw [k2, k3]
  rcases rng_any (show K < 2 ^ 31 by omega) x1 with ⟨i, hi, rfl, h1, h2, h3⟩ | ⟨h1, h2⟩
  · have hz := nq_zin1 (show i < 30 by omega) (by decide)
    rw [if_neg h1, if_neg h2, h3, zb_q, if_neg i10, zg_q hz, zg_q hz, nI_clamp (by omega), k4 i hi]
    exact ⟨_, rfl, rfl, hI⟩
  · rw [h2, zb_q, if_pos rfl]
    by_cases q : x1 < 0
    · rw [if_pos q]; exact ⟨_, rfl, rfl, hI⟩
    · rw [if_neg q, if_pos (h1.elim (fun z => absurd z q) id)]; exact ⟨_, rfl, rfl, hI⟩
theorem op_walk (h : Inv k σ τ) (x1 : Int32) : ∃ r σ' τ', F_X6_walk σ x1 = some (r, σ') ∧ F_X7_walk τ x1 = some (r, τ') ∧ Inv (k + 1) σ' τ' := by
  have hI := h
  obtain ⟨n, kd, f0, f1, s, nd, vs, dd, L, pg, K, m, r, a1, a2, a3, a4, a5, a6⟩ := h
  have hn := a1.1.1
  unfold F_X6_walk F_X7_walk
  rw [a1.2.1.1, a1.2.2.1.1]
  by_cases q : 0 ≤ x1
  · rw [if_pos q, if_pos q]
    by_cases z : n = 0
    · subst z
      rw [if_pos (show nI 0 = 0 from rfl), if_pos (show nI 0 = 0 from rfl)]
      exact ⟨_, _, _, rfl, rfl, hI.step (Kp.refl _)⟩
    · rw [if_neg (nI_ne0 (by omega) (by omega)), if_neg (nI_ne0 (by omega) (by omega))]
      obtain ⟨K', P, Q, P', Q', h1, h2, h3, h4⟩ := walk_ok a1.1 (by omega) a1.2.1 a1.2.2.1 x1
      rw [h1, zb_q, h2, zb2_q]
      refine ⟨nI K', _, _, rfl, rfl, n, kd, f0, f1, s, nd, vs, dd, L, pg, K', m, r, ?_, ?_, ?_, ?_, ?_, ?_⟩
      · exact a1.fr (fun c c1 c2 => by unfold cw; simp [show c ≠ 16 by omega, show c ≠ 17 by omega, show c ≠ 18 by omega]) rfl rfl rfl
      · exact a2.fr (fun c c1 c2 => by unfold cw; simp [show c ≠ 16 by omega, show c ≠ 17 by omega, show c ≠ 18 by omega]) rfl (fun c c1 c2 => by unfold mw; simp [show c ≠ 0 by omega, show c ≠ 3 by omega, show c ≠ 18 by omega])
      · exact a3.fr rfl rfl rfl rfl
      · exact ⟨h3, rfl, rfl, h4⟩
      · exact a5.fr (by omega) rfl rfl rfl rfl
      · exact a6.fr rfl (fun c c1 c2 => by unfold cw; simp [show c ≠ 16 by omega, show c ≠ 17 by omega, show c ≠ 18 by omega]) rfl rfl rfl (fun c c1 c2 => by unfold mw; simp [show c ≠ 0 by omega, show c ≠ 3 by omega, show c ≠ 18 by omega])
  · rw [if_neg q, if_neg q]
    exact ⟨_, _, _, rfl, rfl, hI.step (Kp.refl _)⟩
theorem STK.at {row : Nat → Int32} {l : List Nat} (h : STK row l) {i : Nat} (hi : i < l.length) : row i = nI (l[l.length - 1 - i]'(by omega)) := by
  have := h (l.length - 1 - i) (by omega)
  rw [show l.length - 1 - (l.length - 1 - i) = i by omega] at this
  exact this
theorem op_sign (h : Inv k σ τ) (x1 : Int32) : ∃ r τ', F_X6_sign σ x1 = some r ∧ F_X7_sign τ x1 = some (r, τ') ∧ Inv (k + 1) σ τ' := by
  have hI := h
  obtain ⟨n, kd, f0, f1, s, nd, vs, dd, L, pg, K, m, r, a1, a2, a3, a4, a5, a6⟩ := h
  have hn := a1.1.1
  unfold F_X6_sign F_X7_sign
  rw [a1.2.2.1.1]
  by_cases z : n = 0
  · subst z
    have e : σ 13 3 = 0 := (a1.2.2.2.2 rfl).2.2.2.2.2.2
    rw [if_pos (show nI 0 = 0 from rfl), e]
    by_cases q : x1 < 0
    · rw [if_pos q]; exact ⟨_, _, rfl, rfl, hI.step (Kp.refl _)⟩
    · rw [if_neg q, if_pos (by rw [← Int32.not_lt]; exact q)]; exact ⟨_, _, rfl, rfl, hI.step (Kp.refl _)⟩
  · obtain ⟨hF, hSg⟩ := a1.2.2.2.1 (by omega)
    obtain ⟨τ0, τ', h1, h2, h3, h4⟩ := m_fold a1.1 (by omega) a1.2.2.1
    have hl := hSg.2.2.2.2.2
    have e36 : τ' 0 36 = nI (FT (mkG n kd f0 f1 0) kd).1.length := h3.2.2.1
    have e19 := h3.2.2.2.2.2.2.2.2.1
    rw [if_neg (nI_ne0 (by omega) (by omega)), h1, zb_q, e36, hSg.1]
    rcases rng_any (show (FT (mkG n kd f0 f1 0) kd).1.length < 2 ^ 31 by omega) x1 with ⟨i, hi, rfl, g1, g2, g3⟩ | ⟨g1, g2⟩
    · rw [if_neg g1, if_neg g2, g3, zb_q, if_neg i10, zg_q (nq_zin1 (show i < 72 by omega) (by decide)), zg_q (nq_zin1 (show i < 128 by omega) (by decide)), nI_clamp (by omega), hSg.2.2.2.2.1.at hi, e19.at hi]
      exact ⟨_, _, rfl, rfl, hI.step h4⟩
    · rw [g2, zb_q, if_pos rfl]
      by_cases q : x1 < 0
      · rw [if_pos q]; exact ⟨_, _, rfl, rfl, hI.step h4⟩
      · rw [if_neg q, if_pos (g1.elim (fun z => absurd z q) id)]; exact ⟨_, _, rfl, rfl, hI.step h4⟩
end OP2
