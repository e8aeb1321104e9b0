section OP4
variable {k : Nat} {σ τ : SF}
theorem op_letter (h : Inv k σ τ) (x1 : Int32) : ∃ r σ' τ', F_X6_letter σ x1 = some (r, σ') ∧ F_X7_letter τ x1 = some (r, τ') ∧ Inv (k + 1) σ' τ' := by
  have hI := h
  obtain ⟨n, kd, f0, f1, s, nd, vs, dd, L, pg, K, m, r, a1, a2, a3, a4, a5, a6⟩ := h
  obtain ⟨p1, p2, p3⟩ := a3
  have hL := p3.1
  unfold F_X6_letter F_X7_letter
  rw [within_eq]
  by_cases hx : x1 < 32 ∨ 126 < x1
  · rw [if_pos hx, zb_q, if_pos rfl]
    rcases hx with q | q
    · rw [if_pos q]; exact ⟨_, _, _, rfl, rfl, hI.step (Kp.refl _)⟩
    · have h1 : ¬ x1 ≤ 126 := by rw [Int32.not_le]; exact q
      rw [if_neg h1]
      split <;> exact ⟨_, _, _, rfl, rfl, hI.step (Kp.refl _)⟩
  · have hx0 : ¬ x1 < 32 := fun z => hx (Or.inl z)
    have hx1 : x1 ≤ 126 := by rw [← Int32.not_lt]; exact fun z => hx (Or.inr z)
    have hn0 : ¬ x1 < 0 := fun z => hx0 (Int32.lt_trans z (by decide))
    obtain ⟨c, hc, rfl⟩ := nI_of2 (M := 126) (n := 126) rfl hn0 hx1
    have hc32 : 32 ≤ c := by
      rcases Nat.lt_or_ge c 32 with q | q
      · exact absurd (show nI c < 32 from nI_lt (b := 32) q (by decide)) hx0
      · exact q
    rw [if_neg hx, zb_q, if_neg i10, if_neg hx0, if_pos hx1, p2.1]
    unfold F_X2_add
    rw [p1.1]
    by_cases h34 : L = 34
    · subst h34
      rw [if_neg (show ¬ nI 34 < 34 by decide), zb2_q, if_pos rfl, if_pos (show nI 34 = 34 from rfl)]
      exact ⟨_, _, _, rfl, rfl, hI.step (Kp.refl _)⟩
    · have hz := nq_zin1 (show L < 34 by omega) (by decide)
      have e1 : (zst σ 2 L (nI c)) 1 1 = nI L := p1.1
      have eb : vp_nar .byte ((nI c : Int32).toInt8.toInt32) = nI c := by
        rw [pk_vb]
        exact fb_byte (by rw [nI_toInt (by omega)]; omega) (by rw [nI_toInt (by omega)]; omega)
      have e2 : (zst τ 7 L (nI c)) 0 11 = nI L := p2.1
      rw [if_pos (show nI L < 34 from nI_lt (b := 34) (by omega) (by decide)), zg_q hz, zl_q, nI_clamp (by omega), e1, nI_1, zl_q, zb2_q, if_neg i10, if_neg (show ¬ nI L = 34 from fun z => h34 ((nI_eq (b := 34) (by omega) (by decide)).mp z)), zg_q hz, eb, zl_q, e2, nI_1, zl_q]
      refine ⟨nI (L + 1), _, _, rfl, rfl, n, kd, f0, f1, s, nd, vs, dd, L + 1, fun i => if i = L then c else pg i, K, m, r, a1.fr (fun c c1 c2 => by unfold zst zsr; simp [show c ≠ 1 by omega, show c ≠ 2 by omega]) rfl rfl rfl, a2.fr (fun c c1 c2 => by unfold zst zsr; simp [show c ≠ 1 by omega, show c ≠ 2 by omega]) rfl (fun c c1 c2 => by unfold zst zsr; simp [show c ≠ 0 by omega, show c ≠ 7 by omega]), ⟨⟨rfl, fun i hi => ?_⟩, ⟨rfl, fun i hi => ?_⟩, by omega, fun i hi => ?_⟩, a4.fr rfl rfl rfl rfl, a5.fr (by omega) rfl rfl rfl rfl, a6.fr rfl (fun c c1 c2 => by unfold zst zsr; simp [show c ≠ 1 by omega, show c ≠ 2 by omega]) rfl rfl rfl (fun c c1 c2 => by unfold zst zsr; simp [show c ≠ 0 by omega, show c ≠ 7 by omega])⟩
      · show upd (σ 2) L (nI c) i = nI (if i = L then c else pg i)
        unfold upd
        by_cases q : i = L
        · rw [if_pos q, if_pos q]
        · rw [if_neg q, if_neg q]; exact p1.2 i (by omega)
      · show upd (τ 7) L (nI c) i = nI (if i = L then c else pg i)
        unfold upd
        by_cases q : i = L
        · rw [if_pos q, if_pos q]
        · rw [if_neg q, if_neg q]; exact p2.2 i (by omega)
      · show 32 ≤ (if i = L then c else pg i) ∧ (if i = L then c else pg i) < 127
        by_cases q : i = L
        · rw [if_pos q]; omega
        · rw [if_neg q]; exact p3.2 i (by omega)
theorem op_see (h : Inv k σ τ) (x1 x2 x3 : Int32) : ∃ r σ' τ', F_X6_see σ x1 x2 x3 = some (r, σ') ∧ F_X7_see τ x1 x2 x3 = some (r, τ') ∧ Inv (k + 1) σ' τ' := by
  have hI := h
  obtain ⟨n, kd, f0, f1, s, nd, vs, dd, L, pg, K, m, r, a1, a2, a3, a4, a5, a6⟩ := h
  have hn := a1.1.1
  obtain ⟨s1, s2, s3⟩ := a2
  have hs6 := s3.1
  unfold F_X6_see F_X7_see
  rcases node_any a1 x1 with ⟨v, hv, rfl, h1, h2⟩ | ⟨h1, h2⟩
  · rw [h1, zb_q, if_neg i10, h2, zb_q, if_neg i10, within_eq, within_eq]
    by_cases q1 : x2 < 1
    · rw [if_pos q1, if_pos (Or.inl q1), zb_q, if_pos rfl]
      exact ⟨_, _, _, rfl, rfl, hI.step (Kp.refl _)⟩
    · by_cases q2 : 3 < x2
      · rw [if_neg q1, if_pos q2, if_pos (Or.inr q2), zb_q, if_pos rfl]
        exact ⟨_, _, _, rfl, rfl, hI.step (Kp.refl _)⟩
      · rw [if_neg q1, if_neg q2, if_neg (show ¬ (x2 < 1 ∨ 3 < x2) from fun z => z.elim q1 q2), zb_q, if_neg i10]
        by_cases q3 : x3 < 0
        · rw [if_pos q3, if_pos (Or.inl q3), zb_q, if_pos rfl]
          exact ⟨_, _, _, rfl, rfl, hI.step (Kp.refl _)⟩
        · by_cases q4 : 2 < x3
          · have q4' : ¬ x3 ≤ 2 := by rw [Int32.not_le]; exact q4
            rw [if_neg q3, if_neg q4', if_pos (Or.inr q4), zb_q, if_pos rfl]
            exact ⟨_, _, _, rfl, rfl, hI.step (Kp.refl _)⟩
          · have q4' : x3 ≤ 2 := by rw [← Int32.not_lt]; exact q4
            rw [if_neg q3, if_pos q4', if_neg (show ¬ (x3 < 0 ∨ 2 < x3) from fun z => z.elim q3 q4), zb_q, if_neg i10]
            obtain ⟨a, ha, rfl⟩ := nI_of2 (M := 3) (n := 3) rfl (fun z => q1 (Int32.lt_trans z (by decide))) (by rw [← Int32.not_lt]; exact q2)
            obtain ⟨b, hb, rfl⟩ := nI_of2 (M := 2) (n := 2) rfl q3 q4'
            have ha1 : 1 ≤ a := by
              rcases Nat.lt_or_ge a 1 with q | q
              · exact absurd (show nI a < 1 from nI_lt (b := 1) q (by decide)) q1
              · exact q
            unfold F_X3_add
            rw [s1.1, s2.1]
            by_cases h6 : s = 6
            · subst h6
              rw [if_neg (show ¬ nI 6 < 6 by decide), zb2_q, if_pos rfl, if_pos (show nI 6 = 6 from rfl)]
              exact ⟨_, _, _, rfl, rfl, hI.step (Kp.refl _)⟩
            · have hz := nq_zin1 (show s < 6 by omega) (by decide)
              have c1 : (zst σ (19 + 1) s (nI v)) 19 0 = nI s := s1.1
              have c2 : (zst (zst σ (19 + 1) s (nI v)) (19 + 2) s (nI a)) 19 0 = nI s := s1.1
              have c3 : (zst (zst (zst σ (19 + 1) s (nI v)) (19 + 2) s (nI a)) (19 + 3) s (nI b)) 19 0 = nI s := s1.1
              have d1 : (zst τ 4 s (nI v)) 0 7 = nI s := s2.1
              have d2 : (zst (zst τ 4 s (nI v)) 5 s (nI a)) 0 7 = nI s := s2.1
              have d3 : (zst (zst (zst τ 4 s (nI v)) 5 s (nI a)) 6 s (nI b)) 0 7 = nI s := s2.1
              rw [if_pos (show nI s < 6 from nI_lt (b := 6) (by omega) (by decide)), zg_q hz, zl_q, nI_clamp (by omega), c1, zg_q hz, zl_q, nI_clamp (by omega), c2, zg_q hz, zl_q, nI_clamp (by omega), c3, nI_1, zl_q, zb2_q, if_neg i10, if_neg (show ¬ nI s = 6 from fun z => h6 ((nI_eq (b := 6) (by omega) (by decide)).mp z)), zg_q hz, zl_q, d1, zg_q hz, zl_q, nI_clamp (by omega), d2, zg_q hz, zl_q, nI_clamp (by omega), d3, nI_1, zl_q]
              refine ⟨nI (s + 1), _, _, rfl, rfl, n, kd, f0, f1, s + 1, (fun i => if i = s then v else nd i), (fun i => if i = s then a else vs i), (fun i => if i = s then b else dd i), L, pg, K, m, r, a1.fr (fun c c1 c2 => by unfold zst zsr; simp [show c ≠ 19 by omega, show c ≠ 20 by omega, show c ≠ 21 by omega, show c ≠ 22 by omega]) rfl rfl rfl, ⟨⟨rfl, fun i hi => ?_⟩, ⟨rfl, fun i hi => ?_⟩, by omega, fun i hi => ?_⟩, a3.fr rfl rfl rfl rfl, a4.fr rfl rfl rfl rfl, a5.fr (by omega) rfl rfl rfl rfl, a6.fr rfl (fun c c1 c2 => by unfold zst zsr; simp [show c ≠ 19 by omega, show c ≠ 20 by omega, show c ≠ 21 by omega, show c ≠ 22 by omega]) rfl rfl rfl (fun c c1 c2 => by unfold zst zsr; simp [show c ≠ 0 by omega, show c ≠ 4 by omega, show c ≠ 5 by omega, show c ≠ 6 by omega])⟩
              · show upd (σ 20) s (nI v) i = _ ∧ upd (σ 21) s (nI a) i = _ ∧ upd (σ 22) s (nI b) i = _
                unfold upd
                by_cases q : i = s
                · simp [q]
                · simp only [if_neg q]; exact s1.2 i (by omega)
              · show upd (τ 4) s (nI v) i = _ ∧ upd (τ 5) s (nI a) i = _ ∧ upd (τ 6) s (nI b) i = _
                unfold upd
                by_cases q : i = s
                · simp [q]
                · simp only [if_neg q]; exact s2.2 i (by omega)
              · by_cases q : i = s
                · simp only [if_pos q]; omega
                · simp only [if_neg q]; exact s3.2 i (by omega)
  · rw [h1, zb_q, if_pos rfl, h2, zb_q, if_pos rfl]
    exact ⟨_, _, _, rfl, rfl, hI.step (Kp.refl _)⟩
theorem Inv.cpK {σ' τ' : SF} (h : Inv k σ τ) (hc : cpK σ σ') (hK : Kp τ τ') : Inv (k + 1) σ' τ' := by
  obtain ⟨n, kd, f0, f1, s, nd, vs, dd, L, pg, K, m, r, a1, a2, a3, a4, a5, a6⟩ := h
  have hS : ∀ c, c ≠ 1 → c < 31 → σ' c = σ c := fun c h1 h2 => hc.1 c h1 (by omega) (by omega) (by omega) (by omega)
  refine ⟨n, kd, f0, f1, s, nd, vs, dd, L, pg, K, m, r, a1.fr (fun c _ _ => hS c (by omega) (by omega)) (hK.2 1 (by omega)) (hK.1 1 (by omega)) (hK.1 2 (by omega)), a2.fr (fun c _ _ => hS c (by omega) (by omega)) (hK.2 7 (by omega)) (fun c _ _ => hK.1 c (by omega)), a3.fr (hc.2 1 (by decide) (by decide)) (hS 2 (by decide) (by decide)) (hK.2 11 (by omega)) (hK.1 7 (by omega)), a4.fr (by rw [hS 16 (by decide) (by decide)]) (hS 17 (by decide) (by decide)) (hK.2 4 (by omega)) (hK.1 3 (by omega)), a5.fr (by omega) (by rw [hS 0 (by decide) (by decide)]) (by rw [hS 0 (by decide) (by decide)]) (hK.2 6 (by omega)) (hK.2 0 (by omega)), a6.fr (by rw [hS 0 (by decide) (by decide)]) (fun c _ _ => hS c (by omega) (by omega)) (hK.2 46 (by omega)) (hK.2 47 (by omega)) (hK.2 48 (by omega)) (fun c _ _ => hK.1 c (by omega))⟩
theorem op_fault (h : Inv k σ τ) : ∃ r σ' τ', F_X6_fault σ = some (r, σ') ∧ F_X7_fault τ = some (r, τ') ∧ Inv (k + 1) σ' τ' := by
  have hI := h
  obtain ⟨n, kd, f0, f1, s, nd, vs, dd, L, pg, K, m, r, a1, a2, a3, a4, a5, a6⟩ := h
  obtain ⟨r, σ', τ', h1, h2, h3, h4, h5, h6⟩ := read_ok a3.1 a3.2.1 a3.2.2
  unfold F_X6_fault F_X7_fault
  rw [h2, zb2_q, h3, zb2_q]
  exact ⟨_, _, _, rfl, rfl, hI.cpK h4 h5⟩
/-! copies in the reference -/
theorem g36_loop {τ : SF} {n : Nat} (ho : τ 0 1 = nI n) (hn : n ≤ 8) : ∀ (m N i : Nat) (a b : Nat → Int32), i + m = n → m < N → L_X7_graph_36 N (nI i) (r2 τ 1 2 a b) = some (nI n, r2 τ 1 2 (rfrom (τ 8) a i n) (rfrom (τ 9) b (2 * i) (2 * n))) := by
  intro m
  induction m with
  | zero =>
    intro N i a b hi hN
    obtain ⟨N, rfl⟩ : ∃ K, N = K + 1 := ⟨N - 1, by omega⟩
    have : i = n := by omega
    subst this
    unfold L_X7_graph_36
    rw [r2_o (by decide) (by decide), ho, if_pos (nI_le (Nat.le_refl _) (by omega)), rfrom_end (Nat.le_refl _), rfrom_end (Nat.le_refl _)]
  | succ m ih =>
    intro N i a b hi hN
    obtain ⟨N, rfl⟩ : ∃ K, N = K + 1 := ⟨N - 1, by omega⟩
    have h8 := nq_zin1 (show i < 8 by omega) (by decide)
    have h16 := nq_zin1 (show 2 * i < 16 by omega) (by decide)
    have h17 := nq_zin1 (show 2 * i + 1 < 16 by omega) (by decide)
    unfold L_X7_graph_36
    rw [r2_o (by decide) (by decide), ho, if_neg (nI_ge (by omega) (by omega)), nI_2k, nI_1, zg_q h8, zg_q h8, zl_q, zl_q, zg_q h16, zg_q h16, zl_q, zl_q, zg_q h17, zg_q h17, zl_q, zl_q, nI_clamp (by omega), nI_clamp (by omega), nI_clamp (by omega), r2_o (c := 8) (by decide) (by decide), r2_sp (by decide), r2_o (c := 9) (by decide) (by decide), r2_sq, r2_o (c := 9) (by decide) (by decide), r2_sq, nI_1, ih N (i + 1) _ _ (by omega) (by omega), rfrom_step (by omega)]
    have e1 : 2 * (i + 1) = 2 * i + 1 + 1 := by omega
    rw [e1, rfrom_step (by omega), rfrom_step (by omega)]
end OP4
