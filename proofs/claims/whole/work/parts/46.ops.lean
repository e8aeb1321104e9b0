section OP3
variable {k : Nat} {σ τ : SF}
/-- what the reference tells of a fold -/
theorem foldNow_eq {n : Nat} {kd f0 f1 : Nat → Nat} {τ0 τ' : SF} (hw : gwf n kd f0 f1) (hL : ML τ0 n kd f0 f1) (hM : MS τ0 [] (FT (mkG n kd f0 f1 0) kd) τ') {c : Nat} (hc : c < 4) : F_X7_foldNow τ' (nI c) = some (if bd (mkG n kd f0 f1 0) = 0 then (if c = 0 then nI (FT (mkG n kd f0 f1 0) kd).1.length else if c = 1 then nI (FT (mkG n kd f0 f1 0) kd).2.1 else if c = 2 then nI (FT (mkG n kd f0 f1 0) kd).2.2.1 else nI (FT (mkG n kd f0 f1 0) kd).2.2.2.1) else -1) := by
  have e30 : τ' 0 30 = nI (bd (mkG n kd f0 f1 0)) := (hM.2.1 30 (by unfold wk; decide)).trans hL.2.2.2.2.2.2.2.2.2.1
  have hb16 : bd (mkG n kd f0 f1 0) ≤ 16 := (wa_ct _ 16).2.2
  have e36 : τ' 0 36 = nI (FT (mkG n kd f0 f1 0) kd).1.length := hM.2.2.1
  have e37 : τ' 0 37 = nI (FT (mkG n kd f0 f1 0) kd).2.1 := hM.2.2.2.1
  have e38 : τ' 0 38 = nI (FT (mkG n kd f0 f1 0) kd).2.2.1 := hM.2.2.2.2.1
  have e39 : τ' 0 39 = nI (FT (mkG n kd f0 f1 0) kd).2.2.2.1 := hM.2.2.2.2.2.1
  unfold F_X7_foldNow
  rw [e30, e36, e37, e38, e39]
  by_cases hb : bd (mkG n kd f0 f1 0) = 0
  · rw [if_pos (by rw [hb]; decide), if_pos hb]
    rcases (show c = 0 ∨ c = 1 ∨ c = 2 ∨ c = 3 by omega) with rfl | rfl | rfl | rfl <;> rfl
  · rw [if_neg (nI_nle (by omega) (by omega)), if_neg hb]
theorem c_fold {n : Nat} {kd f0 f1 : Nat → Nat} (hw : gwf n kd f0 f1) (h0 : 0 < n) (hJ : JIs σ 3 n kd f0 f1) (hF : FlowIs σ 3 (mkG n kd f0 f1 0)) (hS : SGs σ (FT (mkG n kd f0 f1 0) kd)) {c : Nat} (hc : c < 4) : F_X6_fold σ (nI c) = some (if bd (mkG n kd f0 f1 0) = 0 then (if c = 0 then nI (FT (mkG n kd f0 f1 0) kd).1.length else if c = 1 then nI (FT (mkG n kd f0 f1 0) kd).2.1 else if c = 2 then nI (FT (mkG n kd f0 f1 0) kd).2.2.1 else nI (FT (mkG n kd f0 f1 0) kd).2.2.2.1) else -1) := by
  have hn := hw.1
  unfold F_X6_fold
  rw [if_neg (nI_pos (by omega)), if_pos (show nI c < 4 from nI_lt (b := 4) hc (by decide)), hJ.1, if_neg (nI_ne0 h0 (by omega)), q_folds (mkG_ok hw 0) hF, zb_q, hS.1, hS.2.1, hS.2.2.1, hS.2.2.2.1]
  by_cases hb : bd (mkG n kd f0 f1 0) = 0
  · rw [if_pos hb, if_neg i10, if_pos hb]
    rcases (show c = 0 ∨ c = 1 ∨ c = 2 ∨ c = 3 by omega) with rfl | rfl | rfl | rfl <;> rfl
  · rw [if_neg hb, if_pos rfl, if_neg hb]
theorem op_fold (h : Inv k σ τ) (x1 : Int32) : ∃ r τ', F_X6_fold σ x1 = some r ∧ F_X7_fold τ x1 = some (r, τ') ∧ Inv (k + 1) σ τ' := by
  have hI := h
  obtain ⟨n, kd, f0, f1, s, nd, vs, dd, L, pg, K, m, r, a1, a2, a3, a4, a5, a6⟩ := h
  have hn := a1.1.1
  by_cases hx : x1 < 0 ∨ 3 < x1
  · refine ⟨-102, τ, ?_, ?_, hI.step (Kp.refl _)⟩
    · unfold F_X6_fold
      rcases hx with q | q
      · rw [if_pos q]
      · have h4 : ¬ x1 < 4 := by
          rw [Int32.lt_iff_toInt_lt] at q ⊢
          have e3 : (3 : Int32).toInt = 3 := rfl
          have e4 : (4 : Int32).toInt = 4 := rfl
          omega
        rw [if_neg h4]
        split <;> rfl
    · unfold F_X7_fold
      rw [within_eq, if_pos hx, zb_q, if_pos rfl]
  · obtain ⟨c, hc, rfl⟩ := nI_of2 (M := 3) (n := 3) rfl (fun z => hx (Or.inl z)) (by rw [← Int32.not_lt]; exact fun z => hx (Or.inr z))
    unfold F_X7_fold
    rw [within_eq, if_neg hx, zb_q, if_neg i10, a1.2.2.1.1]
    by_cases z : n = 0
    · subst z
      rw [if_pos (show nI 0 = 0 from rfl)]
      refine ⟨-103, τ, ?_, rfl, hI.step (Kp.refl _)⟩
      unfold F_X6_fold
      rw [if_neg (nI_pos (by omega)), if_pos (show nI c < 4 from nI_lt (b := 4) (by omega) (by decide)), a1.2.1.1, if_pos (show nI 0 = 0 from rfl)]
    · obtain ⟨hF, hSg⟩ := a1.2.2.2.1 (by omega)
      obtain ⟨τ0, τ', h1, h2, h3, h4⟩ := m_fold a1.1 (by omega) a1.2.2.1
      rw [if_neg (nI_ne0 (by omega) (by omega)), h1, zb_q, foldNow_eq a1.1 h2 h3 (by omega), zb_q, c_fold a1.1 (by omega) a1.2.1 hF hSg (by omega)]
      exact ⟨_, _, rfl, rfl, hI.step h4⟩
theorem op_drawn (h : Inv k σ τ) (x1 x2 x3 : Int32) : ∃ r σ' τ', F_X6_drawn σ x1 x2 x3 = some (r, σ') ∧ F_X7_drawn τ x1 x2 x3 = some (r, τ') ∧ Inv (k + 1) σ' τ' := by
  obtain ⟨r, σ', τ', h1, h2, h3, h4⟩ := drawn_ok (σ := σ) (τ := τ) x1 x2 x3
  exact ⟨r, σ', τ', h1, h2, h.fr (by omega) (fun c hc => h3 c (by omega)) h4⟩
theorem op_mend (h : Inv k σ τ) (x1 : Int32) : ∃ r σ' τ', F_X6_mend σ x1 = some (r, σ') ∧ F_X7_mend τ x1 = some (r, τ') ∧ Inv (k + 1) σ' τ' := by
  have hI := h
  obtain ⟨n, kd, f0, f1, s, nd, vs, dd, L, pg, K, m, r, a1, a2, a3, a4, a5, a6⟩ := h
  have hn := a1.1.1
  unfold F_X6_mend F_X7_mend
  rw [within_eq]
  by_cases hx : x1 < 0 ∨ 1 < x1
  · rw [if_pos hx, zb_q, if_pos rfl]
    rcases hx with q | q
    · rw [if_pos q]; exact ⟨_, _, _, rfl, rfl, hI.step (Kp.refl _)⟩
    · have h1 : ¬ x1 ≤ 1 := by rw [Int32.not_le]; exact q
      rw [if_neg h1]
      split <;> exact ⟨_, _, _, rfl, rfl, hI.step (Kp.refl _)⟩
  · have hx0 : ¬ x1 < 0 := fun z => hx (Or.inl z)
    have hx1 : x1 ≤ 1 := by rw [← Int32.not_lt]; exact fun z => hx (Or.inr z)
    obtain ⟨c, hc, rfl⟩ := nI_of2 (M := 1) (n := 1) rfl hx0 hx1
    rw [if_neg hx, zb_q, if_neg i10, if_neg hx0, if_pos hx1, a1.2.1.1, a1.2.2.1.1]
    obtain ⟨m1, m2, m3, m4, m5, m6⟩ := a5
    by_cases z : n = 0
    · subst z
      rw [if_pos (show nI 0 = 0 from rfl), if_pos (show nI 0 = 0 from rfl)]
      exact ⟨_, _, _, rfl, rfl, hI.step (Kp.refl _)⟩
    · rw [if_neg (nI_ne0 (by omega) (by omega)), if_neg (nI_ne0 (by omega) (by omega)), m2, m3]
      by_cases h5 : m = 5
      · subst h5
        rw [if_neg (show ¬ nI 5 < 5 by decide), if_pos (show nI 5 = 5 from rfl)]
        exact ⟨_, _, _, rfl, rfl, hI.step (Kp.refl _)⟩
      · rw [if_pos (show nI m < 5 from nI_lt (b := 5) (by omega) (by decide)), if_neg (show ¬ nI m = 5 from fun z => h5 ((nI_eq (b := 5) (by omega) (by decide)).mp z)), zl_q, nI_1]
        obtain ⟨hF, hSg⟩ := a1.2.2.2.1 (by omega)
        have hJ2 : JIs (zst σ 0 12 (nI (m + 1))) 3 n kd f0 f1 := a1.2.1
        have hF2 : FlowIs (zst σ 0 12 (nI (m + 1))) 3 (mkG n kd f0 f1 0) := hF
        have hR2 : RIs (zst τ 0 6 (nI (m + 1))) n kd f0 f1 := a1.2.2.1
        obtain ⟨r1, σ1, e1, e2, e3⟩ := fewest_ok a1.1 (by omega) hJ2 hF2
        obtain ⟨r2, τ1, e4, e5, e6⟩ := mendSet_ok a1.1 (by omega) hR2
        have er := MB.uniq e2 e5
        subst er
        have hInv : Inv (k + 1) σ1 τ1 := by
          refine Inv.fr (σ := zst σ 0 12 (nI (m + 1))) (τ := zst τ 0 6 (nI (m + 1))) (k := k) ?_ (by omega) (fun c hc => e3 c (by omega)) e6
          exact ⟨n, kd, f0, f1, s, nd, vs, dd, L, pg, K, m + 1, r, a1.fr (fun c c1 c2 => by unfold zst zsr; simp [show c ≠ 0 by omega]) rfl rfl rfl, a2.fr (fun c c1 c2 => by unfold zst zsr; simp [show c ≠ 0 by omega]) rfl (fun c c1 c2 => by unfold zst zsr; simp [show c ≠ 0 by omega]), a3.fr rfl rfl rfl rfl, a4.fr rfl rfl rfl rfl, ⟨by omega, rfl, rfl, m4, m5, m6⟩, a6.fr rfl (fun c c1 c2 => by unfold zst zsr; simp [show c ≠ 0 by omega]) rfl rfl rfl (fun c c1 c2 => by unfold zst zsr; simp [show c ≠ 0 by omega])⟩
        unfold F_X7_mendNow
        rw [e1, zb2_q, m3, nI_1, zl_q, e4, zb2_q]
        rcases e2 with ⟨T, g1, g2, g3, g4, g5⟩ | ⟨g1, g2⟩
        · have hT := sub_lt g1 (lmk_lt (mkG n kd f0 f1 0) 16)
          have hne : r1 ≠ -1 := by rw [g4]; exact fun z => (nI_m1 (by omega)).mp z
          rw [if_neg hne, if_neg hne, g4, bc_pc hT g2, F_size_nI hT, zb_q, zb_q]
          rcases (show c = 0 ∨ c = 1 by omega) with rfl | rfl
          · rw [if_neg (show ¬ nI 0 = 1 by decide), if_pos (show nI 0 = 0 from rfl), zb2_q]
            exact ⟨_, _, _, rfl, rfl, hInv⟩
          · rw [if_pos (show nI 1 = 1 from rfl), if_neg (show ¬ nI 1 = 0 by decide), zb2_q]
            exact ⟨_, _, _, rfl, rfl, hInv⟩
        · rw [g1, if_pos rfl, if_pos rfl, zb2_q]
          split <;> exact ⟨_, _, _, rfl, rfl, hInv⟩
theorem op_forget (h : Inv k σ τ) : ∃ r σ' τ', F_X6_forget σ = some (r, σ') ∧ F_X7_forget τ = some (r, τ') ∧ Inv (k + 1) σ' τ' := by
  obtain ⟨n, kd, f0, f1, s, nd, vs, dd, L, pg, K, m, r, a1, a2, a3, a4, a5, a6⟩ := h
  unfold F_X6_forget F_X7_forget
  rw [zl_q, zl_q, zl_q, zl_q, a2.1.1, a2.2.1.1]
  refine ⟨_, _, _, rfl, rfl, n, kd, f0, f1, 0, nd, vs, dd, L, pg, K, m, r, a1.fr (fun c c1 c2 => by unfold zst zsr; simp [show c ≠ 19 by omega]) rfl rfl rfl, ⟨⟨rfl, fun i hi => absurd hi (by omega)⟩, ⟨rfl, fun i hi => absurd hi (by omega)⟩, by omega, fun i hi => absurd hi (by omega)⟩, a3.fr rfl rfl rfl rfl, a4.fr rfl rfl rfl rfl, a5.fr (by omega) rfl rfl rfl rfl, a6.fr rfl (fun c c1 c2 => by unfold zst zsr; simp [show c ≠ 19 by omega]) rfl rfl rfl (fun c c1 c2 => by unfold zst zsr; simp [show c ≠ 0 by omega])⟩
theorem op_blank (h : Inv k σ τ) : ∃ r σ' τ', F_X6_blank σ = some (r, σ') ∧ F_X7_blank τ = some (r, τ') ∧ Inv (k + 1) σ' τ' := by
  obtain ⟨n, kd, f0, f1, s, nd, vs, dd, L, pg, K, m, r, a1, a2, a3, a4, a5, a6⟩ := h
  unfold F_X6_blank F_X7_blank
  rw [zl_q, zl_q, zl_q, zl_q, a3.1.1, a3.2.1.1]
  refine ⟨_, _, _, rfl, rfl, n, kd, f0, f1, s, nd, vs, dd, 0, pg, K, m, r, a1.fr (fun c c1 c2 => by unfold zst zsr; simp [show c ≠ 1 by omega]) rfl rfl rfl, a2.fr (fun c c1 c2 => by unfold zst zsr; simp [show c ≠ 1 by omega]) rfl (fun c c1 c2 => by unfold zst zsr; simp [show c ≠ 0 by omega]), ⟨⟨rfl, fun i hi => absurd hi (by omega)⟩, ⟨rfl, fun i hi => absurd hi (by omega)⟩, by omega, fun i hi => absurd hi (by omega)⟩, a4.fr rfl rfl rfl rfl, a5.fr (by omega) rfl rfl rfl rfl, a6.fr rfl (fun c c1 c2 => by unfold zst zsr; simp [show c ≠ 1 by omega]) rfl rfl rfl (fun c c1 c2 => by unfold zst zsr; simp [show c ≠ 0 by omega])⟩
end OP3
