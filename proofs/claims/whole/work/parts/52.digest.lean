section DG2
variable {k : Nat} {σ τ : SF}
/-- the last rows of a digest: the walk, the page, the counts -/
theorem dg_tail (h : Inv k σ τ) (w : Int64) : ∃ r1 r2 w' τ1 z, F_X6_joined σ 17 30 w (σ 16 1) = some r1 ∧ F_X6_joined σ 2 34 r1 (σ 1 1) = some r2 ∧ L_X6_digest_177 σ 100 r2 0 = some (w', nI 12) ∧ (zb2 (L_X7_digest_20 100 0 (zsL τ 0 54 w)) fun v5 σ6 => zb2 (L_X7_digest_47 100 0 σ6) fun v11 σ12 => zb2 (L_X7_digest_74 100 0 σ12) fun v20 σ21 => some (zgL σ21 0 54, σ21)) = some (w', z) ∧ z = zsL τ1 0 54 w' ∧ Inv k σ τ1 := by
  have hI := h
  obtain ⟨n, kd, f0, f1, s, nd, vs, dd, L, pg, K, m, r, a1, a2, a3, a4, a5, a6⟩ := h
  have e1 := F_joined_eq (σ := σ) (q := 17) (nn := 30) a4.1 (by decide) (σ 17) (fun i _ => rfl) w
  have e2 := F_joined_eq (σ := σ) (q := 2) (nn := 34) a3.2.2.1 (by decide) (σ 2) (fun i _ => rfl) (jo (σ 17) K 0 w)
  have b1 := jn_20 (τ := τ) a4.1 a4.2.2.1 (σ 17) (fun i hi => (a4.2.2.2 i hi).symm) K 100 0 w (by omega) (by have := a4.1; omega)
  have b2 := jn_47 (τ := τ) a3.2.2.1 a3.2.1.1 (σ 2) (fun i hi => (a3.2.1.2 i hi).trans (a3.1.2 i hi).symm) L 100 0 (jo (σ 17) K 0 w) (by omega) (by have := a3.2.2.1; omega)
  obtain ⟨w', τ1, c1, c2, c3⟩ := dg74 (σ := σ) 12 100 0 (jo (σ 2) L 0 (jo (σ 17) K 0 w)) τ hI (by omega) (by omega)
  have b1' : L_X7_digest_20 100 0 (zsL τ 0 54 w) = _ := b1
  have b2' : L_X7_digest_47 100 0 (zsL τ 0 54 (jo (σ 17) K 0 w)) = _ := b2
  have c1' : L_X6_digest_177 σ 100 (jo (σ 2) L 0 (jo (σ 17) K 0 w)) 0 = some (w', nI 12) := c1
  have c2' : L_X7_digest_74 100 0 (zsL τ 0 54 (jo (σ 2) L 0 (jo (σ 17) K 0 w))) = some (nI 12, zsL τ1 0 54 w') := c2
  refine ⟨_, _, w', τ1, zsL τ1 0 54 w', by rw [a4.2.1]; exact e1, by rw [a3.1.1]; exact e2, c1', ?_, rfl, c3⟩
  rw [b1', zb2_q, b2', zb2_q, c2', zb2_q, zh_g]
theorem op_digest (h : Inv k σ τ) : ∃ r τ', F_X6_digest σ = some r ∧ F_X7_digest τ = some (r, τ') ∧ Inv (k + 1) σ τ' := by
  have hI := h
  obtain ⟨n, kd, f0, f1, s, nd, vs, dd, L, pg, K, m, r, a1, a2, a3, a4, a5, a6⟩ := h
  have hn := a1.1.1
  unfold F_X6_digest F_X7_digest
  have en : (zsL τ 0 54 1381) 0 1 = nI n := a1.2.2.1.1
  by_cases z : n = 0
  · subst z
    obtain ⟨r1, r2, w', τ1, zz', t1, t2, t3, t4, t5, t6⟩ := dg_tail hI (1381 : Int64)
    have l6 : L_X6_digest_6 σ 100 1381 0 = some (1381, 0) := by
      have : ∀ N, L_X6_digest_6 σ (N + 1) 1381 0 = some (1381, 0) := fun N => by
        unfold L_X6_digest_6
        rw [a1.2.1.1, if_pos (by decide)]
      exact this 99
    have j0 : F_X6_joined σ 14 72 1381 (σ 13 3) = some 1381 := by
      have e := F_joined_eq (σ := σ) (q := 14) (nn := 72) (M := 0) (by decide) (by decide) (σ 14) (fun i hi => absurd hi (by omega)) 1381
      have e0 : σ 13 3 = nI 0 := (a1.2.2.2.2 rfl).2.2.2.2.2.2
      rw [e0]; exact e
    rw [l6, zb2_q, a1.2.1.1, if_pos (by decide), j0, zb_q, t1, zb_q, t2, zb_q, t3, zb2_q, zl_q, en, if_pos (by decide), t4]
    refine ⟨_, _, rfl, rfl, ?_⟩
    rw [t5]
    exact (t6.h w').step (Kp.refl _)
  · have h0 : 0 < n := by omega
    obtain ⟨hF, hSg⟩ := a1.2.2.2.1 h0
    have hR0 : RIs (zsL τ 0 54 1381) n kd f0 f1 := a1.2.2.1
    obtain ⟨τ1, l1, l2, l3, l4⟩ := F_layNow_eq a1.1 h0 hR0
    have hs1 : zsL τ1 0 54 1381 = τ1 := h_self ((l4.2 54 (by omega)).trans rfl) ((l4.2 154 (by omega)).trans rfl)
    have hI1 : Inv k σ τ1 := (hI.h 1381).fr (Nat.le_refl _) (fun _ _ => rfl) l4
    have hS2 : SIs (τ1 0 7) (τ1 4) (τ1 5) (τ1 6) s nd vs dd := by
      rw [l4.2 7 (by omega), l4.1 4 (by omega), l4.1 5 (by omega), l4.1 6 (by omega)]; exact a2.2.1
    obtain ⟨w1, d1, d2⟩ := dg6 a1.1 h0 a1.2.1 hF (hR0.kp l4) l2 l3 a2.1 hS2 a2.2.2 n 100 0 1381 (by omega) (by omega)
    have d1' : L_X6_digest_6 σ 100 1381 0 = some (w1, nI n) := d1
    have d2' : L_X7_mixGraph_6 100 0 τ1 = some (nI n, zsL τ1 0 54 w1) := by
      have e : L_X7_mixGraph_6 100 0 (zsL τ1 0 54 1381) = some (nI n, zsL τ1 0 54 w1) := d2
      rw [hs1] at e; exact e
    have hR1' : RIs τ1 n kd f0 f1 := hR0.kp l4
    have hR1 : RIs (zsL τ1 0 54 w1) n kd f0 f1 := hR1'
    obtain ⟨τ0, τ2, f1', f2, f3, f4⟩ := m_fold a1.1 h0 hR1
    have hs2 : zsL τ2 0 54 w1 = τ2 := h_self ((f4.2 54 (by omega)).trans rfl) ((f4.2 154 (by omega)).trans rfl)
    have hI2 : Inv k σ τ2 := (hI1.h w1).fr (Nat.le_refl _) (fun _ _ => rfl) f4
    obtain ⟨w2, g1, g2⟩ := dg77 (τ := τ2) a1.1 h0 a1.2.1 hF hSg (fun c w hc => (show F_X7_foldNow τ2 (nI c) = F_X6_fold σ (nI c) by rw [foldNow_eq a1.1 f2 f3 hc, c_fold a1.1 h0 a1.2.1 hF hSg hc])) 4 100 0 w1 (by omega) (by omega)
    have g1' : L_X6_digest_94 σ 100 w1 0 = some (w2, nI 4) := g1
    have g2' : L_X7_mixGraph_77 100 0 τ2 = some (nI 4, zsL τ2 0 54 w2) := by
      have e : L_X7_mixGraph_77 100 0 (zsL τ2 0 54 w1) = some (nI 4, zsL τ2 0 54 w2) := g2
      rw [hs2] at e; exact e
    have hl := hSg.2.2.2.2.2
    have e36 : τ2 0 36 = nI (FT (mkG n kd f0 f1 0) kd).1.length := f3.2.2.1
    have e19 := f3.2.2.2.2.2.2.2.2.1
    have j1 := F_joined_eq (σ := σ) (q := 14) (nn := 72) hl (by decide) (σ 14) (fun i _ => rfl) w2
    have j2 := jn_100 (τ := τ2) hl e36 (σ 14) (fun i hi => by rw [e19.at hi, hSg.2.2.2.2.1.at hi]) (FT (mkG n kd f0 f1 0) kd).1.length 100 0 w2 (by omega) (by omega)
    have j2' : L_X7_mixGraph_100 100 0 (zsL τ2 0 54 w2) = _ := j2
    obtain ⟨r1, r2, w', τ3, zz', t1, t2, t3, t4, t5, t6⟩ := dg_tail hI2 (jo (σ 14) (FT (mkG n kd f0 f1 0) kd).1.length 0 w2)
    have hmix : F_X7_mixGraph (zsL τ 0 54 1381) = some (zsL τ2 0 54 (jo (σ 14) (FT (mkG n kd f0 f1 0) kd).1.length 0 w2)) := by
      unfold F_X7_mixGraph
      rw [l1, zb_q, d2', zb2_q, f1', zb_q, g2', zb2_q, j2', zb2_q]
    rw [d1', zb2_q, a1.2.1.1, if_neg (nI_nle h0 (by omega)), g1', zb2_q, hSg.1, j1, zb_q, t1, zb_q, t2, zb_q, t3, zb2_q, zl_q, en, if_neg (nI_nle h0 (by omega)), hmix, zb_q, t4]
    refine ⟨_, _, rfl, rfl, ?_⟩
    rw [t5]
    exact (t6.h w').step (Kp.refl _)
end DG2
/-- memories of zeros have to do with each other -/
theorem Inv.zero {σ τ : SF} (hσ : ∀ c, c < 31 → ∀ i, σ c i = 0) (hτ : ∀ c i, τ c i = 0) : Inv 0 σ τ := by
  refine ⟨0, fun _ => 0, fun _ => 0, fun _ => 0, 0, fun _ => 0, fun _ => 0, fun _ => 0, 0, fun _ => 0, 0, 0, 0, ⟨⟨by omega, fun v hv => absurd hv (by omega)⟩, ⟨hσ 3 (by decide) 0, fun v hv => absurd hv (by omega)⟩, ⟨hτ 0 1, fun v hv => absurd hv (by omega)⟩, fun h => absurd h (by omega), fun _ => ⟨hσ 7 (by decide) _, hσ 7 (by decide) _, hσ 7 (by decide) _, hσ 7 (by decide) _, hσ 7 (by decide) _, hσ 7 (by decide) _, hσ 13 (by decide) _⟩⟩, ⟨⟨hσ 19 (by decide) 0, fun i hi => absurd hi (by omega)⟩, ⟨hτ 0 7, fun i hi => absurd hi (by omega)⟩, by omega, fun i hi => absurd hi (by omega)⟩, ⟨⟨hσ 1 (by decide) 1, fun i hi => absurd hi (by omega)⟩, ⟨hτ 0 11, fun i hi => absurd hi (by omega)⟩, by omega, fun i hi => absurd hi (by omega)⟩, ⟨by omega, hσ 16 (by decide) 1, hτ 0 4, fun i hi => absurd hi (by omega)⟩, ⟨by omega, hσ 0 (by decide) 12, hτ 0 6, by omega, hσ 0 (by decide) 11, hτ 0 0⟩, Or.inl ⟨hσ 0 (by decide) 10, Or.inl (hτ 0 46)⟩⟩
