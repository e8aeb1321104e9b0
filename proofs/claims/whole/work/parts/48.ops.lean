section OP5
variable {k : Nat} {σ τ : SF}
theorem op_graph (hk : k < 2 ^ 20) (h : Inv k σ τ) : ∃ r σ' τ', F_X6_graph σ = some (r, σ') ∧ F_X7_graph τ = some (r, τ') ∧ Inv (k + 1) σ' τ' := by
  have hI := h
  obtain ⟨n, kd, f0, f1, s, nd, vs, dd, L, pg, K, m, r, a1, a2, a3, a4, a5, a6⟩ := h
  obtain ⟨q, σ1, τ1, h1, h2, h3, h4, h5, h6⟩ := read_ok a3.1 a3.2.1 a3.2.2
  have hL := a3.2.2.1
  have e11 : σ1 1 1 = nI L := (h4.2 1 (by decide) (by decide)).trans a3.1.1
  unfold F_X6_graph F_X7_graph
  rw [h2, zb2_q, h3, zb2_q, e11]
  rcases h6 with ⟨g1, g2⟩ | ⟨g1, g2, g3, c, mx, M, g4, g5, g6, g7, g8, g9, g10⟩
  · rw [g1, if_pos rfl]
    have hx : (if nI q < nI L then some ((-103 : Int32), σ1) else if (σ1 1 2) = 0 then some ((-103 : Int32), σ1) else
  if (σ1 1 3) < (σ1 31 0) then (
  zl (zst σ1 1 1 0) fun σ4 =>
  zl (zst σ4 0 11 ((σ4 0 11) + 1)) fun σ5 =>
  zl (zst σ5 0 10 0) fun σ6 =>
  zl (zst σ6 16 1 0) fun σ7 =>
  zl (zst σ7 19 0 0) fun σ8 =>
  zb (F_X1_copyFrom σ8 3 31) fun σ10 =>
  zb (F_X6_lookAnew σ10) fun σ12 =>
  some (σ12 3 0, σ12)
  ) else (
  some ((-103), σ1)
  )) = some (-103, σ1) := by
      by_cases z : nI q < nI L
      · rw [if_pos z]
      · rw [if_neg z, if_pos (g2.elim (fun y => absurd (nI_lt y (by omega)) z) id)]
    exact ⟨-103, σ1, τ1, hx, rfl, hI.cpK h4 h5⟩
  · subst g2
    rw [if_neg (nI_nlt (Nat.le_refl _) (by omega)), g3, if_neg i10, g1, if_neg i10, g7, g8, g9, g10]
    obtain ⟨kd', f0', f1', hg⟩ := g6.graph
    have hmx := g6.2.1
    by_cases hlt : mx < c
    · have hM : M < nI c := by
        rcases g6.1 with z | ⟨z, -⟩
        · rw [z]; exact nI_lt hlt (by omega)
        · rw [z, Int32.lt_iff_toInt_lt, nI_toInt (by omega)]
          have : (-1 : Int32).toInt = -1 := rfl
          omega
      have hw : gwf c kd' f0' f1' := ⟨g5, fun v hv => by have := hg v hv; omega⟩
      have h0 : 0 < c := by omega
      have e5 : σ1 0 11 = nI r := by rw [h4.1 0 (by decide) (by decide) (by decide) (by decide) (by decide)]; exact a5.2.2.2.2.1
      have e0 : τ1 0 0 = nI r := (h5.2 0 (by omega)).trans a5.2.2.2.2.2
      have hr := a5.2.2.2.1
      -- the class
      obtain ⟨σ2, c1, c2, c3, c4⟩ := copy1_ok (zst (zst (zst (zst (zst σ1 1 1 0) 0 11 (nI (r + 1))) 0 10 0) 16 1 0) 19 0 0) (b := 3) (b2 := 31) (by omega)
      have hJ31 : JIs (zst (zst (zst (zst (zst σ1 1 1 0) 0 11 (nI (r + 1))) 0 10 0) 16 1 0) 19 0 0) 31 c kd' f0' f1' := ⟨g7, fun v hv => by obtain ⟨-, -, -, q1, -, q2, -, q3, -⟩ := hg v hv; exact ⟨q1, q2, q3⟩⟩
      have hJ3 := hJ31.copy g5 c2 c3
      obtain ⟨σ3, d1, d2, d3, d4⟩ := anew_ok hw h0 hJ3
      have hJf : JIs σ3 3 c kd' f0' f1' := hJ3.eqv (d4 _ (by omega)) (d4 _ (by omega)) (d4 _ (by omega)) (d4 _ (by omega))
      -- the reference
      have l36 := g36_loop (τ := zst τ1 0 1 (nI c)) (n := c) rfl g5 c 100 0 (τ1 1) (τ1 2) (by omega) (by omega)
      have e2 : r2 (zst τ1 0 1 (nI c)) 1 2 (τ1 1) (τ1 2) = zst τ1 0 1 (nI c) := r2_self (τ := zst τ1 0 1 (nI c)) (p := 1) (q := 2)
      rw [e2] at l36
      have l36' : L_X7_graph_36 100 0 (zst τ1 0 1 (nI c)) = some (nI c, r2 (zst τ1 0 1 (nI c)) 1 2 (rfrom (τ1 8) (τ1 1) 0 c) (rfrom (τ1 9) (τ1 2) 0 (2 * c))) := l36
      have x11 : (zst σ1 1 1 0) 0 11 = nI r := e5
      have y0 : (zst (r2 (zst τ1 0 1 (nI c)) 1 2 (rfrom (τ1 8) (τ1 1) 0 c) (rfrom (τ1 9) (τ1 2) 0 (2 * c))) 0 4 0) 0 0 = nI r := e0
      rw [if_pos (nI_lt hlt (by omega)), if_pos hM, zl_q, x11, nI_1, zl_q, zl_q, zl_q, zl_q, c1, zb_q, d1, zb_q, zl_q, l36', zb2_q, zl_q, y0, nI_1, zl_q, zl_q, zl_q, hJf.1]
      refine ⟨nI c, σ3, _, rfl, rfl, c, kd', f0', f1', 0, nd, vs, dd, 0, pg, 0, m, r + 1, ?_, ?_, ?_, ?_, ?_, ?_⟩
      · refine ⟨hw, hJf, ⟨rfl, fun v hv => ?_⟩, fun _ => ⟨d2, d3⟩, fun z => by omega⟩
        show (rfrom (τ1 8) (τ1 1) 0 c) v = _ ∧ (rfrom (τ1 9) (τ1 2) 0 (2 * c)) (2 * v) = _ ∧ (rfrom (τ1 9) (τ1 2) 0 (2 * c)) (2 * v + 1) = _
        rw [rfrom_in (Nat.zero_le _) hv, rfrom_in (Nat.zero_le _) (by omega), rfrom_in (Nat.zero_le _) (by omega)]
        obtain ⟨-, -, -, -, q1, -, q2, -, q3⟩ := hg v hv
        exact ⟨q1, q2, q3⟩
      · refine ⟨⟨?_, fun i hi => absurd hi (by omega)⟩, ⟨rfl, fun i hi => absurd hi (by omega)⟩, by omega, fun i hi => absurd hi (by omega)⟩
        rw [d4 19 (by omega), c4 19 (by omega)]
        rfl
      · refine ⟨⟨?_, fun i hi => absurd hi (by omega)⟩, ⟨rfl, fun i hi => absurd hi (by omega)⟩, by omega, fun i hi => absurd hi (by omega)⟩
        rw [d4 1 (by omega), c4 1 (by omega)]
        rfl
      · refine ⟨by omega, ?_, rfl, fun i hi => absurd hi (by omega)⟩
        rw [d4 16 (by omega), c4 16 (by omega)]
        rfl
      · refine ⟨a5.1, ?_, ?_, by omega, ?_, rfl⟩
        · rw [d4 0 (by omega), c4 0 (by omega)]
          show σ1 0 12 = _
          rw [h4.1 0 (by decide) (by decide) (by decide) (by decide) (by decide)]; exact a5.2.1
        · show τ1 0 6 = _
          rw [h5.2 6 (by omega)]; exact a5.2.2.1
        · rw [d4 0 (by omega), c4 0 (by omega)]
          rfl
      · left
        refine ⟨?_, ?_⟩
        · rw [d4 0 (by omega), c4 0 (by omega)]; rfl
        · show τ1 0 46 = 0 ∨ (τ1 0 46 = 1 ∧ ∃ r', r' < r + 1 ∧ τ1 0 47 = nI r')
          rw [h5.2 46 (by omega), h5.2 47 (by omega)]
          rcases a6 with ⟨b1, b2 | ⟨b2, r', b3, b4⟩⟩ | ⟨b1, b2, b3, -⟩
          · exact Or.inl b2
          · exact Or.inr ⟨b2, r', by omega, b4⟩
          · exact Or.inr ⟨b2, r, by omega, b3⟩
    · have hM : ¬ M < nI c := by
        rcases g6.1 with z | ⟨z, z2⟩
        · rw [z]; exact nI_nlt (by omega) (by omega)
        · omega
      rw [if_neg (nI_nlt (by omega) (by omega)), if_neg hM]
      exact ⟨_, _, _, rfl, rfl, hI.cpK h4 h5⟩
/-- a graph that was changed is looked at anew -/
theorem Inv.anew {σ1 τ1 : SF} {n : Nat} {kd f0 f1 : Nat → Nat} {s : Nat} {nd vs dd : Nat → Nat} {L : Nat} {pg : Nat → Nat} {K m r : Nat} (hw : gwf n kd f0 f1) (h0 : 0 < n) (hJ : JIs σ1 3 n kd f0 f1) (hR : RIs τ1 n kd f0 f1) (a2 : IS σ1 τ1 s nd vs dd) (a3 : IP σ1 τ1 L pg) (a4 : IW σ1 τ1 K) (a5 : IM σ1 τ1 k m r) (a6 : IK σ1 τ1 n r) : ∃ σ2, F_X6_lookAnew σ1 = some σ2 ∧ Inv (k + 1) σ2 τ1 ∧ σ2 3 = σ1 3 := by
  obtain ⟨σ2, d1, d2, d3, d4⟩ := anew_ok hw h0 hJ
  refine ⟨σ2, d1, ⟨n, kd, f0, f1, s, nd, vs, dd, L, pg, K, m, r, ⟨hw, hJ.eqv (d4 _ (by omega)) (d4 _ (by omega)) (d4 _ (by omega)) (d4 _ (by omega)), hR, fun _ => ⟨d2, d3⟩, fun z => by omega⟩, a2.fr (fun c _ _ => d4 c (by omega)) rfl (fun _ _ _ => rfl), a3.fr (by rw [d4 1 (by omega)]) (d4 2 (by omega)) rfl rfl, a4.fr (by rw [d4 16 (by omega)]) (d4 17 (by omega)) rfl rfl, a5.fr (by omega) (by rw [d4 0 (by omega)]) (by rw [d4 0 (by omega)]) rfl rfl, a6.fr (by rw [d4 0 (by omega)]) (fun c _ _ => d4 c (by omega)) rfl rfl rfl (fun _ _ _ => rfl)⟩, d4 3 (by omega)⟩
theorem op_aim (h : Inv k σ τ) (x1 x2 x3 : Int32) : ∃ r σ' τ', F_X6_aim σ x1 x2 x3 = some (r, σ') ∧ F_X7_aim τ x1 x2 x3 = some (r, τ') ∧ Inv (k + 1) σ' τ' := by
  have hI := h
  obtain ⟨n, kd, f0, f1, s, nd, vs, dd, L, pg, K, m, r, a1, a2, a3, a4, a5, a6⟩ := h
  have hn := a1.1.1
  unfold F_X6_aim F_X7_aim
  rcases node_any a1 x1 with ⟨v, hv, rfl, h1, h2⟩ | ⟨h1, h2⟩
  · rw [h1, zb_q, if_neg i10, h2, zb_q, if_neg i10]
    rcases node_any a1 x3 with ⟨w, hw, rfl, g1, g2⟩ | ⟨g1, g2⟩
    · rw [g1, zb_q, if_neg i10, g2, zb_q, if_neg i10]
      rcases end_any x2 with ⟨c, hc, rfl, b1, b2⟩ | ⟨b1, b2⟩
      · obtain ⟨j1, j2, j3⟩ := a1.2.1.2 v hv
        obtain ⟨t1, t2, t3⟩ := a1.2.2.1.2 v hv
        have hz := nq_zin1 (show v < 8 by omega) (by decide)
        have e1 : (2 : Int32) * nI v + nI c = nI (2 * v + c) := by rw [nI_2k, nI_add]
        have h16 := nq_zin1 (show 2 * v + c < 16 by omega) (by decide)
        rw [b1, zb_q, if_neg i10, b2, zb_q, if_neg i10, F_target_nI a1.2.1 hn (by omega) hc, zb_q, if_pos hv, zl_q, e1, zg_q h16, zl_q, zg_q h16, zl_q, nI_clamp (by omega)]
        unfold F_X1_put
        rw [h1, zb_q, if_neg i10]
        rcases (show c = 0 ∨ c = 1 by omega) with rfl | rfl
        · have hgw : gwf n kd (fun i => if i = v then w else f0 i) f1 := ⟨hn, fun i hi => by
            have := a1.1.2 i hi
            by_cases q : i = v
            · simp only [if_pos q]; omega
            · simp only [if_neg q]; omega⟩
          obtain ⟨σ2, d1, d2, d3⟩ := Inv.anew (k := k) (σ1 := zst σ (3 + 2) v (nI w)) (τ1 := zst τ 2 (2 * v + 0) (nI w)) hgw (by omega) ⟨a1.2.1.1, fun i hi => by
              obtain ⟨y1, y2, y3⟩ := a1.2.1.2 i hi
              refine ⟨y1, ?_, y3⟩
              show upd (σ 5) v (nI w) i = nI (if i = v then w else f0 i)
              unfold upd
              by_cases q : i = v
              · rw [if_pos q, if_pos q]
              · rw [if_neg q, if_neg q]; exact y2⟩ ⟨a1.2.2.1.1, fun i hi => by
              obtain ⟨y1, y2, y3⟩ := a1.2.2.1.2 i hi
              refine ⟨y1, ?_, ?_⟩
              · show upd (τ 2) (2 * v + 0) (nI w) (2 * i) = nI (if i = v then w else f0 i)
                unfold upd
                by_cases q : i = v
                · rw [if_pos (by omega), if_pos q]
                · rw [if_neg (by omega), if_neg q]; exact y2
              · show upd (τ 2) (2 * v + 0) (nI w) (2 * i + 1) = _
                unfold upd
                rw [if_neg (by omega)]; exact y3⟩ (a2.fr (fun c c1 c2 => by unfold zst zsr; simp [show c ≠ 5 by omega]) rfl (fun c c1 c2 => by unfold zst zsr; simp [show c ≠ 2 by omega])) (a3.fr rfl rfl rfl rfl) (a4.fr rfl rfl rfl rfl) (a5.fr (Nat.le_refl _) rfl rfl rfl rfl) (a6.fr rfl (fun c c1 c2 => by unfold zst zsr; simp [show c ≠ 5 by omega]) rfl rfl rfl (fun c c1 c2 => by unfold zst zsr; simp [show c ≠ 2 by omega]))
          rw [if_pos (show nI 0 = 0 from rfl), zg_q hz, zl_q, nI_clamp (by omega), zb_q, d1, zb_q]
          refine ⟨_, _, _, rfl, ?_, d2⟩
          have : τ 2 (2 * v + 0) = nI (f0 v) := t2
          rw [this]
          rfl
        · have hgw : gwf n kd f0 (fun i => if i = v then w else f1 i) := ⟨hn, fun i hi => by
            have := a1.1.2 i hi
            by_cases q : i = v
            · simp only [if_pos q]; omega
            · simp only [if_neg q]; omega⟩
          obtain ⟨σ2, d1, d2, d3⟩ := Inv.anew (k := k) (σ1 := zst σ (3 + 3) v (nI w)) (τ1 := zst τ 2 (2 * v + 1) (nI w)) hgw (by omega) ⟨a1.2.1.1, fun i hi => by
              obtain ⟨y1, y2, y3⟩ := a1.2.1.2 i hi
              refine ⟨y1, y2, ?_⟩
              show upd (σ 6) v (nI w) i = nI (if i = v then w else f1 i)
              unfold upd
              by_cases q : i = v
              · rw [if_pos q, if_pos q]
              · rw [if_neg q, if_neg q]; exact y3⟩ ⟨a1.2.2.1.1, fun i hi => by
              obtain ⟨y1, y2, y3⟩ := a1.2.2.1.2 i hi
              refine ⟨y1, ?_, ?_⟩
              · show upd (τ 2) (2 * v + 1) (nI w) (2 * i) = _
                unfold upd
                rw [if_neg (by omega)]; exact y2
              · show upd (τ 2) (2 * v + 1) (nI w) (2 * i + 1) = nI (if i = v then w else f1 i)
                unfold upd
                by_cases q : i = v
                · rw [if_pos (by omega), if_pos q]
                · rw [if_neg (by omega), if_neg q]; exact y3⟩ (a2.fr (fun c c1 c2 => by unfold zst zsr; simp [show c ≠ 6 by omega]) rfl (fun c c1 c2 => by unfold zst zsr; simp [show c ≠ 2 by omega])) (a3.fr rfl rfl rfl rfl) (a4.fr rfl rfl rfl rfl) (a5.fr (Nat.le_refl _) rfl rfl rfl rfl) (a6.fr rfl (fun c c1 c2 => by unfold zst zsr; simp [show c ≠ 6 by omega]) rfl rfl rfl (fun c c1 c2 => by unfold zst zsr; simp [show c ≠ 2 by omega]))
          rw [if_neg (show ¬ nI 1 = 0 by decide), zg_q hz, zl_q, nI_clamp (by omega), zb_q, d1, zb_q]
          refine ⟨_, _, _, rfl, ?_, d2⟩
          rw [t3]
          rfl
      · rw [b1, zb_q, if_pos rfl, b2, zb_q, if_pos rfl]
        exact ⟨_, _, _, rfl, rfl, hI.step (Kp.refl _)⟩
    · rw [g1, zb_q, if_pos rfl, g2, zb_q, if_pos rfl]
      exact ⟨_, _, _, rfl, rfl, hI.step (Kp.refl _)⟩
  · rw [h1, zb_q, if_pos rfl, h2, zb_q, if_pos rfl]
    exact ⟨_, _, _, rfl, rfl, hI.step (Kp.refl _)⟩
theorem op_be (h : Inv k σ τ) (x1 x2 : Int32) : ∃ r σ' τ', F_X6_be σ x1 x2 = some (r, σ') ∧ F_X7_be τ x1 x2 = some (r, τ') ∧ Inv (k + 1) σ' τ' := by
  have hI := h
  obtain ⟨n, kd, f0, f1, s, nd, vs, dd, L, pg, K, m, r, a1, a2, a3, a4, a5, a6⟩ := h
  have hn := a1.1.1
  unfold F_X6_be F_X7_be
  rcases node_any a1 x1 with ⟨v, hv, rfl, h1, h2⟩ | ⟨h1, h2⟩
  · rw [h1, zb_q, if_neg i10, h2, zb_q, if_neg i10]
    rcases kind_any x2 with ⟨c, hc, rfl, b1, b2⟩ | ⟨b1, b2⟩
    · have hz := nq_zin1 (show v < 8 by omega) (by decide)
      have hgw : gwf n (fun i => if i = v then c else kd i) f0 f1 := ⟨hn, fun i hi => by
        have := a1.1.2 i hi
        by_cases q : i = v
        · simp only [if_pos q]; omega
        · simp only [if_neg q]; omega⟩
      obtain ⟨σ2, d1, d2, d3⟩ := Inv.anew (k := k) (σ1 := zst σ (3 + 1) v (nI c)) (τ1 := zst τ 1 v (nI c)) hgw (by omega) ⟨a1.2.1.1, fun i hi => by
          obtain ⟨y1, y2, y3⟩ := a1.2.1.2 i hi
          refine ⟨?_, y2, y3⟩
          show upd (σ 4) v (nI c) i = nI (if i = v then c else kd i)
          unfold upd
          by_cases q : i = v
          · rw [if_pos q, if_pos q]
          · rw [if_neg q, if_neg q]; exact y1⟩ ⟨a1.2.2.1.1, fun i hi => by
          obtain ⟨y1, y2, y3⟩ := a1.2.2.1.2 i hi
          refine ⟨?_, y2, y3⟩
          show upd (τ 1) v (nI c) i = nI (if i = v then c else kd i)
          unfold upd
          by_cases q : i = v
          · rw [if_pos q, if_pos q]
          · rw [if_neg q, if_neg q]; exact y1⟩ (a2.fr (fun c c1 c2 => by unfold zst zsr; simp [show c ≠ 4 by omega]) rfl (fun c c1 c2 => by unfold zst zsr; simp [show c ≠ 1 by omega])) (a3.fr rfl rfl rfl rfl) (a4.fr rfl rfl rfl rfl) (a5.fr (Nat.le_refl _) rfl rfl rfl rfl) (a6.fr rfl (fun c c1 c2 => by unfold zst zsr; simp [show c ≠ 4 by omega]) rfl rfl rfl (fun c c1 c2 => by unfold zst zsr; simp [show c ≠ 1 by omega]))
      rw [b1, zb_q, if_neg i10, b2, zb_q, if_neg i10, zg_q hz, zl_q, zg_q hz, zl_q, nI_clamp (by omega), d1, zb_q, zg_q hz, zl_q, zg_q hz, zl_q, (a1.2.1.2 v hv).1, (a1.2.2.1.2 v hv).1]
      exact ⟨_, _, _, rfl, rfl, d2⟩
    · rw [b1, zb_q, if_pos rfl, b2, zb_q, if_pos rfl]
      exact ⟨_, _, _, rfl, rfl, hI.step (Kp.refl _)⟩
  · rw [h1, zb_q, if_pos rfl, h2, zb_q, if_pos rfl]
    exact ⟨_, _, _, rfl, rfl, hI.step (Kp.refl _)⟩
end OP5
