section OP7
variable {k : Nat} {σ τ : SF}
theorem op_restore (hk : k < 2 ^ 20) (h : Inv k σ τ) : ∃ r σ' τ', F_X6_restore σ = some (r, σ') ∧ F_X7_restore τ = some (r, τ') ∧ Inv (k + 1) σ' τ' := by
  have hI := h
  obtain ⟨n, kd, f0, f1, s, nd, vs, dd, L, pg, K, m, r, a1, a2, a3, a4, a5, a6⟩ := h
  have hn := a1.1.1
  have hr := a5.2.2.2.1
  have e00 : τ 0 0 = nI r := a5.2.2.2.2.2
  unfold F_X6_restore F_X7_restore
  rcases a6 with ⟨b1, b2 | ⟨b2, r', b3, b4⟩⟩ | ⟨b1, b2, b3, b4, ⟨kd', f0', f1', b5, b6, b7⟩, s', nd', vs', dd', b8, b9, b10⟩
  · rw [b1, if_pos rfl, b2, if_pos rfl]
    exact ⟨_, _, _, rfl, rfl, hI.step (Kp.refl _)⟩
  · rw [b1, if_pos rfl, b2, if_neg i10, b4, e00, if_neg (fun z => absurd ((nI_eq (by omega) (by omega)).mp z) (by omega))]
    exact ⟨_, _, _, rfl, rfl, hI.step (Kp.refl _)⟩
  · have hs6 := b10.1
    obtain ⟨σ1, c1, c2, c3, c4⟩ := copy1_ok σ (b := 3) (b2 := 23) (by omega)
    obtain ⟨σ2, d1, d2, d3, d4⟩ := copy3_ok σ1 (b := 19) (b2 := 27) (by omega)
    have l31 := re31 (τ := zst τ 0 7 (nI s')) 8 100 0 (τ 1) (τ 2) (by omega) (by omega)
    have es : r2 (zst τ 0 7 (nI s')) 1 2 (τ 1) (τ 2) = zst τ 0 7 (nI s') := r2_self (τ := zst τ 0 7 (nI s')) (p := 1) (q := 2)
    rw [es] at l31
    have l31' : L_X7_restore_31 100 0 (zst τ 0 7 (nI s')) = some (nI 8, r2 (zst τ 0 7 (nI s')) 1 2 (rfrom (τ 22) (τ 1) 0 8) (rfrom (τ 23) (τ 2) 0 16)) := l31
    have l93 := re93 (τ := r2 (zst τ 0 7 (nI s')) 1 2 (rfrom (τ 22) (τ 1) 0 8) (rfrom (τ 23) (τ 2) 0 16)) 6 100 0 (τ 4) (τ 5) (τ 6) (by omega) (by omega)
    have es2 : s3 (r2 (zst τ 0 7 (nI s')) 1 2 (rfrom (τ 22) (τ 1) 0 8) (rfrom (τ 23) (τ 2) 0 16)) 4 5 6 (τ 4) (τ 5) (τ 6) = r2 (zst τ 0 7 (nI s')) 1 2 (rfrom (τ 22) (τ 1) 0 8) (rfrom (τ 23) (τ 2) 0 16) := s3_self (τ := r2 (zst τ 0 7 (nI s')) 1 2 (rfrom (τ 22) (τ 1) 0 8) (rfrom (τ 23) (τ 2) 0 16)) (p := 4) (q := 5) (s := 6)
    rw [es2] at l93
    have l93' : L_X7_restore_93 100 0 (r2 (zst τ 0 7 (nI s')) 1 2 (rfrom (τ 22) (τ 1) 0 8) (rfrom (τ 23) (τ 2) 0 16)) = some (nI 6, s3 (r2 (zst τ 0 7 (nI s')) 1 2 (rfrom (τ 22) (τ 1) 0 8) (rfrom (τ 23) (τ 2) 0 16)) 4 5 6 (rfrom (τ 24) (τ 4) 0 6) (rfrom (τ 25) (τ 5) 0 6) (rfrom (τ 26) (τ 6) 0 6)) := l93
    have f3 : ∀ c, (c < 3 ∨ 6 < c) → (c < 19 ∨ 22 < c) → σ2 c = σ c := fun c x1 x2 => by
      rw [d4 c (by omega), c4 c (by omega)]
    have hJ3 : JIs σ2 3 n kd' f0' f1' := JIs.eqv (σ := σ1) (JIs.copy (σ := σ) (b2 := 23) b6 hn c2 c3) (d4 _ (by omega)) (d4 _ (by omega)) (d4 _ (by omega)) (d4 _ (by omega))
    have g27 : ∀ c, 27 ≤ c → c ≤ 30 → σ1 c = σ c := fun c x1 x2 => c4 c (by omega)
    obtain ⟨σ3, e1, e2, e3⟩ := Inv.anew (k := k) (σ1 := σ2) (τ1 := s3 (r2 (zst τ 0 7 (nI s')) 1 2 (rfrom (τ 22) (τ 1) 0 8) (rfrom (τ 23) (τ 2) 0 16)) 4 5 6 (rfrom (τ 24) (τ 4) 0 6) (rfrom (τ 25) (τ 5) 0 6) (rfrom (τ 26) (τ 6) 0 6)) (s := s') (nd := nd') (vs := vs') (dd := dd') (L := L) (pg := pg) (K := K) (m := m) (r := r) b5 b4 hJ3 ⟨a1.2.2.1.1, fun v hv => by
        show (rfrom (τ 22) (τ 1) 0 8) v = _ ∧ (rfrom (τ 23) (τ 2) 0 16) (2 * v) = _ ∧ (rfrom (τ 23) (τ 2) 0 16) (2 * v + 1) = _
        rw [rfrom_in (Nat.zero_le _) (by omega), rfrom_in (Nat.zero_le _) (by omega), rfrom_in (Nat.zero_le _) (by omega)]
        exact b7 v hv⟩ ⟨⟨by rw [d2, g27 27 (by decide) (by decide)]; exact b8.1, fun i hi => by
        obtain ⟨y1, y2, y3⟩ := d3 i (by omega)
        have y1' : σ2 20 i = σ 28 i := by rw [show σ2 20 i = σ1 (27 + 1) i from y1, g27 (27 + 1) (by decide) (by decide)]
        have y2' : σ2 21 i = σ 29 i := by rw [show σ2 21 i = σ1 (27 + 2) i from y2, g27 (27 + 2) (by decide) (by decide)]
        have y3' : σ2 22 i = σ 30 i := by rw [show σ2 22 i = σ1 (27 + 3) i from y3, g27 (27 + 3) (by decide) (by decide)]
        rw [y1', y2', y3']; exact b8.2 i hi⟩, ⟨rfl, fun i hi => by
        show (rfrom (τ 24) (τ 4) 0 6) i = _ ∧ (rfrom (τ 25) (τ 5) 0 6) i = _ ∧ (rfrom (τ 26) (τ 6) 0 6) i = _
        rw [rfrom_in (Nat.zero_le _) (by omega), rfrom_in (Nat.zero_le _) (by omega), rfrom_in (Nat.zero_le _) (by omega)]
        exact b9.2 i hi⟩, b10⟩ (a3.fr (by rw [f3 1 (by decide) (by decide)]) (f3 2 (by decide) (by decide)) rfl rfl) (a4.fr (by rw [f3 16 (by decide) (by decide)]) (f3 17 (by decide) (by decide)) rfl rfl) (a5.fr (Nat.le_refl _) (by rw [f3 0 (by decide) (by decide)]) (by rw [f3 0 (by decide) (by decide)]) rfl rfl) (IK.fr (σ := σ) (τ := τ) (Or.inr ⟨b1, b2, b3, b4, ⟨kd', f0', f1', b5, b6, b7⟩, s', nd', vs', dd', b8, b9, b10⟩) (by rw [f3 0 (by decide) (by decide)]) (fun c x1 x2 => f3 c (by omega) (by omega)) rfl rfl rfl (fun c x1 x2 => by rw [s3_o (by omega) (by omega) (by omega), r2_o (by omega) (by omega)]; unfold zst zsr; simp [show c ≠ 0 by omega]))
    have en : (s3 (r2 (zst τ 0 7 (nI s')) 1 2 (rfrom (τ 22) (τ 1) 0 8) (rfrom (τ 23) (τ 2) 0 16)) 4 5 6 (rfrom (τ 24) (τ 4) 0 6) (rfrom (τ 25) (τ 5) 0 6) (rfrom (τ 26) (τ 6) 0 6)) 0 1 = nI n := a1.2.2.1.1
    have es3 : σ3 3 0 = nI n := by rw [e3]; exact hJ3.1
    rw [b1, if_neg i10, b2, if_neg i10, b3, e00, if_pos rfl, b9.1, c1, zb_q, d1, zb_q, e1, zb_q, zl_q, l31', zb2_q, l93', zb2_q, en, es3]
    exact ⟨_, _, _, rfl, rfl, e2⟩
theorem count_any (h : Inv k σ τ) (x1 : Int32) : ∃ r τ', F_X6_count σ x1 = some r ∧ F_X7_howMany τ x1 = some (r, τ') ∧ Kp τ τ' ∧ ((x1 = 0 ∨ nI 7 ≤ x1 ∨ x1 < 0) → τ' = τ) := by
  obtain ⟨n, kd, f0, f1, s, nd, vs, dd, L, pg, K, m, r, a1, a2, a3, a4, a5, a6⟩ := h
  have hn := a1.1.1
  by_cases hx : x1 < 0 ∨ 11 < x1
  · have hne : ∀ c : Nat, c < 12 → x1 ≠ nI c := fun c hc z => by
      rw [z] at hx
      rcases hx with q | q
      · exact nI_pos (by omega) q
      · exact nI_nlt (b := c) (a := 11) (by omega) (by decide) q
    have hw : x1 < 1 ∨ 6 < x1 := by
      rcases hx with q | q
      · exact Or.inl (Int32.lt_trans q (by decide))
      · exact Or.inr (Int32.lt_trans (by decide) q)
    refine ⟨-102, τ, ?_, ?_, Kp.refl _, fun _ => rfl⟩
    · unfold F_X6_count
      rw [if_neg (show ¬ x1 = 0 from hne 0 (by decide)), if_neg (show ¬ x1 = 1 from hne 1 (by decide)), if_neg (show ¬ x1 = 2 from hne 2 (by decide)), if_neg (show ¬ x1 = 3 from hne 3 (by decide)), if_neg (show ¬ x1 = 4 from hne 4 (by decide)), if_neg (show ¬ x1 = 5 from hne 5 (by decide)), if_neg (show ¬ x1 = 6 from hne 6 (by decide)), if_neg (show ¬ x1 = 7 from hne 7 (by decide)), if_neg (show ¬ x1 = 8 from hne 8 (by decide)), if_neg (show ¬ x1 = 9 from hne 9 (by decide)), if_neg (show ¬ x1 = 10 from hne 10 (by decide)), if_neg (show ¬ x1 = 11 from hne 11 (by decide))]
    · unfold F_X7_howMany
      rw [if_neg (show ¬ x1 = 0 from hne 0 (by decide)), if_neg (show ¬ x1 = 7 from hne 7 (by decide)), if_neg (show ¬ x1 = 8 from hne 8 (by decide)), if_neg (show ¬ x1 = 9 from hne 9 (by decide)), if_neg (show ¬ x1 = 10 from hne 10 (by decide)), if_neg (show ¬ x1 = 11 from hne 11 (by decide)), within_eq, if_pos hw, zb_q, if_pos rfl]
  · obtain ⟨c, hc, rfl⟩ := nI_of2 (M := 11) (n := 11) rfl (fun z => hx (Or.inl z)) (by rw [← Int32.not_lt]; exact fun z => hx (Or.inr z))
    have mid : ∀ c, 1 ≤ c → c ≤ 6 → ¬ (nI c = 0 ∨ nI 7 ≤ nI c ∨ nI c < 0) := fun c h1 h2 z => by
      rcases z with q | q | q
      · exact nI_ne0 h1 (by omega) q
      · exact nI_ge (by omega) (by decide) q
      · exact nI_pos (by omega) q
    have og : ∀ (c : Nat) (z1 : Int32), 1 ≤ c → c ≤ 6 → (n = 0 → z1 = 0) → (0 < n → ∀ τ', LayIs τ' n (mkG n kd f0 f1 0) → (if nI c = 1 then some (τ' 0 23, τ') else if nI c = 2 then some (τ' 0 28, τ') else if nI c = 3 then some (τ' 0 29, τ') else if nI c = 4 then some (τ' 0 30, τ') else if nI c = 5 then (zb (F_X7_size (τ' 0 31)) fun r6 => some (r6, τ')) else (zb (F_X7_size (τ' 0 32)) fun r4 => some (r4, τ'))) = some (z1, τ')) → ∃ τ', F_X7_ofGraph τ (nI c) = some (z1, τ') ∧ Kp τ τ' := by
      intro c z1 h1 h2 hz hp
      unfold F_X7_ofGraph
      rw [a1.2.2.1.1]
      by_cases z : n = 0
      · refine ⟨τ, ?_, Kp.refl _⟩
        rw [hz z, z]
        rfl
      · obtain ⟨τ', l1, l2, l3, l4⟩ := F_layNow_eq a1.1 (by omega) a1.2.2.1
        refine ⟨τ', ?_, l4⟩
        rw [if_neg (nI_ne0 (by omega) (by omega)), l1, zb_q]
        exact hp (by omega) τ' l2
    have hg := mkG_ok a1.1 0
    have hh1 : hd (mkG n kd f0 f1 0) < 2 ^ 8 := (wa_lt hg 16).1
    have hh2 : mg (mkG n kd f0 f1 0) < 2 ^ 8 := (wa_lt hg 16).2.1
    have cz : ∀ j, σ (3 + 4) j = σ 7 j := fun _ => rfl
    have bc0 : F_J6_bitCount_0f7a4 0 = some 0 := by decide +kernel
    unfold F_X6_count
    rcases (show c = 0 ∨ c = 1 ∨ c = 2 ∨ c = 3 ∨ c = 4 ∨ c = 5 ∨ c = 6 ∨ c = 7 ∨ c = 8 ∨ c = 9 ∨ c = 10 ∨ c = 11 by omega) with rfl | rfl | rfl | rfl | rfl | rfl | rfl | rfl | rfl | rfl | rfl | rfl
    · exact ⟨nI n, τ, by rw [if_pos (by decide), a1.2.1.1], by unfold F_X7_howMany; rw [if_pos (by decide), a1.2.2.1.1], Kp.refl _, fun _ => rfl⟩
    · obtain ⟨τ', o1, o2⟩ := og 1 (σ (3 + 4) 6) (by decide) (by decide) (fun z => (a1.2.2.2.2 z).1) (fun hp τ' l2 => by rw [if_pos (by decide), l2.2.1, (a1.2.2.2.1 hp).1.2.1])
      exact ⟨_, τ', rfl, by unfold F_X7_howMany; rw [if_neg (by decide), if_neg (by decide), if_neg (by decide), if_neg (by decide), if_neg (by decide), if_neg (by decide), show F_X7_within (nI 1) 1 6 = some 1 from rfl, zb_q, if_neg i10, o1, zb2_q], o2, fun z => absurd z (mid 1 (by decide) (by decide))⟩
    · obtain ⟨τ', o1, o2⟩ := og 2 (σ (3 + 4) 8) (by decide) (by decide) (fun z => (a1.2.2.2.2 z).2.1) (fun hp τ' l2 => by rw [if_neg (by decide), if_pos (by decide), l2.2.2.2.2.2.2.1, (a1.2.2.2.1 hp).1.2.2.2.2.2.1])
      exact ⟨_, τ', rfl, by unfold F_X7_howMany; rw [if_neg (by decide), if_neg (by decide), if_neg (by decide), if_neg (by decide), if_neg (by decide), if_neg (by decide), show F_X7_within (nI 2) 1 6 = some 1 from rfl, zb_q, if_neg i10, o1, zb2_q], o2, fun z => absurd z (mid 2 (by decide) (by decide))⟩
    · obtain ⟨τ', o1, o2⟩ := og 3 (σ (3 + 4) 9) (by decide) (by decide) (fun z => (a1.2.2.2.2 z).2.2.1) (fun hp τ' l2 => by rw [if_neg (by decide), if_neg (by decide), if_pos (by decide), l2.2.2.2.2.2.2.2.1, (a1.2.2.2.1 hp).1.2.2.2.2.2.2.1])
      exact ⟨_, τ', rfl, by unfold F_X7_howMany; rw [if_neg (by decide), if_neg (by decide), if_neg (by decide), if_neg (by decide), if_neg (by decide), if_neg (by decide), show F_X7_within (nI 3) 1 6 = some 1 from rfl, zb_q, if_neg i10, o1, zb2_q], o2, fun z => absurd z (mid 3 (by decide) (by decide))⟩
    · obtain ⟨τ', o1, o2⟩ := og 4 (σ (3 + 4) 10) (by decide) (by decide) (fun z => (a1.2.2.2.2 z).2.2.2.1) (fun hp τ' l2 => by rw [if_neg (by decide), if_neg (by decide), if_neg (by decide), if_pos (by decide), l2.2.2.2.2.2.2.2.2.1, (a1.2.2.2.1 hp).1.2.2.2.2.2.2.2.1])
      exact ⟨_, τ', rfl, by unfold F_X7_howMany; rw [if_neg (by decide), if_neg (by decide), if_neg (by decide), if_neg (by decide), if_neg (by decide), if_neg (by decide), show F_X7_within (nI 4) 1 6 = some 1 from rfl, zb_q, if_neg i10, o1, zb2_q], o2, fun z => absurd z (mid 4 (by decide) (by decide))⟩
    · obtain ⟨τ', o1, o2⟩ := og 5 (if n = 0 then 0 else nI (pc (hd (mkG n kd f0 f1 0)))) (by decide) (by decide) (fun z => if_pos z) (fun hp τ' l2 => by
        have e31 : τ' 0 31 = nI (hd (mkG n kd f0 f1 0)) := l2.2.2.2.2.2.2.2.2.2.1
        rw [if_neg (by decide), if_neg (by decide), if_neg (by decide), if_neg (by decide), if_pos (by decide), e31, F_size_nI (lt816 hh1), zb_q, if_neg (by omega)])
      refine ⟨_, τ', ?_, by unfold F_X7_howMany; rw [if_neg (by decide), if_neg (by decide), if_neg (by decide), if_neg (by decide), if_neg (by decide), if_neg (by decide), show F_X7_within (nI 5) 1 6 = some 1 from rfl, zb_q, if_neg i10, o1, zb2_q], o2, fun z => absurd z (mid 5 (by decide) (by decide))⟩
      rw [if_neg (by decide), if_neg (by decide), if_neg (by decide), if_neg (by decide), if_neg (by decide), if_pos (by decide), cz]
      by_cases z : n = 0
      · rw [(a1.2.2.2.2 z).2.2.2.2.1, bc0, zb_q, if_pos z]
      · have e : σ 7 11 = nI (hd (mkG n kd f0 f1 0)) := (a1.2.2.2.1 (by omega)).1.2.2.2.2.2.2.2.2.1
        rw [e, bc_8 _ hh1, zb_q, if_neg z]
    · obtain ⟨τ', o1, o2⟩ := og 6 (if n = 0 then 0 else nI (pc (mg (mkG n kd f0 f1 0)))) (by decide) (by decide) (fun z => if_pos z) (fun hp τ' l2 => by
        have e32 : τ' 0 32 = nI (mg (mkG n kd f0 f1 0)) := l2.2.2.2.2.2.2.2.2.2.2
        rw [if_neg (by decide), if_neg (by decide), if_neg (by decide), if_neg (by decide), if_neg (by decide), e32, F_size_nI (lt816 hh2), zb_q, if_neg (by omega)])
      refine ⟨_, τ', ?_, by unfold F_X7_howMany; rw [if_neg (by decide), if_neg (by decide), if_neg (by decide), if_neg (by decide), if_neg (by decide), if_neg (by decide), show F_X7_within (nI 6) 1 6 = some 1 from rfl, zb_q, if_neg i10, o1, zb2_q], o2, fun z => absurd z (mid 6 (by decide) (by decide))⟩
      rw [if_neg (by decide), if_neg (by decide), if_neg (by decide), if_neg (by decide), if_neg (by decide), if_neg (by decide), if_pos (by decide), cz]
      by_cases z : n = 0
      · rw [(a1.2.2.2.2 z).2.2.2.2.2.1, bc0, zb_q, if_pos z]
      · have e : σ 7 12 = nI (mg (mkG n kd f0 f1 0)) := (a1.2.2.2.1 (by omega)).1.2.2.2.2.2.2.2.2.2
        rw [e, bc_8 _ hh2, zb_q, if_neg z]
    · exact ⟨nI K, τ, a4.2.1 ▸ rfl, a4.2.2.1 ▸ rfl, Kp.refl _, fun _ => rfl⟩
    · exact ⟨nI s, τ, a2.1.1 ▸ rfl, a2.2.1.1 ▸ rfl, Kp.refl _, fun _ => rfl⟩
    · exact ⟨nI L, τ, a3.1.1 ▸ rfl, a3.2.1.1 ▸ rfl, Kp.refl _, fun _ => rfl⟩
    · exact ⟨nI r, τ, a5.2.2.2.2.1 ▸ rfl, a5.2.2.2.2.2 ▸ rfl, Kp.refl _, fun _ => rfl⟩
    · exact ⟨nI m, τ, a5.2.1 ▸ rfl, a5.2.2.1 ▸ rfl, Kp.refl _, fun _ => rfl⟩
theorem op_count (h : Inv k σ τ) (x1 : Int32) : ∃ r τ', F_X6_count σ x1 = some r ∧ F_X7_count τ x1 = some (r, τ') ∧ Inv (k + 1) σ τ' := by
  obtain ⟨r, τ', h1, h2, h3, -⟩ := count_any h x1
  refine ⟨r, τ', h1, ?_, h.step h3⟩
  unfold F_X7_count
  rw [h2, zb2_q]
end OP7
