/-! the reference's trees -/
noncomputable def itC (g : Gr) (x : Nat) : Nat → List Nat
  | 0 => []
  | i + 1 => itC g x i ++ (if blk g x (nd g (i + 1)) then [6301, 1000 + nd g (i + 1)] else [])
noncomputable def itO (g : Gr) (x : Nat) : Nat → List Nat
  | 0 => []
  | i + 1 => (if blk g x (nd g (i + 1)) then [5000 + nd g (i + 1)] else []) ++ itO g x i
theorem itC_len (g : Gr) (x : Nat) : ∀ i, (itC g x i).length ≤ 2 * i
  | 0 => by simp [itC]
  | i + 1 => by
    have := itC_len g x i
    unfold itC
    rw [List.length_append]
    split <;> simp <;> omega
theorem itO_len (g : Gr) (x : Nat) : ∀ i, (itO g x i).length ≤ i
  | 0 => by simp [itO]
  | i + 1 => by
    have := itO_len g x i
    unfold itO
    rw [List.length_append]
    split <;> simp <;> omega
theorem blk_0 {g : Gr} (hg : gok g) {x : Nat} (hx : x ∈ po g) : blk g x (nd g 0) = false := by
  have hpos : 0 < (po g).length := List.length_pos_of_mem hx
  cases hk : blk g x (nd g 0) with
  | false => rfl
  | true =>
    have hl := (blk_lord hg ((po_ok hg).2.1 x hx).1 hk).1
    have h1 := hl.2.1.ple hg
    rw [nd_pl hg hpos] at h1
    exact absurd (pl_inj hg hx (nd_mem hpos) (by rw [nd_pl hg hpos]; omega)) hl.1
section MT
variable {τ0 : SF} {n : Nat} {kd f0 f1 : Nat → Nat}
theorem m_blk (hw : gwf n kd f0 f1) (h0 : 0 < n) (hL : ML τ0 n kd f0 f1) {w : List Nat} {t : St} {τ : SF} (hM : MS τ0 w t τ) {x i : Nat} (hi : i < (po (mkG n kd f0 f1 0)).length) : τ 12 i = nI (nd (mkG n kd f0 f1 0) i) ∧ F_X7_isBlock τ (nI x) (nI (nd (mkG n kd f0 f1 0) i)) = some (if blk (mkG n kd f0 f1 0) x (nd (mkG n kd f0 f1 0) i) then 1 else 0) := by
  have hg := mkG_ok hw 0
  have hn := hw.1
  have hm := nd_mem hi
  have hv := Rch_n hw h0 ((mem_po hg).mp hm)
  have hmg : mg (mkG n kd f0 f1 0) < 2 ^ 8 := (wa_lt hg 16).2.1
  have hrr := rr_lt hg
  have e12 : τ 12 i = nI (nd (mkG n kd f0 f1 0) i) := by
    rw [hM.1 12 (by decide) (by decide) (by decide) (by decide), hL.2.2.2.1 i hi, nd_eq hi]
  have e15 : τ 15 (nd (mkG n kd f0 f1 0) i) = ld (mkG n kd f0 f1 0) (nd (mkG n kd f0 f1 0) i) := by
    rw [hM.1 15 (by decide) (by decide) (by decide) (by decide)]
    exact hL.2.2.2.2.2.2.1 _ hv
  refine ⟨e12, ?_⟩
  obtain ⟨-, f32, -, f22⟩ := hM.f hL
  unfold F_X7_isBlock blk
  rw [zg_q (nq_zin1 (show nd (mkG n kd f0 f1 0) i < 8 by omega) (by decide)), nI_clamp (by omega), e15, f32, f22, F_isIn_nI (show mg (mkG n kd f0 f1 0) < 2 ^ 31 by omega) (show nd (mkG n kd f0 f1 0) i < 31 by omega), zb_q, F_isIn_nI (show rr (mkG n kd f0 f1 0) < 2 ^ 31 by omega) (show nd (mkG n kd f0 f1 0) i < 31 by omega), zb_q, (po_ok hg).1]
  by_cases q : ld (mkG n kd f0 f1 0) (nd (mkG n kd f0 f1 0) i) = nI x
  · rw [if_pos q]
    cases (mg (mkG n kd f0 f1 0)).testBit (nd (mkG n kd f0 f1 0) i) <;> simp [q, hm]
  · rw [if_neg q]
    simp [q]
theorem l7 (hw : gwf n kd f0 f1) (h0 : 0 < n) (hL : ML τ0 n kd f0 f1) {x : Nat} (hx : x ∈ po (mkG n kd f0 f1 0)) : ∀ (i N : Nat) (w : List Nat) (t : St) (τ : SF), i < (po (mkG n kd f0 f1 0)).length → i + 1 < N → MS τ0 w t τ → w.length + 2 * i ≤ 256 → ∃ z τ', L_X7_layWithin_7 (nI x) N (nI i) τ = some (z, τ') ∧ MS τ0 (itC (mkG n kd f0 f1 0) x i ++ w) t τ' := by
  have hg := mkG_ok hw 0
  have hlen := po_len hg
  intro i
  induction i with
  | zero =>
    intro N w t τ hi hN hM hB
    obtain ⟨N, rfl⟩ : ∃ K, N = K + 1 + 1 := ⟨N - 2, by omega⟩
    obtain ⟨e1, e2⟩ := m_blk hw h0 hL hM (x := x) hi
    have e3 : nI 0 + (-1) = -1 := by decide
    refine ⟨-1, τ, ?_, hM⟩
    unfold L_X7_layWithin_7
    rw [if_neg (by decide), zg_q (by decide), nI_clamp (by decide), e1, e2, blk_0 hg hx, zb_q, if_pos (by simp), zl_q, e3]
    unfold L_X7_layWithin_7
    rw [if_pos (by decide)]
  | succ i ih =>
    intro N w t τ hi hN hM hB
    obtain ⟨N, rfl⟩ : ∃ K, N = K + 1 := ⟨N - 1, by omega⟩
    obtain ⟨e1, e2⟩ := m_blk hw h0 hL hM (x := x) hi
    have hz := nq_zin1 (show i + 1 < 8 by omega) (by decide)
    have ek : (1000 : Int32) + nI (nd (mkG n kd f0 f1 0) (i + 1)) = nI (1000 + nd (mkG n kd f0 f1 0) (i + 1)) := nI_add 1000 _
    have e6 : (6301 : Int32) = nI 6301 := rfl
    unfold L_X7_layWithin_7
    rw [if_neg (nI_pos (by omega)), zg_q hz, nI_clamp (by omega), e1, e2, zb_q, pk_m1, ek]
    unfold itC
    cases hk : blk (mkG n kd f0 f1 0) x (nd (mkG n kd f0 f1 0) (i + 1)) with
    | false =>
      rw [if_pos (by simp), zl_q]
      obtain ⟨z, τ', k1, k2⟩ := ih N w t τ (by omega) (by omega) hM (by omega)
      exact ⟨z, τ', k1, by simpa using k2⟩
    | true =>
      obtain ⟨τ1, m1, m2⟩ := m_later hM (by omega) (1000 + nd (mkG n kd f0 f1 0) (i + 1))
      obtain ⟨τ2, m3, m4⟩ := m_later m2 (by rw [List.length_cons]; omega) 6301
      obtain ⟨z, τ', k1, k2⟩ := ih N _ t τ2 (by omega) (by omega) m4 (by rw [List.length_cons, List.length_cons]; omega)
      rw [if_neg (by simp), zg_q hz, m1, zb_q, e6, m3, zb_q, zl_q]
      refine ⟨z, τ', k1, ?_⟩
      rw [List.append_assoc]
      exact k2
theorem l116 (hw : gwf n kd f0 f1) (h0 : 0 < n) (hL : ML τ0 n kd f0 f1) {x : Nat} (w : List Nat) (t : St) (hB : w.length + 8 ≤ 256) : ∀ (m N i : Nat) (τ : SF), i + 1 + m = (po (mkG n kd f0 f1 0)).length → m < N → MS τ0 (itO (mkG n kd f0 f1 0) x i ++ w) t τ → ∃ z τ', L_X7_layWithin_116 (nI x) N (nI (i + 1)) τ = some (z, τ') ∧ MS τ0 (itO (mkG n kd f0 f1 0) x ((po (mkG n kd f0 f1 0)).length - 1) ++ w) t τ' := by
  have hg := mkG_ok hw 0
  have hlen := po_len hg
  intro m
  induction m with
  | zero =>
    intro N i τ hi hN hM
    obtain ⟨N, rfl⟩ : ∃ K, N = K + 1 := ⟨N - 1, by omega⟩
    have : i = (po (mkG n kd f0 f1 0)).length - 1 := by omega
    subst this
    refine ⟨nI ((po (mkG n kd f0 f1 0)).length - 1 + 1), τ, ?_, hM⟩
    unfold L_X7_layWithin_116
    rw [(hM.f hL).2.2.1, if_pos (nI_le (by omega) (by omega))]
  | succ m ih =>
    intro N i τ hi hN hM
    obtain ⟨N, rfl⟩ : ∃ K, N = K + 1 := ⟨N - 1, by omega⟩
    have hi1 : i + 1 < (po (mkG n kd f0 f1 0)).length := by omega
    obtain ⟨e1, e2⟩ := m_blk hw h0 hL hM (x := x) hi1
    have hz := nq_zin1 (show i + 1 < 8 by omega) (by decide)
    have ek : (5000 : Int32) + nI (nd (mkG n kd f0 f1 0) (i + 1)) = nI (5000 + nd (mkG n kd f0 f1 0) (i + 1)) := nI_add 5000 _
    have hln := itO_len (mkG n kd f0 f1 0) x i
    have nxt : ∀ τ', MS τ0 (itO (mkG n kd f0 f1 0) x (i + 1) ++ w) t τ' → _ := fun τ' h => ih N (i + 1) τ' (by omega) (by omega) h
    have hs : itO (mkG n kd f0 f1 0) x (i + 1) = (if blk (mkG n kd f0 f1 0) x (nd (mkG n kd f0 f1 0) (i + 1)) then [5000 + nd (mkG n kd f0 f1 0) (i + 1)] else []) ++ itO (mkG n kd f0 f1 0) x i := rfl
    rw [hs] at nxt
    unfold L_X7_layWithin_116
    rw [(hM.f hL).2.2.1, if_neg (nI_ge hi1 (by omega)), zg_q hz, nI_clamp (by omega), e1, e2, zb_q, ek, nI_1]
    cases hk : blk (mkG n kd f0 f1 0) x (nd (mkG n kd f0 f1 0) (i + 1)) with
    | false =>
      rw [hk] at nxt
      rw [if_pos (by simp), zl_q]
      exact nxt τ hM
    | true =>
      rw [hk] at nxt
      obtain ⟨τ1, m1, m2⟩ := m_later hM (by rw [List.length_append]; omega) (5000 + nd (mkG n kd f0 f1 0) (i + 1))
      rw [if_neg (by simp), zg_q hz, m1, zb_q, zl_q]
      exact nxt τ1 m2
def eI (m x : Nat) : List Nat := if m = 0 then [] else (3000 + 2 * x) :: (if m = 2 then [400, 3000 + (2 * x + 1), 401] else [])
theorem m_within (hw : gwf n kd f0 f1) (h0 : 0 < n) (hL : ML τ0 n kd f0 f1) {x : Nat} (hx : x ∈ po (mkG n kd f0 f1 0)) {w : List Nat} {t : St} {τ : SF} (hM : MS τ0 w t τ) (hB : w.length + 27 ≤ 256) : ∃ τ', F_X7_layWithin τ (nI x) = some τ' ∧ MS τ0 (itO (mkG n kd f0 f1 0) x ((po (mkG n kd f0 f1 0)).length - 1) ++ ([x] ++ (eI (en (kd x)) x ++ (itC (mkG n kd f0 f1 0) x ((po (mkG n kd f0 f1 0)).length - 1) ++ w)))) t τ' := by
  have hg := mkG_ok hw 0
  have hn := hw.1
  have hlen := po_len hg
  have hpos : 0 < (po (mkG n kd f0 f1 0)).length := List.length_pos_of_mem hx
  have hxn := Rch_n hw h0 ((mem_po hg).mp hx)
  have hen := en_le (kd x)
  have h5 := (hw.2 x hxn).1
  obtain ⟨z1, τ1, k1, k2⟩ := l7 hw h0 hL hx ((po (mkG n kd f0 f1 0)).length - 1) 100 w t τ (by omega) (by omega) hM (by omega)
  have hlc := itC_len (mkG n kd f0 f1 0) x ((po (mkG n kd f0 f1 0)).length - 1)
  have e23 : τ 0 23 - 1 = nI ((po (mkG n kd f0 f1 0)).length - 1) := by rw [(hM.f hL).2.2.1, nl_1, pk_sub (by omega)]
  have ek : τ1 10 x = nI (kd x) := by
    rw [k2.1 10 (by decide) (by decide) (by decide) (by decide)]
    exact (hL.1.2.2 x hxn).1
  have fin : ∀ (w2 : List Nat) (τ2 : SF), MS τ0 w2 t τ2 → w2.length + 8 ≤ 256 → ∃ z τ', L_X7_layWithin_116 (nI x) 100 0 τ2 = some (z, τ') ∧ MS τ0 (itO (mkG n kd f0 f1 0) x ((po (mkG n kd f0 f1 0)).length - 1) ++ w2) t τ' := by
    intro w2 τ2 hM2 hw2
    obtain ⟨e1, e2⟩ := m_blk hw h0 hL hM2 (x := x) hpos
    obtain ⟨z, τ', a1, a2⟩ := l116 hw h0 hL (x := x) w2 t hw2 ((po (mkG n kd f0 f1 0)).length - 1) 99 0 τ2 (by omega) (by omega) hM2
    refine ⟨z, τ', ?_, a2⟩
    have step : ∀ N, L_X7_layWithin_116 (nI x) (N + 1) (nI 0) τ2 = L_X7_layWithin_116 (nI x) N (nI (0 + 1)) τ2 := by
      intro N
      conv => lhs; unfold L_X7_layWithin_116
      rw [(hM2.f hL).2.2.1, if_neg (nI_ge hpos (by omega)), zg_q (by decide), nI_clamp (by decide), e1, e2, blk_0 hg hx, zb_q, if_pos (by simp), zl_q, nI_1]
    exact (step 99).trans a1
  have e30 : (3000 : Int32) + (2 : Int32) * nI x = nI (3000 + 2 * x) := by rw [nI_2k]; exact nI_add 3000 _
  have e31 : nI (3000 + 2 * x) + 1 = nI (3000 + (2 * x + 1)) := nI_1 _
  have e400 : (400 : Int32) = nI 400 := rfl
  have e401 : (401 : Int32) = nI 401 := rfl
  unfold F_X7_layWithin
  rw [zl_q, e23, k1, zb2_q, zg_q (nq_zin1 (show x < 8 by omega) (by decide)), nI_clamp (by omega), ek, F_ends7_nI h5, zb_q, e30, e31]
  have hl1 : (itC (mkG n kd f0 f1 0) x ((po (mkG n kd f0 f1 0)).length - 1) ++ w).length ≤ 14 + w.length := by rw [List.length_append]; omega
  generalize itC (mkG n kd f0 f1 0) x ((po (mkG n kd f0 f1 0)).length - 1) ++ w = w1 at *
  unfold eI
  rcases (show en (kd x) = 0 ∨ en (kd x) = 1 ∨ en (kd x) = 2 by omega) with he | he | he
  · rw [he, if_pos (show nI 0 ≤ 1 by decide), if_pos (show nI 0 ≤ 0 by decide)]
    obtain ⟨τ2, m1, m2⟩ := m_later k2 (by omega) x
    obtain ⟨z, τ3, m3, m4⟩ := fin _ τ2 m2 (by rw [List.length_cons]; omega)
    rw [m1, zb_q, m3, zb2_q]
    exact ⟨τ3, rfl, m4⟩
  · rw [he, if_pos (show nI 1 ≤ 1 by decide), if_neg (show ¬ nI 1 ≤ 0 by decide)]
    obtain ⟨τ2, m1, m2⟩ := m_later k2 (by omega) (3000 + 2 * x)
    obtain ⟨τ3, m3, m4⟩ := m_later m2 (by rw [List.length_cons]; omega) x
    obtain ⟨z, τ4, m5, m6⟩ := fin _ τ3 m4 (by rw [List.length_cons, List.length_cons]; omega)
    rw [m1, zb_q, m3, zb_q, m5, zb2_q]
    exact ⟨τ4, rfl, m6⟩
  · rw [he, if_neg (show ¬ nI 2 ≤ 1 by decide)]
    obtain ⟨τ2, m1, m2⟩ := m_later k2 (by omega) 401
    obtain ⟨τ3, m3, m4⟩ := m_later m2 (by rw [List.length_cons]; omega) (3000 + (2 * x + 1))
    obtain ⟨τ4, m5, m6⟩ := m_later m4 (by rw [List.length_cons, List.length_cons]; omega) 400
    obtain ⟨τ5, m7, m8⟩ := m_later m6 (by rw [List.length_cons, List.length_cons, List.length_cons]; omega) (3000 + 2 * x)
    obtain ⟨τ6, m9, m10⟩ := m_later m8 (by rw [List.length_cons, List.length_cons, List.length_cons, List.length_cons]; omega) x
    obtain ⟨z, τ7, m11, m12⟩ := fin _ τ6 m10 (by rw [List.length_cons, List.length_cons, List.length_cons, List.length_cons, List.length_cons]; omega)
    rw [e401, m1, zb_q, m3, zb_q, e400, m5, zb_q, if_neg (show ¬ nI 2 ≤ 0 by decide), m7, zb_q, m9, zb_q, m11, zb2_q]
    exact ⟨τ7, rfl, m12⟩
end MT
