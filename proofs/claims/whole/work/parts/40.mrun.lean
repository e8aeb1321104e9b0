/-! what waits is run -/
def RunM (τ0 : SF) (I : List Nat) (E : List Ev) (B K : Nat) : Prop := ∀ (w : List Nat) (t : St) (τ : SF), MS τ0 (I ++ w) t τ → Rm t E → fit E t → w.length + B ≤ 256 → ∃ τ' k, k ≤ K ∧ MS τ0 w (ex E t) τ' ∧ ∀ N, L_X7_layFold_55 (N + k) τ = L_X7_layFold_55 N τ'
theorem run_nil (τ0 : SF) (B : Nat) : RunM τ0 [] [] B 0 := fun _ _ τ h _ _ _ => ⟨τ, 0, Nat.le_refl _, h, fun _ => rfl⟩
theorem run_app {τ0 : SF} {I1 I2 : List Nat} {E1 E2 : List Ev} {B1 B2 K1 K2 B : Nat} (h1 : RunM τ0 I1 E1 B1 K1) (h2 : RunM τ0 I2 E2 B2 K2) (hB1 : I2.length + B1 ≤ B) (hB2 : B2 ≤ B) : RunM τ0 (I1 ++ I2) (E1 ++ E2) B (K1 + K2) := by
  intro w t τ hM hR hf hw
  rw [List.append_assoc] at hM
  obtain ⟨hR1, hR2⟩ := hR.app
  obtain ⟨hf1, hf2⟩ := (fit_app _ _ _).mp hf
  obtain ⟨τ1, k1, a1, a2, a3⟩ := h1 (I2 ++ w) t τ hM hR1 hf1 (by rw [List.length_append]; omega)
  obtain ⟨τ2, k2, b1, b2, b3⟩ := h2 w _ τ1 a2 hR2 hf2 (by omega)
  refine ⟨τ2, k1 + k2, by omega, by rw [ex_app]; exact b2, fun N => ?_⟩
  rw [show N + (k1 + k2) = (N + k2) + k1 by omega, a3, b3]
theorem run_mono {τ0 : SF} {I : List Nat} {E : List Ev} {B K B' K' : Nat} (h : RunM τ0 I E B K) (hB : B ≤ B') (hK : K ≤ K') : RunM τ0 I E B' K' := by
  intro w t τ hM hR hf hw
  obtain ⟨τ1, k1, a1, a2, a3⟩ := h w t τ hM hR hf (by omega)
  exact ⟨τ1, k1, by omega, a2, a3⟩
theorem run_one {τ0 : SF} {c : Nat} {e : Ev} (h : ∀ (w : List Nat) (t : St) (τ : SF), MS τ0 w t τ → t.1.length < 128 → t.2.2.2.2.length ≤ 16 → (e.1 = 1 → t.2.2.2.2.length < 16) → fit1 e t → ∃ τ', F_X7_doNext τ (nI c) = some τ' ∧ MS τ0 w (ex1 e t) τ') : RunM τ0 [c] [e] 1 1 := by
  intro w t τ hM hR hf hw
  obtain ⟨τ9, m1, m2⟩ := m_take (w := w) hM (by omega)
  have hr := hR.cons.1
  have ho := hR.2
  obtain ⟨τ', d1, d2⟩ := h w t τ9 m1 (by omega) (by omega) (fun q => by
    have : ops [e] = 1 := by unfold ops; rw [List.filter_cons]; simp [q]
    omega) hf.1
  exact ⟨τ', 1, Nat.le_refl _, d2, fun N => by rw [m2, d1, zb_q]⟩
theorem run_push {τ0 : SF} {c : Nat} {I : List Nat} {E : List Ev} {B K B' : Nat} (h : ∀ (w : List Nat) (t : St) (τ : SF), MS τ0 w t τ → w.length + B' ≤ 256 → ∃ τ', F_X7_doNext τ (nI c) = some τ' ∧ MS τ0 (I ++ w) t τ') (hr : RunM τ0 I E B K) (hB : B ≤ B') (h1 : 1 ≤ B') : RunM τ0 [c] E B' (K + 1) := by
  intro w t τ hM hR hf hw
  obtain ⟨τ9, m1, m2⟩ := m_take (w := w) hM (by omega)
  obtain ⟨τ1, d1, d2⟩ := h w t τ9 m1 hw
  obtain ⟨τ2, k, a1, a2, a3⟩ := hr w t τ1 d2 hR hf (by omega)
  exact ⟨τ2, k + 1, by omega, a2, fun N => by rw [show N + (k + 1) = (N + k) + 1 by omega, m2, d1, zb_q, a3]⟩
theorem dn_gen (τ : SF) {q r : Nat} (hq : q < 10) (hr : r < 1000) : F_X7_doNext τ (nI (1000 * q + r)) = if nI (1000 * q) = 1000 then (zb (F_X7_layTree τ (nI r)) fun σ4 => some σ4) else if nI (1000 * q) = 2000 then (zb (F_X7_layWithin τ (nI r)) fun σ6 => some σ6) else if nI (1000 * q) = 3000 then (zb (F_X7_branch τ (nI r)) fun σ8 => some σ8) else if nI (1000 * q) = 4000 then (zb (F_X7_tell τ ((100 : Int32) + nI r)) fun σ10 => zb (F_X7_opens σ10 (nI (1000 * q + r))) fun σ12 => some σ12) else if nI (1000 * q) = 5000 then (zb (F_X7_tell τ ((200 : Int32) + nI r)) fun σ14 => zb (F_X7_opens σ14 (nI (1000 * q + r))) fun σ16 => some σ16) else if nI (1000 * q) = 6000 then (zb (F_X7_tell τ (nI r)) fun σ18 => zl (zst σ18 0 43 ((σ18 0 43) - 1)) fun σ19 => some σ19) else (zb (F_X7_tell τ (nI (1000 * q + r))) fun σ21 => some σ21) := by
  have hd : nI (1000 * q + r) / 1000 = nI q := by
    have := pk_div (a := 1000 * q + r) (d := 1000) (by omega) (by decide) (by decide)
    rw [show (1000 * q + r) / 1000 = q by omega] at this
    exact this
  have hm : nI q * 1000 = nI (1000 * q) := by
    have := pk_mul q 1000
    rw [show q * 1000 = 1000 * q by omega] at this
    exact this
  have hs : nI (1000 * q + r) - nI (1000 * q) = nI r := by rw [pk_sub (by omega), show 1000 * q + r - 1000 * q = r by omega]
  unfold F_X7_doNext
  rw [zl_q, zl_q, hd, hm, hs]
section MR
variable {τ0 : SF}
theorem run_tell {c : Nat} (hc : c < 1000) : RunM τ0 [c] [(0, c, 0)] 1 1 := run_one (fun w t τ hM hr ho _ hf => by
  obtain ⟨τ', h1, h2⟩ := m_tell hM hr c
  refine ⟨τ', ?_, h2⟩
  have := dn_gen τ (q := 0) (r := c) (by decide) hc
  rw [Nat.mul_zero, Nat.zero_add, if_neg (by decide), if_neg (by decide), if_neg (by decide), if_neg (by decide), if_neg (by decide), if_neg (by decide), h1, zb_q] at this
  exact this)
theorem run_o4 {x : Nat} (hx : x < 8) : RunM τ0 [4000 + x] [(1, 100 + x, 0)] 1 1 := run_one (fun w t τ hM hr ho ho1 hf => by
  obtain ⟨τ1, h1, h2⟩ := m_tell hM hr (100 + x)
  obtain ⟨τ2, h3, h4⟩ := m_opens (s := 100 + x) h2 (by have := ho1 rfl; show t.2.2.2.2.length < 64; omega) (Or.inl ⟨by omega, by omega⟩)
  have e : mc (100 + x) = 4000 + x := by unfold mc; rw [if_pos (by omega)]; omega
  rw [e] at h3
  refine ⟨τ2, ?_, h4⟩
  have := dn_gen τ (q := 4) (r := x) (by decide) (by omega)
  have e1 : (100 : Int32) + nI x = nI (100 + x) := nI_add 100 x
  rw [if_neg (by decide), if_neg (by decide), if_neg (by decide), if_pos (by decide), e1, h1, zb_q, show 1000 * 4 + x = 4000 + x by omega, h3, zb_q] at this
  exact this)
theorem run_o5 {x : Nat} (hx : x < 8) : RunM τ0 [5000 + x] [(1, 200 + x, 0)] 1 1 := run_one (fun w t τ hM hr ho ho1 hf => by
  obtain ⟨τ1, h1, h2⟩ := m_tell hM hr (200 + x)
  obtain ⟨τ2, h3, h4⟩ := m_opens (s := 200 + x) h2 (by have := ho1 rfl; show t.2.2.2.2.length < 64; omega) (Or.inr ⟨by omega, by omega⟩)
  have e : mc (200 + x) = 5000 + x := by unfold mc; rw [if_neg (by omega)]; omega
  rw [e] at h3
  refine ⟨τ2, ?_, h4⟩
  have := dn_gen τ (q := 5) (r := x) (by decide) (by omega)
  have e1 : (200 : Int32) + nI x = nI (200 + x) := nI_add 200 x
  rw [if_neg (by decide), if_neg (by decide), if_neg (by decide), if_neg (by decide), if_pos (by decide), e1, h1, zb_q, show 1000 * 5 + x = 5000 + x by omega, h3, zb_q] at this
  exact this)
theorem run_c6 {s : Nat} (hs : s < 1000) : RunM τ0 [6000 + s] [(2, s, 0)] 1 1 := run_one (fun w t τ hM hr ho ho1 hf => by
  obtain ⟨τ1, h1, a0, b0, a1, a2, a3, a4, a5, a6, a7, a8, a9, a10, a11⟩ := m_tell hM hr s
  have hne : t.2.2.2.2 ≠ [] := hf.1 rfl
  have e43 : τ1 0 43 - 1 = nI t.2.2.2.2.tail.length := by
    have a6' : τ1 0 43 = nI t.2.2.2.2.length := a6
    have : 0 < t.2.2.2.2.length := List.length_pos_iff.mpr hne
    rw [a6', nl_1, pk_sub (by omega), List.length_tail]
  refine ⟨zst τ1 0 43 (nI t.2.2.2.2.tail.length), ?_, ⟨fun c h0 h1 h2 h3 => ?_, fun k hk => ?_, a1, a2, a3, a4, a5, rfl, a7, a8, ?_, a10, fun c hc => a11 c (List.mem_of_mem_tail hc)⟩⟩
  · have := dn_gen τ (q := 6) (r := s) (by decide) hs
    rw [if_neg (by decide), if_neg (by decide), if_neg (by decide), if_neg (by decide), if_neg (by decide), if_pos (by decide), h1, zb_q, e43, zl_q, show 1000 * 6 + s = 6000 + s by omega] at this
    exact this
  · rw [← a0 c h0 h1 h2 h3]; simp [zst, zsr, h0]
  · rw [← b0 k hk]; simp [zst, zsr, upd, hk.2.2.2.2.2]
  · show STK (τ1 21) ((t.2.2.2.2.tail).map mc)
    rw [List.map_tail]
    exact a9.tail)
/-- what the laid graph looks like while its signs are written -/
def ML (τ0 : SF) (n : Nat) (kd f0 f1 : Nat → Nat) : Prop := MIs (τ0 0) (τ0 10) (τ0 11) n kd f0 f1 0 ∧ LayIs τ0 n (mkG n kd f0 f1 0)
theorem MS.me {w : List Nat} {t : St} {τ : SF} {n : Nat} {kd f0 f1 : Nat → Nat} (h : MS τ0 w t τ) (hL : ML τ0 n kd f0 f1) : MEs τ n 0 kd f0 f1 := by
  have hm := hL.2.mes hL.1
  unfold MEs MIs at hm ⊢
  rw [h.1 10 (by decide) (by decide) (by decide) (by decide), h.1 11 (by decide) (by decide) (by decide) (by decide), h.1 13 (by decide) (by decide) (by decide) (by decide), h.1 14 (by decide) (by decide) (by decide) (by decide), h.2.1 18 (by unfold wk; decide), h.2.1 19 (by unfold wk; decide), h.2.1 22 (by unfold wk; decide)]
  exact hm
theorem MS.f {w : List Nat} {t : St} {τ : SF} {n : Nat} {kd f0 f1 : Nat → Nat} (h : MS τ0 w t τ) (hL : ML τ0 n kd f0 f1) : τ 0 31 = nI (hd (mkG n kd f0 f1 0)) ∧ τ 0 32 = nI (mg (mkG n kd f0 f1 0)) ∧ τ 0 23 = nI (po (mkG n kd f0 f1 0)).length ∧ τ 0 22 = nI (rr (mkG n kd f0 f1 0)) := by
  rw [h.2.1 31 (by unfold wk; decide), h.2.1 32 (by unfold wk; decide), h.2.1 23 (by unfold wk; decide), h.2.1 22 (by unfold wk; decide)]
  exact ⟨hL.2.2.2.2.2.2.2.2.2.2.1, hL.2.2.2.2.2.2.2.2.2.2.2, hL.2.2.1, hL.2.1⟩
theorem run_br {n : Nat} {kd f0 f1 : Nat → Nat} (hw : gwf n kd f0 f1) (hL : ML τ0 n kd f0 f1) {f : Nat → List Ev} {e y BT KT : Nat} (hl : lvE (mkG n kd f0 f1 0) e = some y) (hch : fwd (mkG n kd f0 f1 0) e y → (mg (mkG n kd f0 f1 0)).testBit y = false → RunM τ0 [1000 + y] (f y) BT KT) (hBT : 2 ≤ BT) : RunM τ0 [3000 + e] (br f (mkG n kd f0 f1 0) e) BT (KT + 1) := by
  have hg := mkG_ok hw 0
  have hn := hw.1
  obtain ⟨l1, l2, l3, l4, l5⟩ := lvE_ok hg hl
  have hlt := mkG_lt hw l5
  have ht : tgt f0 f1 e = y := by have := mkG_some (n := n) (W := 0) (kd := kd) (f0 := f0) (f1 := f1) (e := e) (by rw [l5]; rfl); rw [l5] at this; cases this; rfl
  have hmg : mg (mkG n kd f0 f1 0) < 2 ^ 8 := (wa_lt hg 16).2.1
  have e1 : (1000 : Int32) + nI y = nI (1000 + y) := nI_add 1000 y
  have e5 : (5000 : Int32) + nI y = nI (5000 + y) := nI_add 5000 y
  have e4 : (4000 : Int32) + nI y = nI (4000 + y) := nI_add 4000 y
  have hbr : ∀ (w : List Nat) (t : St) (τ : SF), MS τ0 w t τ → F_X7_doNext τ (nI (3000 + e)) = zb (if pl (mkG n kd f0 f1 0) (e / 2) < pl (mkG n kd f0 f1 0) y then (if (mg (mkG n kd f0 f1 0)).testBit y then (zb (F_X7_goOut τ 600 (nI (5000 + y))) fun σ9 => some σ9) else (zb (F_X7_later τ (nI (1000 + y))) fun σ7 => some σ7)) else (zb (F_X7_goOut τ 500 (nI (4000 + y))) fun σ11 => some σ11)) (fun σ8 => some σ8) := by
    intro w t τ hM
    have hE := hM.me hL
    have := dn_gen τ (q := 3) (r := e) (by decide) (by omega)
    rw [if_neg (by decide), if_neg (by decide), if_pos (by decide), show 1000 * 3 + e = 3000 + e by omega] at this
    rw [this]
    congr 1
    unfold F_X7_branch
    rw [zg_q (nq_zin1 l1 (by decide)), zl_q, nI_clamp (by omega), hE.1.at (by omega), ht, F_retreats_nI hE hw l5 l3, zb_q, e1, e4, e5, (hM.f hL).2.1, F_isIn_nI (show mg (mkG n kd f0 f1 0) < 2 ^ 31 by omega) (show y < 31 by omega), zb_q]
    by_cases hp : pl (mkG n kd f0 f1 0) (e / 2) < pl (mkG n kd f0 f1 0) y
    · rw [if_pos hp, if_pos hp, if_pos rfl]
      cases (mg (mkG n kd f0 f1 0)).testBit y with
      | true => rw [if_neg (by simp), if_pos rfl]
      | false => rw [if_pos (by simp), if_neg (by simp)]
    · rw [if_neg hp, if_neg hp, if_neg i10]
  unfold br
  rw [hl]
  simp only
  by_cases hp : pl (mkG n kd f0 f1 0) (e / 2) < pl (mkG n kd f0 f1 0) y
  · rw [if_pos hp]
    cases hm : (mg (mkG n kd f0 f1 0)).testBit y with
    | true =>
      rw [if_pos rfl]
      refine run_mono (run_one (fun w t τ hM hr ho ho1 hf => ?_)) (by omega) (by omega)
      have hc : cok (200 + y) := Or.inr ⟨by omega, by omega⟩
      obtain ⟨τ', k1, k2⟩ := m_goOut hM hr (by omega) hc (hf.2 rfl) 600
      have e : mc (200 + y) = 5000 + y := by unfold mc; rw [if_neg (by omega)]; omega
      have e6 : (600 : Int32) = nI 600 := rfl
      rw [e] at k1
      refine ⟨τ', ?_, k2⟩
      rw [hbr w t τ hM, if_pos hp, hm, if_pos rfl, e6, k1, zb_q, zb_q]
    | false =>
      rw [if_neg (by simp)]
      refine run_push (fun w t τ hM hB => ?_) (hch ⟨hl, hp⟩ hm) (Nat.le_refl _) (by omega)
      obtain ⟨τ', k1, k2⟩ := m_later hM (by omega) (1000 + y)
      refine ⟨τ', ?_, k2⟩
      rw [hbr w t τ hM, if_pos hp, hm, if_neg (by simp), k1, zb_q, zb_q]
  · rw [if_neg hp]
    refine run_mono (run_one (fun w t τ hM hr ho ho1 hf => ?_)) (by omega) (by omega)
    have hc : cok (100 + y) := Or.inl ⟨by omega, by omega⟩
    obtain ⟨τ', k1, k2⟩ := m_goOut hM hr (by omega) hc (hf.2 rfl) 500
    have e : mc (100 + y) = 4000 + y := by unfold mc; rw [if_pos (by omega)]; omega
    have e6 : (500 : Int32) = nI 500 := rfl
    rw [e] at k1
    refine ⟨τ', ?_, k2⟩
    rw [hbr w t τ hM, if_neg hp, e6, k1, zb_q, zb_q]
end MR
