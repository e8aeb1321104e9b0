/-! the class's whole fold -/
noncomputable def FT (g : Gr) (kd : Nat → Nat) : St := if bd g = 0 then ex (tr g kd 8 0) ([], 0, 0, 0, []) else ([], 0, 0, 0, [])
theorem tr_room {g : Gr} (hg : gok g) (hb : bd g = 0) (kd : Nat → Nat) : Rm ([], 0, 0, 0, []) (tr g kd 8 0) := by
  have h1 := tr_len g kd 8 0
  have h2 := vs_len hg hb 8 0 (po_ok hg).2.2.2.2.1
  refine ⟨?_, ?_⟩
  · simp; omega
  · simp; omega
theorem c_write {n : Nat} {kd f0 f1 : Nat → Nat} {σ : SF} (hw : gwf n kd f0 f1) (h0 : 0 < n) (hJ : JIs σ 3 n kd f0 f1) (hF : FlowIs σ 3 (mkG n kd f0 f1 0)) : ∃ σ', F_X4_write σ = some σ' ∧ CS σ (FT (mkG n kd f0 f1 0) kd) σ' := by
  have hg := mkG_ok hw 0
  have hC : CS σ ([], 0, 0, 0, []) (zst (zst (zst (zst (zst σ 13 3 0) 13 4 0) 13 5 0) 13 6 0) 13 8 0) := by
    refine ⟨fun c h1 h2 h3 => ?_, rfl, rfl, rfl, rfl, rfl, STK.nil _, STK.nil _, by decide, fun c hc => by simp at hc⟩
    simp [zst, zsr, h1]
  unfold F_X4_write
  rw [zl_q, zl_q, zl_q, zl_q, zl_q, q_folds hg (hC.F hF), zb_q]
  by_cases hb : bd (mkG n kd f0 f1 0) = 0
  · have hp : pc (dk (mkG n kd f0 f1 0) 0) + 8 = 9 := by
      rw [dk_zero hg]
      have : pc 1 = 1 := by decide +kernel
      omega
    obtain ⟨σ', k1, k2⟩ := ctr hw h0 hJ hF hb 8 0 _ _ (po_ok hg).2.2.2.2.1 hp hC (tr_room hg hb kd)
    have k1' : F_X4_putTree 9 (zst (zst (zst (zst (zst σ 13 3 0) 13 4 0) 13 5 0) 13 6 0) 13 8 0) 0 0 = some σ' := k1
    rw [if_pos hb, if_neg i10, k1', zb_q]
    refine ⟨σ', rfl, ?_⟩
    unfold FT
    rw [if_pos hb]; exact k2
  · rw [if_neg hb, if_pos rfl]
    refine ⟨_, rfl, ?_⟩
    unfold FT
    rw [if_neg hb]; exact hC
/-! THE REFERENCE WRITES THE SIGNS -/
def mc (c : Nat) : Nat := if c < 200 then c + 3900 else c + 4800
def cok (c : Nat) : Prop := (100 ≤ c ∧ c < 108) ∨ (200 ≤ c ∧ c < 208)
theorem mc_inj {a b : Nat} (ha : cok a) (hb : cok b) (h : mc a = mc b) : a = b := by
  unfold mc at h
  unfold cok at ha hb
  split at h <;> split at h <;> omega
theorem mc_lt {a : Nat} (ha : cok a) : mc a < 2 ^ 31 := by
  unfold mc
  unfold cok at ha
  split <;> omega
def wk (k : Nat) : Prop := k ≠ 36 ∧ k ≠ 37 ∧ k ≠ 38 ∧ k ≠ 39 ∧ k ≠ 41 ∧ k ≠ 43
def MS (τ0 : SF) (w : List Nat) (t : St) (τ : SF) : Prop := (∀ c, c ≠ 0 → c ≠ 19 → c ≠ 20 → c ≠ 21 → τ c = τ0 c) ∧ (∀ k, wk k → τ 0 k = τ0 0 k) ∧ τ 0 36 = nI t.1.length ∧ τ 0 37 = nI t.2.1 ∧ τ 0 38 = nI t.2.2.1 ∧ τ 0 39 = nI t.2.2.2.1 ∧ τ 0 41 = nI w.length ∧ τ 0 43 = nI t.2.2.2.2.length ∧ STK (τ 19) t.1 ∧ STK (τ 20) w ∧ STK (τ 21) (t.2.2.2.2.map mc) ∧ t.2.2.2.1 ≤ 64 ∧ ∀ c ∈ t.2.2.2.2, cok c
theorem STK.mapped {row : Nat → Int32} {l : List Nat} {f : Nat → Nat} (h : STK row (l.map f)) {j : Nat} (hj : j < l.length) : row (l.length - 1 - j) = nI (f l[j]) := by
  have := h j (by simpa using hj)
  simpa using this
section MX
variable {τ0 τ : SF} {w : List Nat} {t : St}
theorem m_tell (h : MS τ0 w t τ) (hr : t.1.length < 128) (s : Nat) : ∃ τ', F_X7_tell τ (nI s) = some τ' ∧ MS τ0 w (s :: t.1, t.2) τ' := by
  obtain ⟨a0, b0, a1, a2, a3, a4, a5, a6, a7, a8, a9, a10, a11⟩ := h
  refine ⟨zst (zst τ 19 t.1.length (nI s)) 0 36 (nI (t.1.length + 1)), ?_, ?_⟩
  · unfold F_X7_tell
    have e1 : (zst τ 19 t.1.length (nI s)) 0 36 = nI t.1.length := a1
    rw [a1, zg_q (nq_zin1 hr (by decide)), zl_q, nI_clamp (by omega), e1, zl_q, nI_1]
  · refine ⟨fun c h0 h1 h2 h3 => ?_, fun k hk => ?_, rfl, a2, a3, a4, a5, a6, a7.push s, a8, a9, a10, a11⟩
    · rw [← a0 c h0 h1 h2 h3]; simp [zst, zsr, h0, h1]
    · rw [← b0 k hk]; simp [zst, zsr, upd, hk.1]
theorem m_later (h : MS τ0 w t τ) (hr : w.length < 256) (s : Nat) : ∃ τ', F_X7_later τ (nI s) = some τ' ∧ MS τ0 (s :: w) t τ' := by
  obtain ⟨a0, b0, a1, a2, a3, a4, a5, a6, a7, a8, a9, a10, a11⟩ := h
  refine ⟨zst (zst τ 20 w.length (nI s)) 0 41 (nI (w.length + 1)), ?_, ?_⟩
  · unfold F_X7_later
    have e1 : (zst τ 20 w.length (nI s)) 0 41 = nI w.length := a5
    rw [a5, zg_q (nq_zin1 hr (by decide)), zl_q, nI_clamp (by omega), e1, zl_q, nI_1]
  · refine ⟨fun c h0 h1 h2 h3 => ?_, fun k hk => ?_, a1, a2, a3, a4, rfl, a6, a7, a8.push s, a9, a10, a11⟩
    · rw [← a0 c h0 h1 h2 h3]; simp [zst, zsr, h0, h2]
    · rw [← b0 k hk]; simp [zst, zsr, upd, hk.2.2.2.2.1]
theorem m_opens (h : MS τ0 w t τ) (ho : t.2.2.2.2.length < 64) {s : Nat} (hs : cok s) : ∃ τ', F_X7_opens τ (nI (mc s)) = some τ' ∧ MS τ0 w (t.1, t.2.1, t.2.2.1, max t.2.2.2.1 (t.2.2.2.2.length + 1), s :: t.2.2.2.2) τ' := by
  obtain ⟨a0, b0, a1, a2, a3, a4, a5, a6, a7, a8, a9, a10, a11⟩ := h
  refine ⟨zst (zst (zst τ 21 t.2.2.2.2.length (nI (mc s))) 0 43 (nI (t.2.2.2.2.length + 1))) 0 39 (nI (max t.2.2.2.1 (t.2.2.2.2.length + 1))), ?_, ?_⟩
  · unfold F_X7_opens
    have e1 : (zst τ 21 t.2.2.2.2.length (nI (mc s))) 0 43 = nI t.2.2.2.2.length := a6
    have e2 : (zst (zst τ 21 t.2.2.2.2.length (nI (mc s))) 0 43 (nI (t.2.2.2.2.length + 1))) 0 39 = nI t.2.2.2.1 := a4
    have e3 : (zst (zst τ 21 t.2.2.2.2.length (nI (mc s))) 0 43 (nI (t.2.2.2.2.length + 1))) 0 43 = nI (t.2.2.2.2.length + 1) := rfl
    rw [a6, zg_q (nq_zin1 ho (by decide)), zl_q, nI_clamp (by omega), e1, nI_1, zl_q, e2, e3, zl_q, zl_q]
    by_cases q : t.2.2.2.2.length + 1 ≤ t.2.2.2.1
    · rw [if_pos (nI_le q (by omega)), Nat.max_eq_left q]
    · rw [if_neg (nI_ge (by omega) (by omega)), Nat.max_eq_right (by omega)]
  · have ep := a9.push (mc s)
    rw [List.length_map] at ep
    refine ⟨fun c h0 h1 h2 h3 => ?_, fun k hk => ?_, a1, a2, a3, rfl, a5, rfl, a7, a8, ep, ?_, fun c hc => ?_⟩
    · rw [← a0 c h0 h1 h2 h3]; simp [zst, zsr, h0, h3]
    · rw [← b0 k hk]; simp [zst, zsr, upd, hk.2.2.2.1, hk.2.2.2.2.2]
    · show max t.2.2.2.1 (t.2.2.2.2.length + 1) ≤ 64
      omega
    · rcases List.mem_cons.mp hc with rfl | hc
      · exact hs
      · exact a11 c hc
theorem md_loop (h : MS τ0 w t τ) (ho : t.2.2.2.2.length ≤ 64) {key : Nat} (hk : cok key) : ∀ (m N j : Nat), j + m + 1 = t.2.2.2.2.length → m < N → key ∈ t.2.2.2.2.drop j → L_X7_depthOf_7 τ (nI (mc key)) N (nI (t.2.2.2.2.length - 1 - j)) = some (nI (t.2.2.2.2.length - 1 - (j + ix (t.2.2.2.2.drop j) key))) ∧ j + ix (t.2.2.2.2.drop j) key < t.2.2.2.2.length := by
  obtain ⟨a0, b0, a1, a2, a3, a4, a5, a6, a7, a8, a9, a10, a11⟩ := h
  intro m
  induction m with
  | zero =>
    intro N j hj hN hm
    obtain ⟨N, rfl⟩ : ∃ K, N = K + 1 := ⟨N - 1, by omega⟩
    have hj' : j < t.2.2.2.2.length := by omega
    have hd : t.2.2.2.2.drop j = [t.2.2.2.2[j]] := by
      rw [List.drop_eq_getElem_cons hj', List.drop_eq_nil_of_le (by omega)]
    have hkey : t.2.2.2.2[j] = key := by rw [hd] at hm; exact (List.mem_singleton.mp hm).symm
    have hrow := a9.mapped hj'
    rw [hkey] at hrow
    rw [ix_drop hj', if_pos hkey]
    refine ⟨?_, by omega⟩
    unfold L_X7_depthOf_7
    rw [zg_q (nq_zin1 (show t.2.2.2.2.length - 1 - j < 64 by omega) (by decide)), nI_clamp (by omega), hrow, if_pos rfl]
    rfl
  | succ m ih =>
    intro N j hj hN hm
    obtain ⟨N, rfl⟩ : ∃ K, N = K + 1 := ⟨N - 1, by omega⟩
    have hj' : j < t.2.2.2.2.length := by omega
    have hrow := a9.mapped hj'
    rw [ix_drop hj']
    have hcj := a11 _ (List.getElem_mem hj')
    unfold L_X7_depthOf_7
    rw [zg_q (nq_zin1 (show t.2.2.2.2.length - 1 - j < 64 by omega) (by decide)), nI_clamp (by omega), hrow]
    by_cases q : t.2.2.2.2[j] = key
    · rw [if_pos (by rw [q]), if_pos q]
      exact ⟨rfl, by omega⟩
    · rw [if_neg (fun z => q (mc_inj hcj hk ((nI_eq (mc_lt hcj) (mc_lt hk)).mp z))), if_neg q, zl_q]
      have e1 : nI (t.2.2.2.2.length - 1 - j) + (-1) = nI (t.2.2.2.2.length - 1 - (j + 1)) := by
        rw [show t.2.2.2.2.length - 1 - j = (t.2.2.2.2.length - 1 - (j + 1)) + 1 by omega]; exact pk_m1 _
      have hm2 : key ∈ t.2.2.2.2.drop (j + 1) := by
        rw [List.drop_eq_getElem_cons hj'] at hm
        rcases List.mem_cons.mp hm with z | z
        · exact absurd z.symm q
        · exact z
      obtain ⟨i1, i2⟩ := ih N (j + 1) (by omega) (by omega) hm2
      rw [e1, i1]
      refine ⟨?_, by omega⟩
      rw [show j + 1 + ix (t.2.2.2.2.drop (j + 1)) key = j + (ix (t.2.2.2.2.drop (j + 1)) key + 1) by omega]
theorem m_depth (h : MS τ0 w t τ) (ho : t.2.2.2.2.length ≤ 64) {key : Nat} (hk : cok key) (hm : key ∈ t.2.2.2.2) : F_X7_depthOf τ (nI (mc key)) = some (nI (ix t.2.2.2.2 key)) := by
  have hpos : 0 < t.2.2.2.2.length := List.length_pos_of_mem hm
  obtain ⟨e, e2⟩ := md_loop h ho hk (t.2.2.2.2.length - 1) 100 0 (by omega) (by omega) (by rw [List.drop_zero]; exact hm)
  rw [List.drop_zero, Nat.zero_add, Nat.sub_zero] at e
  rw [List.drop_zero, Nat.zero_add] at e2
  have a6 : τ 0 43 = nI t.2.2.2.2.length := h.2.2.2.2.2.2.2.1
  have e3 : nI t.2.2.2.2.length - 1 = nI (t.2.2.2.2.length - 1) := by rw [nl_1, pk_sub (by omega)]
  unfold F_X7_depthOf
  rw [a6, e3, zl_q, e, zb_q, pk_sub (by omega), show t.2.2.2.2.length - 1 - (t.2.2.2.2.length - 1 - ix t.2.2.2.2 key) = ix t.2.2.2.2 key by omega]
theorem m_goOut (h : MS τ0 w t τ) (hr : t.1.length < 128) (ho : t.2.2.2.2.length ≤ 64) {key : Nat} (hk : cok key) (hm : key ∈ t.2.2.2.2) (b : Nat) : ∃ τ', F_X7_goOut τ (nI b) (nI (mc key)) = some τ' ∧ MS τ0 w (ex1 (3, b, key) t) τ' := by
  obtain ⟨τ1, h1, a0, b0, a1, a2, a3, a4, a5, a6, a7, a8, a9, a10, a11⟩ := m_tell h hr (b + ix t.2.2.2.2 key)
  refine ⟨zst (zst τ1 0 37 (nI (t.2.1 + 1))) 0 38 (nI (t.2.2.1 + ix t.2.2.2.2 key)), ?_, ?_⟩
  · unfold F_X7_goOut
    have a2' : τ1 0 37 = nI t.2.1 := a2
    have e5 : (zst τ1 0 37 (nI (t.2.1 + 1))) 0 38 = nI t.2.2.1 := a3
    rw [m_depth h ho hk hm, zb_q, nI_add, h1, zb_q, a2', nI_1, zl_q, e5, nI_add, zl_q]
  · refine ⟨fun c h0 h1 h2 h3 => ?_, fun k hk => ?_, a1, rfl, rfl, a4, a5, a6, a7, a8, a9, a10, a11⟩
    · rw [← a0 c h0 h1 h2 h3]; simp [zst, zsr, h0]
    · rw [← b0 k hk]; simp [zst, zsr, upd, hk.2.1, hk.2.2.1]
/-- one thing that waits is taken -/
theorem m_take {c : Nat} (h : MS τ0 (c :: w) t τ) (hr : w.length < 256) : ∃ τ9, MS τ0 w t τ9 ∧ ∀ N, L_X7_layFold_55 (N + 1) τ = zb (F_X7_doNext τ9 (nI c)) (fun σ12 => L_X7_layFold_55 N σ12) := by
  obtain ⟨a0, b0, a1, a2, a3, a4, a5, a6, a7, a8, a9, a10, a11⟩ := h
  have e1 : nI (c :: w).length - 1 = nI w.length := by rw [List.length_cons, nl_1, pk_sub (by omega)]; rfl
  have etop : τ 20 w.length = nI c := by
    have := a8 0 (by simp)
    simpa using this
  refine ⟨zst τ 0 41 (nI w.length), ⟨fun c h0 h1 h2 h3 => ?_, fun k hk => ?_, a1, a2, a3, a4, rfl, a6, a7, a8.pop, a9, a10, a11⟩, fun N => ?_⟩
  · rw [← a0 c h0 h1 h2 h3]; simp [zst, zsr, h0]
  · rw [← b0 k hk]; simp [zst, zsr, upd, hk.2.2.2.2.1]
  · conv => lhs; unfold L_X7_layFold_55
    have e2 : (zst τ 0 41 (nI w.length)) 0 41 = nI w.length := rfl
    have e3 : (zst τ 0 41 (nI w.length)) 20 w.length = nI c := etop
    rw [a5, if_neg (nI_nle (by simp) (by rw [List.length_cons]; omega)), e1, zl_q, e2, zl_q, zg_q (nq_zin1 hr (by decide)), nI_clamp (by omega), e3]
end MX
