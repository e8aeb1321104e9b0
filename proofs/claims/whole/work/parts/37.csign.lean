/-! THE CLASS WRITES THE SIGNS -/
/-- a row holds a list, newest first -/
def STK (row : Nat → Int32) (l : List Nat) : Prop := ∀ j (h : j < l.length), row (l.length - 1 - j) = nI l[j]
theorem STK.nil (row : Nat → Int32) : STK row [] := fun j h => absurd h (by simp)
theorem STK.push {row : Nat → Int32} {l : List Nat} (h : STK row l) (s : Nat) : STK (upd row l.length (nI s)) (s :: l) := by
  intro j hj
  cases j with
  | zero => simp [upd]
  | succ j =>
    have hj' : j < l.length := by simpa using hj
    have := h j hj'
    unfold upd
    rw [if_neg (by simp; omega)]
    rw [List.getElem_cons_succ, ← this]
    congr 1
    simp
    omega
theorem STK.pop {row : Nat → Int32} {a : Nat} {l : List Nat} (h : STK row (a :: l)) : STK row l := by
  intro j hj
  have := h (j + 1) (by simpa using hj)
  rw [List.getElem_cons_succ] at this
  rw [← this]
  congr 1
  simp
  omega
theorem STK.tail {row : Nat → Int32} {l : List Nat} (h : STK row l) : STK row l.tail := by
  cases l with
  | nil => exact h
  | cons a l => exact h.pop
def CS (σ0 : SF) (t : St) (σ : SF) : Prop := (∀ c, c ≠ 13 → c ≠ 14 → c ≠ 15 → σ c = σ0 c) ∧ σ 13 3 = nI t.1.length ∧ σ 13 4 = nI t.2.1 ∧ σ 13 5 = nI t.2.2.1 ∧ σ 13 6 = nI t.2.2.2.1 ∧ σ 13 8 = nI t.2.2.2.2.length ∧ STK (σ 14) t.1 ∧ STK (σ 15) t.2.2.2.2 ∧ t.2.2.2.1 ≤ 64 ∧ ∀ c ∈ t.2.2.2.2, c < 256
theorem ex_oplen : ∀ (l : List Ev) (t : St), (ex l t).2.2.2.2.length ≤ t.2.2.2.2.length + ops l
  | [], t => by simp [ex]
  | e :: l, t => by
    have ih := ex_oplen l (ex1 e t)
    have h1 : ops (e :: l) = (if e.1 = 1 then 1 else 0) + ops l := by
      unfold ops
      rw [List.filter_cons]
      by_cases q : e.1 = 1
      · simp [q]; omega
      · simp [q]
    have h2 : (ex1 e t).2.2.2.2.length ≤ t.2.2.2.2.length + (if e.1 = 1 then 1 else 0) := by
      unfold ex1
      by_cases q0 : e.1 = 0
      · rw [if_pos q0]; simp [q0]
      · by_cases q1 : e.1 = 1
        · simp [q1]
        · by_cases q2 : e.1 = 2
          · simp [q2]
          · simp [q0, q1, q2]
    show (ex l (ex1 e t)).2.2.2.2.length ≤ _
    omega
section CX
variable {σ0 σ : SF} {t : St}
theorem c_put (h : CS σ0 t σ) (hr : t.1.length < 72) (s : Nat) : ∃ σ', F_X4_put σ (nI s) = some σ' ∧ CS σ0 (s :: t.1, t.2) σ' := by
  obtain ⟨a0, a1, a2, a3, a4, a5, a6, a7, a8⟩ := h
  refine ⟨zst (zst σ 14 t.1.length (nI s)) 13 3 (nI (t.1.length + 1)), ?_, ?_⟩
  · unfold F_X4_put
    have e1 : (zst σ 14 t.1.length (nI s)) 13 3 = nI t.1.length := a1
    rw [a1, if_neg (show ¬ (72 : Int32) ≤ nI t.1.length from nI_ge (b := 72) hr (by decide)), zg_q (nq_zin1 hr (by decide)), zl_q, nI_clamp (by omega), e1, zl_q, nI_1]
  · refine ⟨fun c h1 h2 h3 => ?_, rfl, a2, a3, a4, a5, a6.push s, a7, a8⟩
    rw [← a0 c h1 h2 h3]
    simp [zst, zsr, h1, h2]
theorem c_open (h : CS σ0 t σ) (hr : t.1.length < 72) (ho : t.2.2.2.2.length < 16) {s : Nat} (hs : s < 256) : ∃ σ', F_X4_putOpening σ (nI s) = some σ' ∧ CS σ0 (ex1 (1, s, 0) t) σ' := by
  obtain ⟨σ1, h1, a0, a1, a2, a3, a4, a5, a6, a7, a8⟩ := c_put h hr s
  refine ⟨zst (zst (zst σ1 15 t.2.2.2.2.length (nI s)) 13 8 (nI (t.2.2.2.2.length + 1))) 13 6 (nI (max t.2.2.2.1 (t.2.2.2.2.length + 1))), ?_, ?_⟩
  · unfold F_X4_putOpening
    have e1 : (zst σ1 15 t.2.2.2.2.length (nI s)) 13 8 = nI t.2.2.2.2.length := a5
    have e2 : (zst (zst σ1 15 t.2.2.2.2.length (nI s)) 13 8 (nI (t.2.2.2.2.length + 1))) 13 6 = nI t.2.2.2.1 := a4
    have e3 : (zst (zst σ1 15 t.2.2.2.2.length (nI s)) 13 8 (nI (t.2.2.2.2.length + 1))) 13 8 = nI (t.2.2.2.2.length + 1) := rfl
    have a5' : σ1 13 8 = nI t.2.2.2.2.length := a5
    rw [h1, zb_q, a5', if_neg (show ¬ (16 : Int32) ≤ nI t.2.2.2.2.length from nI_ge (b := 16) ho (by decide)), zg_q (nq_zin1 ho (by decide)), zl_q, nI_clamp (by omega), e1, zl_q, nI_1, e2, e3, nI_max (by have : t.2.2.2.1 ≤ 64 := a8.1; omega) (by omega), zl_q]
  · refine ⟨fun c h1 h2 h3 => ?_, a1, a2, a3, rfl, rfl, a6, a7.push s, ?_, fun c hc => ?_⟩
    · rw [← a0 c h1 h2 h3]
      simp [zst, zsr, h1, h3]
    · show max t.2.2.2.1 (t.2.2.2.2.length + 1) ≤ 64
      have : t.2.2.2.1 ≤ 64 := a8.1
      omega
    · rcases List.mem_cons.mp hc with rfl | hc
      · exact hs
      · exact a8.2 c hc
theorem c_close (h : CS σ0 t σ) (hr : t.1.length < 72) (ho : t.2.2.2.2.length ≤ 16) (s : Nat) : ∃ σ', F_X4_putClosing σ (nI s) = some σ' ∧ CS σ0 (ex1 (2, s, 0) t) σ' := by
  obtain ⟨σ1, h1, a0, a1, a2, a3, a4, a5, a6, a7, a8⟩ := c_put h hr s
  have e1 : (if 0 < (σ1 13 8) - 1 then (σ1 13 8) - 1 else 0) = nI (t.2.2.2.2.tail.length) := by
    have a5' : σ1 13 8 = nI t.2.2.2.2.length := a5
    rw [a5']
    cases hT : t.2.2.2.2 with
    | nil => rfl
    | cons a l =>
      rw [hT, List.length_cons] at ho
      have e2 : nI (a :: l).length - 1 = nI l.length := by rw [List.length_cons, nl_1, pk_sub (by omega)]; rfl
      rw [e2, List.tail_cons]
      by_cases q : l.length = 0
      · rw [q]; rfl
      · have hl : l.length < 2 ^ 31 := by omega
        rw [if_pos (show (0 : Int32) < nI l.length from nI_lt (a := 0) (by omega) hl)]
  refine ⟨zst σ1 13 8 (nI (t.2.2.2.2.tail.length)), ?_, ?_⟩
  · unfold F_X4_putClosing
    rw [h1, zb_q, e1, zl_q]
  · refine ⟨fun c h1 h2 h3 => ?_, a1, a2, a3, a4, rfl, a6, a7.tail, a8.1, fun c hc => a8.2 c (List.mem_of_mem_tail hc)⟩
    rw [← a0 c h1 h2 h3]
    simp [zst, zsr, h1]
theorem ix_le : ∀ (l : List Nat) (k : Nat), ix l k ≤ l.length
  | [], _ => by simp [ix]
  | a :: l, k => by
    unfold ix
    have := ix_le l k
    split
    · omega
    · rw [List.length_cons]; omega
theorem ix_drop {l : List Nat} {j k : Nat} (h : j < l.length) : ix (l.drop j) k = if l[j] = k then 0 else ix (l.drop (j + 1)) k + 1 := by
  rw [List.drop_eq_getElem_cons h]
  rfl
theorem cd_loop (h : CS σ0 t σ) (ho : t.2.2.2.2.length ≤ 16) {key : Nat} (hk : key < 2 ^ 31) : ∀ (m N j : Nat), j + m = t.2.2.2.2.length → m < N → L_X4_depthOf_2 σ (nI key) N (nI j) = some (nI (j + ix (t.2.2.2.2.drop j) key)) := by
  obtain ⟨a0, a1, a2, a3, a4, a5, a6, a7, a8⟩ := h
  intro m
  induction m with
  | zero =>
    intro N j hj hN
    obtain ⟨N, rfl⟩ : ∃ K, N = K + 1 := ⟨N - 1, by omega⟩
    have : t.2.2.2.2.drop j = [] := List.drop_eq_nil_of_le (by omega)
    rw [this]
    unfold L_X4_depthOf_2
    rw [a5, if_pos (nI_le (by omega) (by omega))]
    rfl
  | succ m ih =>
    intro N j hj hN
    obtain ⟨N, rfl⟩ : ∃ K, N = K + 1 := ⟨N - 1, by omega⟩
    have hj' : j < t.2.2.2.2.length := by omega
    have e1 : nI t.2.2.2.2.length - 1 - nI j = nI (t.2.2.2.2.length - 1 - j) := by rw [nl_1, pk_sub (by omega), pk_sub (by omega)]
    have hm := a8.2 _ (List.getElem_mem hj')
    unfold L_X4_depthOf_2
    rw [a5, if_neg (nI_ge hj' (by omega)), zl_q, e1, zg_q (nq_zin1 (show t.2.2.2.2.length - 1 - j < 16 by omega) (by decide)), nI_clamp (by omega), a7 j hj', ix_drop hj']
    by_cases q : t.2.2.2.2[j] = key
    · rw [if_pos (by rw [q]), if_pos q]
      rfl
    · rw [if_neg (fun z => q ((nI_eq (by omega) hk).mp z)), if_neg q, zl_q, nI_1, ih N (j + 1) (by omega) (by omega), show j + 1 + ix (t.2.2.2.2.drop (j + 1)) key = j + (ix (t.2.2.2.2.drop (j + 1)) key + 1) by omega]
theorem c_depth (h : CS σ0 t σ) (ho : t.2.2.2.2.length ≤ 16) {key : Nat} (hk : key < 2 ^ 31) : F_X4_depthOf σ (nI key) = some (nI (ix t.2.2.2.2 key)) := by
  have e := cd_loop h ho hk t.2.2.2.2.length 100 0 (by omega) (by omega)
  rw [List.drop_zero, Nat.zero_add] at e
  have e' : L_X4_depthOf_2 σ (nI key) 100 0 = _ := e
  unfold F_X4_depthOf
  rw [e', zb_q]
theorem c_way (h : CS σ0 t σ) (hr : t.1.length < 72) (b key : Nat) : ∃ σ', F_X4_putWayOut σ (nI b) (nI (ix t.2.2.2.2 key)) = some σ' ∧ CS σ0 (ex1 (3, b, key) t) σ' := by
  obtain ⟨σ1, h1, a0, a1, a2, a3, a4, a5, a6, a7, a8⟩ := c_put h hr (b + ix t.2.2.2.2 key)
  refine ⟨zst (zst σ1 13 4 (nI (t.2.1 + 1))) 13 5 (nI (t.2.2.1 + ix t.2.2.2.2 key)), ?_, ?_⟩
  · unfold F_X4_putWayOut
    have a2' : σ1 13 4 = nI t.2.1 := a2
    have e5 : (zst σ1 13 4 (nI (t.2.1 + 1))) 13 5 = nI t.2.2.1 := a3
    rw [nI_add, h1, zb_q, a2', nI_1, zl_q, e5, nI_add, zl_q]
  · refine ⟨fun c h1 h2 h3 => ?_, a1, rfl, rfl, a4, a5, a6, a7, a8⟩
    rw [← a0 c h1 h2 h3]
    simp [zst, zsr, h1]
end CX
