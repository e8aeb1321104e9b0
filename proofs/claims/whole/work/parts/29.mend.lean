/-! MENDING -/
def sub (A B : Nat) : Prop := ∀ i, A.testBit i = true → B.testBit i = true
theorem sub_half {A B : Nat} (h : sub A B) : sub (A / 2) (B / 2) := fun i hi => by
  rw [Nat.testBit_div_two] at hi ⊢
  exact h _ hi
theorem sub_and {A B : Nat} (h : sub A B) : A &&& B = A := by
  apply Nat.eq_of_testBit_eq
  intro i
  rw [Nat.testBit_and]
  cases hb : A.testBit i with
  | false => rfl
  | true => rw [h i hb]; rfl
theorem and_half (a b : Nat) : (a &&& b) / 2 = a / 2 &&& b / 2 := by
  apply Nat.eq_of_testBit_eq
  intro i
  rw [Nat.testBit_div_two, Nat.testBit_and, Nat.testBit_and, Nat.testBit_div_two, Nat.testBit_div_two]
theorem sub_mod {A B : Nat} (h : sub A B) : A % 2 ≤ B % 2 := by
  have h0 := h 0
  rw [Nat.testBit_zero, Nat.testBit_zero, decide_eq_true_eq, decide_eq_true_eq] at h0
  omega
theorem and_odd {a b : Nat} (h : a % 2 = 1) : (a &&& b) % 2 = b % 2 := by
  have e : (a &&& b).testBit 0 = b.testBit 0 := by
    rw [Nat.testBit_and]
    have : a.testBit 0 = true := by rw [Nat.testBit_zero, decide_eq_true_eq]; exact h
    rw [this]; rfl
  rw [Nat.testBit_zero, Nat.testBit_zero] at e
  have := decide_eq_decide.mp e
  omega
/-- the next set below T among those within M -/
theorem sub_next : ∀ (T M T' : Nat), sub T M → sub T' M → T' < T → T' ≤ (T - 1) &&& M := by
  intro T
  induction T using Nat.strongRecOn with
  | ind T ih =>
    intro M T' hT hT' hlt
    have hm := sub_mod hT'
    by_cases h : T % 2 = 1
    · have e1 : (T - 1) &&& M = T - 1 := sub_and (fun i hi => by
        by_cases h0 : i = 0
        · subst h0
          rw [Nat.testBit_zero, decide_eq_true_eq] at hi
          omega
        · obtain ⟨j, rfl⟩ : ∃ j, i = j + 1 := ⟨i - 1, by omega⟩
          rw [Nat.testBit_succ] at hi
          refine hT _ ?_
          rw [Nat.testBit_succ]
          rw [show T / 2 = (T - 1) / 2 by omega]
          exact hi)
      rw [e1]; omega
    · have h2 : T / 2 < T := by omega
      have := ih (T / 2) h2 (M / 2) (T' / 2) (sub_half hT) (sub_half hT') (by omega)
      have e2 : ((T - 1) &&& M) / 2 = (T / 2 - 1) &&& (M / 2) := by
        rw [and_half, show (T - 1) / 2 = T / 2 - 1 by omega]
      have e3 : ((T - 1) &&& M) % 2 = M % 2 := and_odd (by omega)
      omega
theorem pc_bound {T k : Nat} (h : T < 2 ^ k) (hk : k ≤ 16) : pc T ≤ k := by
  have key : ∀ m, fb_ct (fun i => T.testBit i) (k + m) ≤ k := by
    intro m
    induction m with
    | zero => exact fb_ct_le _ _
    | succ m ih =>
      rw [show k + (m + 1) = (k + m) + 1 by omega, fb_ct_succ, nq_tb h (by omega)]
      simpa using ih
  have := key (16 - k)
  rw [show k + (16 - k) = 16 by omega] at this
  exact this
/-- the live edges before k -/
noncomputable def lmk (g : Gr) : Nat → Nat
  | 0 => 0
  | e + 1 => lmk g e ||| (if (lvE g e).isSome then 2 ^ e else 0)
theorem lmk_tb (g : Gr) : ∀ k e, (lmk g k).testBit e = (decide (e < k) && (lvE g e).isSome) := by
  intro k
  induction k with
  | zero => intro e; simp [lmk]
  | succ k ih =>
    intro e
    unfold lmk
    rw [Nat.testBit_or, ih]
    by_cases q : e = k
    · subst q
      cases (lvE g e).isSome <;> simp [nq_two]
    · have : ¬ k = e := fun z => q z.symm
      have e2 : (if (lvE g k).isSome then 2 ^ k else 0).testBit e = false := by
        split
        · rw [nq_two]; simp [this]
        · simp
      rw [e2, Bool.or_false]
      congr 1
      by_cases q2 : e < k
      · simp [q2, show e < k + 1 by omega]
      · simp [q2, show ¬ e < k + 1 by omega]
theorem lmk_lt (g : Gr) (k : Nat) : lmk g k < 2 ^ k := by
  apply Nat.lt_pow_two_of_testBit
  intro i hi
  rw [lmk_tb]
  simp [show ¬ i < k by omega]
theorem lmk_16 {n W : Nat} {kd f0 f1 : Nat → Nat} (hw : gwf n kd f0 f1) : lmk (mkG n kd f0 f1 W) (2 * n) = lmk (mkG n kd f0 f1 W) 16 := by
  apply Nat.eq_of_testBit_eq
  intro i
  rw [lmk_tb, lmk_tb]
  have hn := hw.1
  by_cases q : i < 2 * n
  · simp [q, show i < 16 by omega]
  · have : lvE (mkG n kd f0 f1 W) i = none := by
      unfold lvE
      split
      · cases h : mkG n kd f0 f1 W i with
        | none => rfl
        | some t => have := mkG_lt hw h; omega
      · rfl
    simp [q, this]
theorem sub_lt {A B k : Nat} (h : sub A B) (hB : B < 2 ^ k) : A < 2 ^ k := by
  apply Nat.lt_pow_two_of_testBit
  intro i hi
  cases hb : A.testBit i with
  | false => rfl
  | true => have := h i hb; rw [nq_tb hB hi] at this; cases this
/-- the least set of k edges before b that mends together with S -/
def LL (lm : Nat) (Fb : Nat → Prop) (k b S : Nat) (r : Int32) : Prop :=
  (∃ T, T < 2 ^ b ∧ sub T lm ∧ pc T = k ∧ Fb (S ||| T) ∧ r = nI (S ||| T) ∧ ∀ T', T' < 2 ^ b → sub T' lm → pc T' = k → Fb (S ||| T') → T ≤ T') ∨ (r = -1 ∧ ∀ T, T < 2 ^ b → sub T lm → pc T = k → ¬ Fb (S ||| T))
/-- what mends: fewest, then least -/
def MB (lm : Nat) (Fb : Nat → Prop) (r : Int32) : Prop :=
  (∃ T, sub T lm ∧ pc T ≤ 3 ∧ Fb T ∧ r = nI T ∧ ∀ T', sub T' lm → pc T' ≤ 3 → Fb T' → pc T < pc T' ∨ (pc T = pc T' ∧ T ≤ T')) ∨ (r = -1 ∧ ∀ T, sub T lm → pc T ≤ 3 → ¬ Fb T)
theorem MB.uniq {lm : Nat} {Fb : Nat → Prop} {r r' : Int32} (h : MB lm Fb r) (h' : MB lm Fb r') : r = r' := by
  rcases h with ⟨T, h1, h2, h3, h4, h5⟩ | ⟨h1, h2⟩
  · rcases h' with ⟨T', g1, g2, g3, g4, g5⟩ | ⟨g1, g2⟩
    · have a := h5 T' g1 g2 g3
      have b := g5 T h1 h2 h3
      rw [h4, g4, show T = T' by omega]
    · exact absurd h3 (g2 T h1 h2)
  · rcases h' with ⟨T', g1, g2, g3, g4, g5⟩ | ⟨g1, g2⟩
    · exact absurd g3 (h2 T' g1 g2)
    · rw [h1, g1]
theorem or_top {T y : Nat} (h : T < 2 ^ y) : T ||| 2 ^ y = T + 2 ^ y := by
  have := Nat.two_pow_add_eq_or_of_lt h 1
  rw [Nat.mul_one] at this
  rw [Nat.or_comm, ← this]; omega
theorem pc_top {T y : Nat} (hy : y < 16) (h : T < 2 ^ y) : pc (T ||| 2 ^ y) = pc T + 1 := by
  have hb : (T ||| 2 ^ y).testBit y = true := by rw [Nat.testBit_or, nq_two]; simp
  have e := pc_clr hy hb
  have : clr (T ||| 2 ^ y) y = T := by
    apply Nat.eq_of_testBit_eq
    intro i
    rw [clr_tb, Nat.testBit_or, nq_two]
    by_cases q : y = i
    · subst q; rw [nq_tb h (Nat.le_refl _)]; simp
    · simp [q]
  rw [this] at e
  omega
/-- a set before y + 1 with y in it -/
theorem top_split {T y : Nat} (h : T < 2 ^ (y + 1)) (hb : T.testBit y = true) : ∃ T0, T0 < 2 ^ y ∧ T = T0 ||| 2 ^ y := by
  refine ⟨clr T y, ?_, ?_⟩
  · apply Nat.lt_pow_two_of_testBit
    intro i hi
    rw [clr_tb]
    by_cases q : y = i
    · simp [q]
    · rw [nq_tb h (by omega)]; rfl
  · apply Nat.eq_of_testBit_eq
    intro i
    rw [Nat.testBit_or, clr_tb, nq_two]
    by_cases q : y = i
    · subst q; simp [hb]
    · simp [q]
theorem lt_of_tb {T y : Nat} (h : T < 2 ^ (y + 1)) (hb : T.testBit y = false) : T < 2 ^ y := by
  apply Nat.lt_pow_two_of_testBit
  intro i hi
  by_cases q : y = i
  · subst q; exact hb
  · exact nq_tb h (by omega)
