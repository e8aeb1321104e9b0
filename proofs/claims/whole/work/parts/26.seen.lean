/-! WHAT WAS SEEN -/
/-- the sorts that could do this at that visit -/
def SM (p d : Nat) : Nat := if d = 2 then 4 else if p = 1 then (if d = 0 then 27 else 2) else if p = 2 then (if d = 0 then 19 else 10) else (if d = 0 then 11 else 18)
theorem SM_lt (p d : Nat) : SM p d < 2 ^ 5 := by
  unfold SM
  split
  · decide
  · split
    · split <;> decide
    · split
      · split <;> decide
      · split <;> decide
def SOk (s : Nat) (nd vs dd : Nat → Nat) : Prop := s ≤ 6 ∧ ∀ i, i < s → nd i < 8 ∧ 1 ≤ vs i ∧ vs i ≤ 3 ∧ dd i ≤ 2
def SIs (x : Int32) (a b c : Nat → Int32) (s : Nat) (nd vs dd : Nat → Nat) : Prop := x = nI s ∧ ∀ i, i < s → a i = nI (nd i) ∧ b i = nI (vs i) ∧ c i = nI (dd i)
/-- the sorts that v could be, after the first i -/
def SO (nd vs dd : Nat → Nat) (v : Nat) : Nat → Nat
  | 0 => 31
  | i + 1 => if nd i = v then SO nd vs dd v i &&& SM (vs i) (dd i) else SO nd vs dd v i
theorem SO_lt (nd vs dd : Nat → Nat) (v : Nat) : ∀ i, SO nd vs dd v i < 2 ^ 5
  | 0 => by unfold SO; decide
  | i + 1 => by
    have := SO_lt nd vs dd v i
    unfold SO
    split
    · exact Nat.lt_of_le_of_lt Nat.and_le_left this
    · exact this
theorem std_eq : ∀ p, p < 4 → ∀ d, d < 3 → 1 ≤ p → F_X3_sortsThatDo (nI p) (nI d) = some (nI (SM p d)) := by decide +kernel
theorem could_eq : ∀ k, k < 5 → ∀ p, p < 4 → ∀ d, d < 3 → 1 ≤ p → F_X7_could (nI k) (nI p) (nI d) = some (if (SM p d).testBit k then 1 else 0) := by decide +kernel
section SN
variable {σ : SF} {b s : Nat} {nd vs dd : Nat → Nat}
theorem cs_loop (h : SIs (σ b 0) (σ (b + 1)) (σ (b + 2)) (σ (b + 3)) s nd vs dd) (hs : SOk s nd vs dd) {v : Nat} (hv : v < 8) : ∀ (m N i : Nat), i + m = s → m < N → L_X3_sortsOf_5 σ b (nI v) N (nI (SO nd vs dd v i)) (nI i) = some (nI (SO nd vs dd v s), nI s) := by
  have h6 := hs.1
  intro m
  induction m with
  | zero =>
    intro N i hi hN
    obtain ⟨N, rfl⟩ : ∃ K, N = K + 1 := ⟨N - 1, by omega⟩
    have : i = s := by omega
    subst this
    unfold L_X3_sortsOf_5
    rw [h.1, if_pos (nI_le (Nat.le_refl _) (by omega))]
  | succ m ih =>
    intro N i hi hN
    obtain ⟨N, rfl⟩ : ∃ K, N = K + 1 := ⟨N - 1, by omega⟩
    have hz := nq_zin1 (show i < 6 by omega) (by decide)
    obtain ⟨e1, e2, e3⟩ := h.2 i (by omega)
    obtain ⟨l1, l2, l3, l4⟩ := hs.2 i (by omega)
    unfold L_X3_sortsOf_5
    rw [h.1, if_neg (nI_ge (by omega) (by omega)), zg_q hz, nI_clamp (by omega), e1, e2, e3]
    have := ih N (i + 1) (by omega) (by omega)
    by_cases q : nd i = v
    · rw [if_pos (by rw [q]), zg_q hz, zg_q hz, std_eq _ (by omega) _ (by omega) l2, zb_q, zl_q, zl_q, fa_and, nI_1]
      rw [show SO nd vs dd v (i + 1) = SO nd vs dd v i &&& SM (vs i) (dd i) from if_pos q] at this
      exact this
    · rw [if_neg (fun z => q ((nI_eq (by omega) (by omega)).mp z)), zl_q, nI_1]
      rw [show SO nd vs dd v (i + 1) = SO nd vs dd v i from if_neg q] at this
      exact this
theorem c_sorts (h : SIs (σ b 0) (σ (b + 1)) (σ (b + 2)) (σ (b + 3)) s nd vs dd) (hs : SOk s nd vs dd) {v : Nat} (hv : v < 8) : F_X3_sortsOf σ b (nI v) = some (nI (SO nd vs dd v s)) := by
  unfold F_X3_sortsOf
  have e : L_X3_sortsOf_5 σ b (nI v) 100 31 0 = some (nI (SO nd vs dd v s), nI s) := cs_loop h hs hv s 100 0 (by omega) (by have := hs.1; omega)
  rw [e, zb2_q]
theorem ms_in (h : SIs (σ 0 7) (σ 4) (σ 5) (σ 6) s nd vs dd) (hs : SOk s nd vs dd) {v : Nat} (hv : v < 8) {k : Nat} (hk : k < 5) (y2 : Int32) : ∀ (m N i : Nat), i + m = s → m < N → L_X7_sortsOf_15 σ (nI v) y2 (nI k) N (if (SO nd vs dd v i).testBit k then 1 else 0) (nI i) = some (if (SO nd vs dd v s).testBit k then 1 else 0, nI s) := by
  have h6 := hs.1
  intro m
  induction m with
  | zero =>
    intro N i hi hN
    obtain ⟨N, rfl⟩ : ∃ K, N = K + 1 := ⟨N - 1, by omega⟩
    have : i = s := by omega
    subst this
    unfold L_X7_sortsOf_15
    rw [h.1, if_pos (nI_le (Nat.le_refl _) (by omega))]
  | succ m ih =>
    intro N i hi hN
    obtain ⟨N, rfl⟩ : ∃ K, N = K + 1 := ⟨N - 1, by omega⟩
    have hz := nq_zin1 (show i < 6 by omega) (by decide)
    obtain ⟨e1, e2, e3⟩ := h.2 i (by omega)
    obtain ⟨l1, l2, l3, l4⟩ := hs.2 i (by omega)
    have := ih N (i + 1) (by omega) (by omega)
    unfold L_X7_sortsOf_15
    rw [h.1, if_neg (nI_ge (by omega) (by omega)), zl_q, nI_1, zg_q hz, nI_clamp (by omega), e1, e2, e3, could_eq _ hk _ (by omega) _ (by omega) l2]
    cases hb : (SO nd vs dd v i).testBit k with
    | false =>
      rw [if_pos (by simp)]
      have hn : (SO nd vs dd v (i + 1)).testBit k = false := by
        unfold SO
        split
        · rw [Nat.testBit_and, hb]; rfl
        · exact hb
      rw [hn] at this
      exact this
    | true =>
      rw [if_neg (by simp)]
      by_cases q : nd i = v
      · rw [if_pos (by rw [q]), zg_q hz, zg_q hz, zb_q]
        have hn : (SO nd vs dd v (i + 1)).testBit k = (SM (vs i) (dd i)).testBit k := by
          rw [show SO nd vs dd v (i + 1) = SO nd vs dd v i &&& SM (vs i) (dd i) from if_pos q, Nat.testBit_and, hb]; rfl
        rw [hn] at this
        cases hc : (SM (vs i) (dd i)).testBit k with
        | false => rw [hc] at this; rw [if_pos (by simp)]; exact this
        | true => rw [hc] at this; rw [if_neg (by simp)]; exact this
      · rw [if_neg (fun z => q ((nI_eq (by omega) (by omega)).mp z)), zl_q]
        rw [show SO nd vs dd v (i + 1) = SO nd vs dd v i from if_neg q, hb] at this
        exact this
theorem mod_step (M k : Nat) : M % 2 ^ (k + 1) = M % 2 ^ k ||| (if M.testBit k then 2 ^ k else 0) := by
  apply Nat.eq_of_testBit_eq
  intro i
  rw [Nat.testBit_or, Nat.testBit_mod_two_pow, Nat.testBit_mod_two_pow]
  cases hb : M.testBit k with
  | false =>
    simp only [Bool.false_eq_true, if_false, Nat.zero_testBit, Bool.or_false]
    by_cases q : i = k
    · subst q; simp [hb]
    · congr 1
      by_cases q2 : i < k
      · simp [q2, show i < k + 1 by omega]
      · simp [q2, show ¬ i < k + 1 by omega]
  | true =>
    simp only [if_true, nq_two]
    by_cases q : i = k
    · subst q; simp [hb]
    · have : ¬ k = i := fun z => q z.symm
      simp only [this, decide_false, Bool.or_false]
      congr 1
      by_cases q2 : i < k
      · simp [q2, show i < k + 1 by omega]
      · simp [q2, show ¬ i < k + 1 by omega]
theorem ms_out (h : SIs (σ 0 7) (σ 4) (σ 5) (σ 6) s nd vs dd) (hs : SOk s nd vs dd) {v : Nat} (hv : v < 8) : ∀ (m N k : Nat), k + m = 5 → m < N → L_X7_sortsOf_4 σ (nI v) N (nI (SO nd vs dd v s % 2 ^ k)) (nI k) = some (nI (SO nd vs dd v s % 2 ^ 5), nI 5) := by
  intro m
  induction m with
  | zero =>
    intro N k hi hN
    obtain ⟨N, rfl⟩ : ∃ K, N = K + 1 := ⟨N - 1, by omega⟩
    have : k = 5 := by omega
    subst this
    unfold L_X7_sortsOf_4
    rw [if_pos (by decide)]
  | succ m ih =>
    intro N k hi hN
    obtain ⟨N, rfl⟩ : ∃ K, N = K + 1 := ⟨N - 1, by omega⟩
    have := ih N (k + 1) (by omega) (by omega)
    rw [mod_step] at this
    have hk : k < 5 := by omega
    have h31 : ∀ k, k < 5 → (31 : Nat).testBit k = true := by decide +kernel
    have h310 : (SO nd vs dd v 0).testBit k = true := h31 k hk
    have e0 := ms_in h hs hv hk (nI (SO nd vs dd v s % 2 ^ k)) s 100 0 (by omega) (by have := hs.1; omega)
    rw [h310] at e0
    have e : L_X7_sortsOf_15 σ (nI v) (nI (SO nd vs dd v s % 2 ^ k)) (nI k) 100 1 0 = some (if (SO nd vs dd v s).testBit k then 1 else 0, nI s) := e0
    unfold L_X7_sortsOf_4
    rw [if_neg (show ¬ (4 : Int32) < nI k from nI_nlt (a := 4) (by omega) (by decide)), e, zb2_q, zl_q, zl_q, zl_q, nI_1, nq_1 (show k < 31 by omega), fa_or]
    cases hb : (SO nd vs dd v s).testBit k with
    | false => rw [hb] at this; rw [if_pos (by simp), or0]; simpa using this
    | true => rw [hb] at this; rw [if_neg (by simp)]; exact this
theorem m_sorts (h : SIs (σ 0 7) (σ 4) (σ 5) (σ 6) s nd vs dd) (hs : SOk s nd vs dd) {v : Nat} (hv : v < 8) : F_X7_sortsOf σ (nI v) = some (nI (SO nd vs dd v s)) := by
  unfold F_X7_sortsOf
  have e := ms_out h hs hv 5 100 0 (by omega) (by omega)
  rw [Nat.mod_eq_of_lt (SO_lt nd vs dd v s), Nat.pow_zero, Nat.mod_one] at e
  have e' : L_X7_sortsOf_4 σ (nI v) 100 0 0 = some (nI (SO nd vs dd v s), nI 5) := e
  rw [e', zb2_q]
end SN
/-! what to ask for -/
def zz : SF := fun _ _ => 0
theorem ca_31 (σ : SF) (b : Nat) (y2 y3 y4 y5 : Int32) : ∀ (N : Nat) (y6 y7 : Int32), L_X3_askFor_31 σ b y2 y3 y4 y5 N y6 y7 = L_X3_askFor_31 zz 0 y2 0 0 y5 N y6 y7 := by
  intro N
  induction N with
  | zero => intros; rfl
  | succ N ih => intro y6 y7; unfold L_X3_askFor_31; simp only [ih]
theorem ca_15 (σ : SF) (b : Nat) (y2 : Int32) : ∀ (N : Nat) (y3 y4 y5 : Int32), L_X3_askFor_15 σ b y2 N y3 y4 y5 = L_X3_askFor_15 zz 0 y2 N y3 y4 y5 := by
  intro N
  induction N with
  | zero => intros; rfl
  | succ N ih =>
    intro y3 y4 y5
    unfold L_X3_askFor_15
    rw [ca_31 σ b, ca_31 zz 0 y2 y3 y4 y5]
    simp only [ih]
theorem ma_44 (σ : SF) (y2 y3 y4 y5 y6 y7 : Int32) : ∀ (N : Nat) (y8 y9 : Int32), L_X7_askOf_44 σ y2 y3 y4 y5 y6 y7 N y8 y9 = L_X7_askOf_44 zz y2 0 0 y5 0 y7 N y8 y9 := by
  intro N
  induction N with
  | zero => intros; rfl
  | succ N ih => intro y8 y9; unfold L_X7_askOf_44; simp only [ih]
theorem ma_32 (σ : SF) (y2 y3 y4 y5 : Int32) : ∀ (N : Nat) (y6 y7 : Int32), L_X7_askOf_32 σ y2 y3 y4 y5 N y6 y7 = L_X7_askOf_32 zz y2 0 0 y5 N y6 y7 := by
  intro N
  induction N with
  | zero => intros; rfl
  | succ N ih =>
    intro y6 y7
    unfold L_X7_askOf_32
    rw [ma_44 σ, ma_44 zz y2 0 0 y5 y6 y7]
    simp only [ih]
theorem ma_16 (σ : SF) (y2 : Int32) : ∀ (N : Nat) (y3 y4 y5 : Int32), L_X7_askOf_16 σ y2 N y3 y4 y5 = L_X7_askOf_16 zz y2 N y3 y4 y5 := by
  intro N
  induction N with
  | zero => intros; rfl
  | succ N ih =>
    intro y3 y4 y5
    unfold L_X7_askOf_16
    rw [ma_32 σ, ma_32 zz y2 y3]
    simp only [ih]
def askC (M : Nat) : Option Int32 := zb3 (L_X3_askFor_15 zz 0 (nI M) 100 (-1) 6 1) fun v _ _ => some v
def askM (M : Nat) : Option Int32 := zb3 (L_X7_askOf_16 zz (nI M) 100 (-1) 268435456 1) fun v _ _ => some v
theorem ask_eq : ∀ M, M < 32 → askC M = askM M ∧ (askC M).isSome = true := by decide +kernel
theorem ask_all {σ τ : SF} {b s : Nat} {nd vs dd : Nat → Nat} (h1 : SIs (σ b 0) (σ (b + 1)) (σ (b + 2)) (σ (b + 3)) s nd vs dd) (h2 : SIs (τ 0 7) (τ 4) (τ 5) (τ 6) s nd vs dd) (hs : SOk s nd vs dd) {v : Nat} (hv : v < 8) : ∃ r, F_X3_askFor σ b (nI v) = some r ∧ F_X7_askOf τ (nI v) = some r := by
  obtain ⟨e1, e2⟩ := ask_eq (SO nd vs dd v s) (SO_lt nd vs dd v s)
  obtain ⟨r, hr⟩ := Option.isSome_iff_exists.mp e2
  refine ⟨r, ?_, ?_⟩
  · unfold F_X3_askFor
    rw [c_sorts h1 hs hv, zb_q, ca_15]
    exact hr
  · unfold F_X7_askOf
    rw [m_sorts h2 hs hv, zb_q, ma_16]
    exact e1.symm.trans hr
