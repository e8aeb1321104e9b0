/-! THE PAGE -/
def kx (a : Nat) : Option Nat := if a = 101 then some 2 else if a = 102 then some 1 else if a = 110 then some 0 else if a = 116 then some 4 else if a = 120 then some 3 else none
def kxI (a : Nat) : Int32 := match kx a with
  | none => -1
  | some x => nI x
theorem kx_lt {a x : Nat} (h : kx a = some x) : x < 5 := by
  unfold kx at h
  repeat' split at h
  all_goals first | (cases h; omega) | cases h
theorem kindBy_eq : ∀ a, a < 127 → F_X7_kindBy (nI a) = some (kxI a) := by decide +kernel
theorem ji_loop (σ : SF) (y3 y4 : Int32) : ∀ (N : Nat) (y5 : Int32), L_J1_indexOfChar_4cfef_7 σ y3 y4 N y5 = L_J1_indexOfChar_4cfef_7 zz y3 y4 N y5 := by
  intro N
  induction N with
  | zero => intros; rfl
  | succ N ih => intro y5; unfold L_J1_indexOfChar_4cfef_7; simp only [ih]
theorem ji_all (σ : SF) (x : Int32) : F_J0_indexOf_0f7a4 σ x = F_J0_indexOf_0f7a4 zz x := by
  have e1 : ∀ x1 x2 x3, F_J1_indexOfChar_4cfef σ x1 x2 x3 = F_J1_indexOfChar_4cfef zz x1 x2 x3 := by
    intro x1 x2 x3
    unfold F_J1_indexOfChar_4cfef
    rw [zl_q, zl_q, ji_loop]
  have e2 : ∀ x1 x2 x3, F_J1_indexOf_4cfef σ x1 x2 x3 = F_J1_indexOf_4cfef zz x1 x2 x3 := by
    intro x1 x2 x3
    unfold F_J1_indexOf_4cfef
    simp only [e1]
  have e4 : ∀ τ, F_J0_length_8abf5 τ = some 5 := fun τ => rfl
  have e5 : ∀ τ, F_J0_isLatin1_aae02 τ = some 1 := fun τ => rfl
  have e3 : F_J0_indexOf_7cf53 σ x 0 = F_J0_indexOf_7cf53 zz x 0 := by
    unfold F_J0_indexOf_7cf53
    simp only [e2, e4, e5]
  unfold F_J0_indexOf_0f7a4
  rw [e3]
theorem idx_eq (σ : SF) {a : Nat} (ha : a < 127) : F_J0_indexOf_0f7a4 σ (((nI a : Int32).toUInt32 % 65536).toInt32) = some (kxI a) := by
  rw [ji_all]
  have key : ∀ a, a < 127 → F_J0_indexOf_0f7a4 zz (((nI a : Int32).toUInt32 % 65536).toInt32) = some (kxI a) := by decide +kernel
  exact key a ha
def cp (σ : SF) (x : Int32) (k a b : Nat → Int32) (m : Int32) : SF := fun i => if i = 1 then upd (σ 1) 3 m else if i = 31 then upd (σ 31) 0 x else if i = 32 then k else if i = 33 then a else if i = 34 then b else σ i
def mp (τ : SF) (x m : Int32) (k t : Nat → Int32) : SF := fun i => if i = 0 then upd (upd (τ 0) 14 x) 15 m else if i = 8 then k else if i = 9 then t else τ i
section PG
variable {σ τ : SF} {x m v : Int32} {k a b t : Nat → Int32} {i : Nat}
theorem cp_1 : cp σ x k a b m 1 1 = σ 1 1 := rfl
theorem cp_13 : cp σ x k a b m 1 3 = m := rfl
theorem cp_2 : cp σ x k a b m 2 = σ 2 := rfl
theorem cp_31 : cp σ x k a b m 31 0 = x := rfl
theorem cp_s1 : zst (cp σ x k a b m) 1 3 v = cp σ x k a b v := by
  funext c; unfold zst zsr cp; by_cases h : c = 1
  · subst h; simp only [if_true]; exact fa_upd_twice _ _ _ _
  · simp [h]
theorem cp_s31 : zst (cp σ x k a b m) 31 0 v = cp σ v k a b m := by
  funext c; unfold zst zsr cp; by_cases h : c = 31
  · subst h; simp only [if_true, if_false]; exact fa_upd_twice _ _ _ _
  · simp [h]
theorem cp_s32 : zst (cp σ x k a b m) 32 i v = cp σ x (upd k i v) a b m := by
  funext c; unfold zst zsr cp; by_cases h : c = 32
  · subst h; rfl
  · simp [h]
theorem cp_s33 : zst (cp σ x k a b m) 33 i v = cp σ x k (upd a i v) b m := by
  funext c; unfold zst zsr cp; by_cases h : c = 33
  · subst h; rfl
  · simp [h]
theorem cp_s34 : zst (cp σ x k a b m) 34 i v = cp σ x k a (upd b i v) m := by
  funext c; unfold zst zsr cp; by_cases h : c = 34
  · subst h; rfl
  · simp [h]
theorem mp_11 : mp τ x m k t 0 11 = τ 0 11 := rfl
theorem mp_14 : mp τ x m k t 0 14 = x := rfl
theorem mp_15 : mp τ x m k t 0 15 = m := rfl
theorem mp_7 : mp τ x m k t 7 = τ 7 := rfl
theorem mp_8 : mp τ x m k t 8 = k := rfl
theorem mp_9 : mp τ x m k t 9 = t := rfl
theorem mp_s14 : zst (mp τ x m k t) 0 14 v = mp τ v m k t := by
  funext c; unfold zst zsr mp; by_cases h : c = 0
  · subst h; simp only [if_true]; funext j; unfold upd; by_cases h14 : j = 14
    · subst h14; rfl
    · by_cases h15 : j = 15
      · subst h15; rfl
      · simp [h14, h15]
  · simp [h]
theorem mp_s15 : zst (mp τ x m k t) 0 15 v = mp τ x v k t := by
  funext c; unfold zst zsr mp; by_cases h : c = 0
  · subst h; simp only [if_true]; exact fa_upd_twice _ _ _ _
  · simp [h]
theorem mp_s8 : zst (mp τ x m k t) 8 i v = mp τ x m (upd k i v) t := by
  funext c; unfold zst zsr mp; by_cases h : c = 8
  · subst h; rfl
  · simp [h]
theorem mp_s9 : zst (mp τ x m k t) 9 i v = mp τ x m k (upd t i v) := by
  funext c; unfold zst zsr mp; by_cases h : c = 9
  · subst h; rfl
  · simp [h]
end PG
/-- the letters on the page, in both -/
def PIs (x : Int32) (r : Nat → Int32) (L : Nat) (pg : Nat → Nat) : Prop := x = nI L ∧ ∀ i, i < L → r i = nI (pg i)
def POk (L : Nat) (pg : Nat → Nat) : Prop := L ≤ 34 ∧ ∀ i, i < L → 32 ≤ pg i ∧ pg i < 127
section PG2
variable {σ τ : SF} {L : Nat} {pg : Nat → Nat} {x m : Int32} {k a b t : Nat → Int32}
theorem at_in (hP : PIs (τ 0 11) (τ 7) L pg) (hL : L ≤ 34) {i : Nat} (hi : i < L) : F_X7_at (mp τ x m k t) (nI i) = some (nI (pg i)) := by
  unfold F_X7_at
  rw [mp_11, hP.1, if_neg (nI_ge hi (by omega)), zg_q (nq_zin1 (show i < 34 by omega) (by decide)), nI_clamp (by omega), mp_7, hP.2 i hi]
theorem at_out (hP : PIs (τ 0 11) (τ 7) L pg) (hL : L ≤ 34) {i : Nat} (hi : L ≤ i) (hi2 : i < 100) : F_X7_at (mp τ x m k t) (nI i) = some (nI 0) := by
  unfold F_X7_at
  rw [mp_11, hP.1, if_pos (nI_le hi (by omega))]
  rfl
/-- the letter at a place; 0 behind the page -/
def ltr (L : Nat) (pg : Nat → Nat) (i : Nat) : Nat := if i < L then pg i else 0
theorem at_eq (hP : PIs (τ 0 11) (τ 7) L pg) (hL : L ≤ 34) {i : Nat} (hi2 : i < 100) : F_X7_at (mp τ x m k t) (nI i) = some (nI (ltr L pg i)) := by
  unfold ltr
  split
  · exact at_in hP hL ‹_›
  · exact at_out hP hL (by omega) hi2
theorem ltr_lt (hO : POk L pg) (i : Nat) : ltr L pg i < 127 := by
  unfold ltr
  split
  · exact (hO.2 i ‹_›).2
  · decide
/-! the class's steps -/
theorem rc_end (hP : PIs (σ 1 1) (σ 2) L pg) (hL : L ≤ 34) {N : Nat} {y2 y3 y4 : Int32} : L_X2_readInto_25 (N + 1) y2 y3 y4 (nI L) (cp σ x k a b m) = some (.inr (y2, y3, y4, nI L, cp σ x k a b m)) := by
  unfold L_X2_readInto_25
  rw [cp_1, hP.1, if_pos (nI_le (Nat.le_refl _) (by omega))]
theorem rc_kind0 (hP : PIs (σ 1 1) (σ 2) L pg) (hO : POk L pg) {N i e E : Nat} (hi : i < L) (he : E ≤ e) (he2 : e < 9) (hk : kx (pg i) = none) : L_X2_readInto_25 (N + 1) 1 (nI e) (nI E) (nI i) (cp σ x k a b m) = some (.inl (nI i, cp σ x k a b m)) := by
  have hL := hO.1
  have h1 : F_X6_isKind (kxI (pg i)) = some 0 := by unfold kxI; rw [hk]; rfl
  unfold L_X2_readInto_25
  rw [cp_1, hP.1, if_neg (nI_ge hi (by omega)), zg_q (nq_zin1 (show i < 34 by omega) (by decide)), zl_q, nI_clamp (by omega), cp_2, hP.2 i hi, if_pos (nI_le he (by omega)), if_neg (by decide), idx_eq _ (hO.2 i hi).2, zb_q, h1, zb_q, if_pos rfl]
theorem isKind_in {y : Nat} (h : y < 5) : F_X6_isKind (nI y) = some 1 := by
  rcases (show y = 0 ∨ y = 1 ∨ y = 2 ∨ y = 3 ∨ y = 4 by omega) with rfl | rfl | rfl | rfl | rfl <;> rfl
theorem rc_kind1 (hP : PIs (σ 1 1) (σ 2) L pg) (hO : POk L pg) {N i e E c y : Nat} (hi : i < L) (he : E ≤ e) (he2 : e < 9) (hk : kx (pg i) = some y) (hc : c < 8) : L_X2_readInto_25 (N + 1) 1 (nI e) (nI E) (nI i) (cp σ (nI c) k a b m) = L_X2_readInto_25 N 0 0 (nI (en y)) (nI (i + 1)) (cp σ (nI (c + 1)) (upd k c (nI y)) (upd a c 0) (upd b c 0) m) := by
  have hL := hO.1
  have h1 : kxI (pg i) = nI y := by unfold kxI; rw [hk]
  have hz := nq_zin1 hc (by decide)
  have hg : F_X1_grow (cp σ (nI c) k a b m) 31 (nI y) = some (1, cp σ (nI (c + 1)) (upd k c (nI y)) (upd a c 0) (upd b c 0) m) := by
    unfold F_X1_grow
    rw [cp_31, if_pos (show nI c < 8 from nI_lt (b := 8) hc (by decide)), zg_q hz, zl_q, nI_clamp (by omega), cp_s32, cp_31, zg_q hz, zl_q, nI_clamp (by omega), cp_s33, cp_31, zg_q hz, zl_q, nI_clamp (by omega), cp_s34, cp_31, zl_q, cp_s31, nI_1]
  conv => lhs; unfold L_X2_readInto_25
  rw [cp_1, hP.1, if_neg (nI_ge hi (by omega)), zg_q (nq_zin1 (show i < 34 by omega) (by decide)), zl_q, nI_clamp (by omega), cp_2, hP.2 i hi, if_pos (nI_le he (by omega)), if_neg (by decide), idx_eq _ (hO.2 i hi).2, zb_q, h1, isKind_in (kx_lt hk), zb_q, if_neg (by decide), hg, zb2_q, if_neg (by decide), F_ends_nI (kx_lt hk), zb_q, zl_q, nI_1]
theorem rc_sep0 (hP : PIs (σ 1 1) (σ 2) L pg) (hO : POk L pg) {N i e E c : Nat} (hi : i < L) (he : E ≤ e) (he2 : e < 9) (h : ¬ (pg i = 44 ∧ c < 8)) (hc : c ≤ 8) : L_X2_readInto_25 (N + 1) 0 (nI e) (nI E) (nI i) (cp σ (nI c) k a b m) = some (.inl (nI i, cp σ (nI c) k a b m)) := by
  have hL := hO.1
  have hl := (hO.2 i hi).2
  unfold L_X2_readInto_25
  rw [cp_1, hP.1, if_neg (nI_ge hi (by omega)), zg_q (nq_zin1 (show i < 34 by omega) (by decide)), zl_q, nI_clamp (by omega), cp_2, hP.2 i hi, if_pos (nI_le he (by omega)), if_pos rfl, cp_31]
  by_cases q : pg i = 44
  · rw [if_pos (by rw [q]; rfl), if_neg (show ¬ nI c < 8 from nI_nlt (b := 8) (by omega) (by omega))]
  · rw [if_neg (show ¬ nI (pg i) = 44 from fun z => q ((nI_eq (b := 44) (by omega) (by decide)).mp z))]
theorem rc_sep1 (hP : PIs (σ 1 1) (σ 2) L pg) (hO : POk L pg) {N i e E c : Nat} (hi : i < L) (he : E ≤ e) (he2 : e < 9) (h : pg i = 44) (hc : c < 8) : L_X2_readInto_25 (N + 1) 0 (nI e) (nI E) (nI i) (cp σ (nI c) k a b m) = L_X2_readInto_25 N 1 (nI e) (nI E) (nI (i + 1)) (cp σ (nI c) k a b m) := by
  have hL := hO.1
  conv => lhs; unfold L_X2_readInto_25
  rw [cp_1, hP.1, if_neg (nI_ge hi (by omega)), zg_q (nq_zin1 (show i < 34 by omega) (by decide)), zl_q, nI_clamp (by omega), cp_2, hP.2 i hi, if_pos (nI_le he (by omega)), if_pos rfl, cp_31, if_pos (by rw [h]; rfl), if_pos (show nI c < 8 from nI_lt (b := 8) hc (by decide)), zl_q, nI_1]
theorem rc_dig0 (hP : PIs (σ 1 1) (σ 2) L pg) (hO : POk L pg) {N i e E : Nat} {y2 : Int32} (hi : i < L) (he : e < E) (he2 : E < 9) (h : ¬ (48 ≤ pg i ∧ pg i ≤ 55)) : L_X2_readInto_25 (N + 1) y2 (nI e) (nI E) (nI i) (cp σ x k a b m) = some (.inl (nI i, cp σ x k a b m)) := by
  have hL := hO.1
  have hl := (hO.2 i hi).2
  unfold L_X2_readInto_25
  rw [cp_1, hP.1, if_neg (nI_ge hi (by omega)), zg_q (nq_zin1 (show i < 34 by omega) (by decide)), zl_q, nI_clamp (by omega), cp_2, hP.2 i hi, if_neg (nI_ge he (by omega))]
  by_cases q : pg i < 48
  · rw [if_pos (show nI (pg i) < 48 from nI_lt (b := 48) q (by decide))]
  · rw [if_neg (show ¬ nI (pg i) < 48 from nI_nlt (b := 48) (by omega) (by omega)), if_neg (show ¬ nI (pg i) ≤ 55 from nI_ge (a := 55) (by omega) (by omega))]
theorem nI_max {p q : Nat} (hp : p < 2 ^ 31) (hq : q < 2 ^ 31) : (if nI p < nI q then nI q else nI p) = nI (max p q) := by
  by_cases h : p < q
  · rw [if_pos (nI_lt h hq), Nat.max_eq_right (by omega)]
  · rw [if_neg (nI_nlt (by omega) hp), Nat.max_eq_left (by omega)]
theorem rc_dig1 (hP : PIs (σ 1 1) (σ 2) L pg) (hO : POk L pg) {N i e E c mx : Nat} {y2 : Int32} (hi : i < L) (he : e < E) (he2 : E ≤ 2) (h : 48 ≤ pg i ∧ pg i ≤ 55) (hc : c < 8) (hm : mx ≤ 7) : L_X2_readInto_25 (N + 1) y2 (nI e) (nI E) (nI i) (cp σ (nI (c + 1)) k a b (nI mx)) = L_X2_readInto_25 N y2 (nI (e + 1)) (nI E) (nI (i + 1)) (cp σ (nI (c + 1)) k (if e = 0 then upd a c (nI (pg i - 48)) else a) (if e = 0 then b else upd b c (nI (pg i - 48))) (nI (max mx (pg i - 48)))) := by
  have hL := hO.1
  have hl := (hO.2 i hi).2
  have e1 : nI (pg i) - 48 = nI (pg i - 48) := pk_sub (b := 48) h.1
  have e2 : nI (c + 1) - 1 = nI c := by rw [nl_1, pk_sub (by omega)]; rfl
  have hz := nq_zin1 hc (by decide)
  have hp : F_X1_put (cp σ (nI (c + 1)) k a b (nI mx)) 31 (nI c) (nI e) (nI (pg i - 48)) = some (cp σ (nI (c + 1)) k (if e = 0 then upd a c (nI (pg i - 48)) else a) (if e = 0 then b else upd b c (nI (pg i - 48))) (nI mx)) := by
    unfold F_X1_put
    rw [F_has_nI (n := c + 1) cp_31 (by omega) (by omega), if_pos (by omega), zb_q, if_neg (by decide)]
    rcases (show e = 0 ∨ e = 1 by omega) with rfl | rfl
    · rw [if_pos (show nI 0 = 0 from rfl), zg_q hz, zl_q, nI_clamp (by omega), cp_s33]
      rfl
    · rw [if_neg (by decide), zg_q hz, zl_q, nI_clamp (by omega), cp_s34, if_neg (by decide), if_neg (by decide)]
  conv => lhs; unfold L_X2_readInto_25
  rw [cp_1, hP.1, if_neg (nI_ge hi (by omega)), zg_q (nq_zin1 (show i < 34 by omega) (by decide)), zl_q, nI_clamp (by omega), cp_2, hP.2 i hi, if_neg (nI_ge he (by omega)), if_neg (show ¬ nI (pg i) < 48 from nI_nlt (b := 48) (by omega) (by omega)), if_pos (show nI (pg i) ≤ 55 from nI_le (b := 55) (by omega) (by decide)), cp_31, e2, e1, hp, zb_q, zl_q, cp_13, nI_max (by omega) (by omega), cp_s1, zl_q, zl_q, nI_1, nI_1]
/-- both have read the same nodes -/
def Rl (c mx : Nat) (M : Int32) (K A B k t : Nat → Int32) : Prop := (M = nI mx ∨ M = -1 ∧ mx = 0) ∧ mx ≤ 7 ∧ ∀ v, v < c → ∃ x y z, x < 5 ∧ y ≤ mx ∧ z ≤ mx ∧ K v = nI x ∧ k v = nI x ∧ A v = nI y ∧ t (2 * v) = nI y ∧ B v = nI z ∧ t (2 * v + 1) = nI z
theorem within_dig : ∀ l, l < 127 → F_X7_within (nI l - 48) 0 7 = some (if 48 ≤ l ∧ l ≤ 55 then 1 else 0) := by decide +kernel
theorem Rl.dig {c mx e d : Nat} {M : Int32} {K A B k t : Nat → Int32} (h : Rl (c + 1) mx M K A B k t) (he : e < 2) (hd : d ≤ 7) : Rl (c + 1) (max mx d) (nI (max mx d)) K (if e = 0 then upd A c (nI d) else A) (if e = 0 then B else upd B c (nI d)) k (upd t (2 * c + e) (nI d)) := by
  refine ⟨Or.inl rfl, by have := h.2.1; omega, fun v hv => ?_⟩
  obtain ⟨x, y, z, h1, h2, h3, h4, h5, h6, h7, h8, h9⟩ := h.2.2 v hv
  rcases (show e = 0 ∨ e = 1 by omega) with rfl | rfl
  · by_cases q : v = c
    · subst q
      refine ⟨x, d, z, h1, by omega, by omega, h4, h5, by simp [upd], by simp [upd], by simpa using h8, by simpa [upd] using h9⟩
    · refine ⟨x, y, z, h1, by omega, by omega, h4, h5, by simpa [upd, q] using h6, ?_, by simpa using h8, ?_⟩
      · unfold upd; rw [if_neg (by omega)]; exact h7
      · unfold upd; rw [if_neg (by omega)]; exact h9
  · by_cases q : v = c
    · subst q
      refine ⟨x, y, d, h1, by omega, by omega, h4, h5, by simpa using h6, by simpa [upd] using h7, by simp [upd], by simp [upd]⟩
    · refine ⟨x, y, z, h1, by omega, by omega, h4, h5, by simpa using h6, ?_, by simpa [upd, q] using h8, ?_⟩
      · unfold upd; rw [if_neg (by omega)]; exact h7
      · unfold upd; rw [if_neg (by omega)]; exact h9
/-- where the reading breaks off -/
def Cf (σ : SF) (L : Nat) (res : Option ((Int32 × SF) ⊕ (Int32 × Int32 × Int32 × Int32 × SF))) (r : Nat) : Prop := (r < L ∧ ∃ x k a b m, res = some (.inl (nI r, cp σ x k a b m))) ∨ (r = L ∧ ∃ y2 y3 y4 x k a b m, res = some (.inr (y2, y3, y4, nI L, cp σ x k a b m)) ∧ ¬ (y2 = 0 ∧ y3 = y4))
theorem en2 {y : Nat} : en y ≤ 2 := en_le y
theorem dg_loop (hC : PIs (σ 1 1) (σ 2) L pg) (hM : PIs (τ 0 11) (τ 7) L pg) (hO : POk L pg) {y c : Nat} (hy : y < 5) (hc : c < 8) {K k : Nat → Int32} : ∀ (j N N2 i e mx : Nat) (M : Int32) (A B t : Nat → Int32), e + j = en y → i ≤ L → L - i < N → j < N2 → Rl (c + 1) mx M K A B k t →
    (∃ r, r ≤ L ∧ Cf σ L (L_X2_readInto_25 N 0 (nI e) (nI (en y)) (nI i) (cp σ (nI (c + 1)) K A B (nI mx))) r ∧ ∃ x m k' t', L_X7_read_74 (nI y) N2 (nI i) (nI e) (mp τ (nI c) M k t) = some (.inl (nI r, mp τ x m k' t'))) ∨
    (∃ A' B' t' mx' M' N', L_X2_readInto_25 N 0 (nI e) (nI (en y)) (nI i) (cp σ (nI (c + 1)) K A B (nI mx)) = L_X2_readInto_25 N' 0 (nI (en y)) (nI (en y)) (nI (i + j)) (cp σ (nI (c + 1)) K A' B' (nI mx')) ∧ L - (i + j) < N' ∧ L_X7_read_74 (nI y) N2 (nI i) (nI e) (mp τ (nI c) M k t) = some (.inr (nI (i + j), nI (en y), mp τ (nI c) M' k t')) ∧ i + j ≤ L ∧ Rl (c + 1) mx' M' K A' B' k t') := by
  have hL := hO.1
  have he2 := en2 (y := y)
  intro j
  induction j with
  | zero =>
    intro N N2 i e mx M A B t he hi hN hN2 hR
    right
    obtain ⟨N2, rfl⟩ : ∃ K, N2 = K + 1 := ⟨N2 - 1, by omega⟩
    have : e = en y := by omega
    subst this
    refine ⟨A, B, t, mx, M, N, rfl, hN, ?_, hi, hR⟩
    unfold L_X7_read_74
    rw [F_ends7_nI hy, zb_q, if_pos (nI_le (Nat.le_refl _) (by omega))]
    rfl
  | succ j ih =>
    intro N N2 i e mx M A B t he hi hN hN2 hR
    obtain ⟨N2, rfl⟩ : ∃ K, N2 = K + 1 := ⟨N2 - 1, by omega⟩
    obtain ⟨N, rfl⟩ : ∃ K, N = K + 1 := ⟨N - 1, by omega⟩
    have hmx := hR.2.1
    have hl := ltr_lt hO i
    by_cases hd : 48 ≤ ltr L pg i ∧ ltr L pg i ≤ 55
    · have hiL : i < L := by
        rcases Nat.lt_or_ge i L with q | q
        · exact q
        · unfold ltr at hd; rw [if_neg (by omega)] at hd; omega
      have hlt : ltr L pg i = pg i := by unfold ltr; rw [if_pos hiL]
      rw [hlt] at hd hl
      have hR2 := hR.dig (e := e) (d := pg i - 48) (by omega) (by omega)
      have e1 : nI (pg i) - 48 = nI (pg i - 48) := pk_sub (b := 48) hd.1
      have e3 : nI (2 * c) + nI e = nI (2 * c + e) := nI_add _ _
      have m1 : L_X7_read_74 (nI y) (N2 + 1) (nI i) (nI e) (mp τ (nI c) M k t) = L_X7_read_74 (nI y) N2 (nI (i + 1)) (nI (e + 1)) (mp τ (nI c) (nI (max mx (pg i - 48))) k (upd t (2 * c + e) (nI (pg i - 48)))) := by
        conv => lhs; unfold L_X7_read_74
        rw [F_ends7_nI hy, zb_q, if_neg (nI_ge (by omega) (by omega)), at_eq hM hL (by omega), hlt, zb_q, zl_q, within_dig _ hl, if_pos hd, zb_q, if_neg (by decide), mp_14, nI_2k, e3, e1, zg_q (nq_zin1 (show 2 * c + e < 16 by omega) (by decide)), zl_q, nI_clamp (by omega), mp_s9, mp_15, nI_1, nI_1]
        rcases hR.1 with q | ⟨q, q0⟩
        · rw [q]
          by_cases z : pg i - 48 ≤ mx
          · rw [if_pos (nI_le z (by omega)), zl_q, mp_s15, zl_q, zl_q, Nat.max_eq_left z]
          · rw [if_neg (nI_ge (by omega) (by omega)), zl_q, mp_s15, zl_q, zl_q, Nat.max_eq_right (by omega)]
        · have hneg : ¬ nI (pg i - 48) ≤ (-1 : Int32) := by
            intro z
            have h1 := Int32.le_iff_toInt_le.mp z
            rw [nI_toInt (by omega)] at h1
            have h2 : (-1 : Int32).toInt = -1 := rfl
            rw [h2] at h1
            omega
          rw [q, if_neg hneg, zl_q, mp_s15, zl_q, zl_q, q0, Nat.max_eq_right (by omega)]
      have c1 := rc_dig1 (N := N) (y2 := 0) (k := K) (a := A) (b := B) hC hO hiL (show e < en y by omega) he2 hd hc hmx
      rw [m1, c1, show i + (j + 1) = i + 1 + j by omega]
      exact ih N N2 (i + 1) (e + 1) _ _ _ _ _ (by omega) (by omega) (by omega) (by omega) hR2
    · left
      have m1 : L_X7_read_74 (nI y) (N2 + 1) (nI i) (nI e) (mp τ (nI c) M k t) = some (.inl (nI i, mp τ (nI c) M k t)) := by
        unfold L_X7_read_74
        rw [F_ends7_nI hy, zb_q, if_neg (nI_ge (by omega) (by omega)), at_eq hM hL (by omega), zb_q, zl_q, within_dig _ hl, if_neg hd, zb_q, if_pos rfl]
      refine ⟨i, hi, ?_, nI c, M, k, t, m1⟩
      rcases Nat.lt_or_ge i L with q | q
      · have hlt : ltr L pg i = pg i := by unfold ltr; rw [if_pos q]
        rw [hlt] at hd
        exact Or.inl ⟨q, _, _, _, _, _, rc_dig0 hC hO q (show e < en y by omega) (by omega) hd⟩
      · have : i = L := by omega
        subst this
        exact Or.inr ⟨rfl, _, _, _, _, _, _, _, _, rc_end hC hL, fun z => absurd ((nI_eq (by omega) (by omega)).mp z.2) (by omega)⟩
/-- both readings come to the same end -/
def Mf (τ : SF) (L : Nat) (res : Option ((Int32 × SF) ⊕ (Int32 × SF))) (r : Nat) : Prop := ∃ x m k t, res = some (.inl (nI r, mp τ x m k t)) ∨ (res = some (.inr (nI r, mp τ x m k t)) ∧ r < L)
def Rout (σ τ : SF) (L : Nat) (rc : Option ((Int32 × SF) ⊕ (Int32 × Int32 × Int32 × Int32 × SF))) (rm : Option ((Int32 × SF) ⊕ (Int32 × SF))) : Prop :=
  (∃ r, r ≤ L ∧ Cf σ L rc r ∧ Mf τ L rm r) ∨ (∃ c mx e M K A B k t, 1 ≤ c ∧ c ≤ 8 ∧ Rl c mx M K A B k t ∧ rc = some (.inr (0, e, e, nI L, cp σ (nI c) K A B (nI mx))) ∧ rm = some (.inr (nI L, mp τ (nI c) M k t)))
theorem Rl.grow {c mx y : Nat} {M : Int32} {K A B k t : Nat → Int32} (h : Rl c mx M K A B k t) (hy : y < 5) : Rl (c + 1) mx M (upd K c (nI y)) (upd A c 0) (upd B c 0) (upd k c (nI y)) (upd (upd t (2 * c) 0) (2 * c + 1) 0) := by
  refine ⟨h.1, h.2.1, fun v hv => ?_⟩
  by_cases q : v = c
  · subst q
    refine ⟨y, 0, 0, hy, by omega, by omega, by simp [upd], by simp [upd], by simp [upd, nI_0], ?_, by simp [upd, nI_0], by simp [upd, nI_0]⟩
    unfold upd; rw [if_neg (by omega), if_pos rfl]; rfl
  · obtain ⟨x, y', z, h1, h2, h3, h4, h5, h6, h7, h8, h9⟩ := h.2.2 v (by omega)
    refine ⟨x, y', z, h1, h2, h3, by simpa [upd, q] using h4, by simpa [upd, q] using h5, by simpa [upd, q] using h6, ?_, by simpa [upd, q] using h8, ?_⟩
    · unfold upd; rw [if_neg (by omega), if_neg (by omega)]; exact h7
    · unfold upd; rw [if_neg (by omega), if_neg (by omega)]; exact h9
theorem rd_step (hC : PIs (σ 1 1) (σ 2) L pg) (hM : PIs (τ 0 11) (τ 7) L pg) (hO : POk L pg) {N2 c : Nat} (hc : c < 8)
    (nxt : c + 1 < 8 → ∀ (N i e mx : Nat) (M : Int32) (K A B k t : Nat → Int32), e < 9 → i ≤ L → L - i < N → Rl (c + 1) mx M K A B k t → Rout σ τ L (L_X2_readInto_25 N 1 (nI e) (nI e) (nI i) (cp σ (nI (c + 1)) K A B (nI mx))) (L_X7_read_17 N2 (nI i) (mp τ (nI (c + 1)) M k t)))
    {N i e mx : Nat} {M : Int32} {K A B k t : Nat → Int32} (he : e < 9) (hi : i ≤ L) (hN : L - i < N) (hR : Rl c mx M K A B k t) :
    Rout σ τ L (L_X2_readInto_25 N 1 (nI e) (nI e) (nI i) (cp σ (nI c) K A B (nI mx))) (L_X7_read_17 (N2 + 1) (nI i) (mp τ (nI c) M k t)) := by
  have hL := hO.1
  obtain ⟨N, rfl⟩ : ∃ K, N = K + 1 := ⟨N - 1, by omega⟩
  have hl := ltr_lt hO i
  cases hk : kx (ltr L pg i) with
  | none =>
    left
    have e1 : kxI (ltr L pg i) = -1 := by unfold kxI; rw [hk]
    have m1 : L_X7_read_17 (N2 + 1) (nI i) (mp τ (nI c) M k t) = some (.inl (nI i, mp τ (nI c) M k t)) := by
      unfold L_X7_read_17
      rw [at_eq hM hL (by omega), zb_q, kindBy_eq _ hl, zb_q, e1, if_pos rfl]
    refine ⟨i, hi, ?_, nI c, M, k, t, Or.inl m1⟩
    rcases Nat.lt_or_ge i L with q | q
    · have hlt : ltr L pg i = pg i := by unfold ltr; rw [if_pos q]
      rw [hlt] at hk
      exact Or.inl ⟨q, _, _, _, _, _, rc_kind0 hC hO q (Nat.le_refl _) he hk⟩
    · have : i = L := by omega
      subst this
      exact Or.inr ⟨rfl, _, _, _, _, _, _, _, _, rc_end hC hL, fun z => absurd z.1 (by decide)⟩
  | some y =>
    have hy := kx_lt hk
    have hiL : i < L := by
      rcases Nat.lt_or_ge i L with q | q
      · exact q
      · unfold ltr at hk; rw [if_neg (by omega)] at hk; cases hk
    have hlt : ltr L pg i = pg i := by unfold ltr; rw [if_pos hiL]
    have e1 : kxI (ltr L pg i) = nI y := by unfold kxI; rw [hk]
    have hk' := hk
    rw [hlt] at hk'
    have hE := en2 (y := y)
    have hz := nq_zin1 hc (by decide)
    have h16 := nq_zin1 (show 2 * c < 16 by omega) (by decide)
    have h17 := nq_zin1 (show 2 * c + 1 < 16 by omega) (by decide)
    have c1 := rc_kind1 (N := N) (k := K) (a := A) (b := B) (m := nI mx) hC hO hiL (Nat.le_refl e) he hk' hc
    have hR2 := hR.grow hy
    have hne : nI y ≠ -1 := fun z => (nI_m1 (by omega)).mp z
    have m1 : L_X7_read_17 (N2 + 1) (nI i) (mp τ (nI c) M k t) = zs (L_X7_read_74 (nI y) 100 (nI (i + 1)) 0 (mp τ (nI c) M (upd k c (nI y)) (upd (upd t (2 * c) 0) (2 * c + 1) 0))) (fun ρ31 => some (.inl ρ31)) (fun u30 =>
    zb3 (some u30) fun v26 v27 σ28 =>
    zl (zst σ28 0 14 ((σ28 0 14) + 1)) fun σ32 =>
    if (σ32 0 14) = 8 then (
    some (.inr (v26, σ32))
    ) else (
    zb (F_X7_at σ32 v26) fun r34 =>
    if r34 = 44 then (
    zl (v26 + 1) fun v35 =>
    L_X7_read_17 N2 v35 σ32
    ) else (
    some (.inr (v26, σ32))
    )
    )) := by
      conv => lhs; unfold L_X7_read_17
      rw [at_eq hM hL (by omega), zb_q, kindBy_eq _ hl, zb_q, e1, if_neg hne, zl_q, nI_1, mp_14, zg_q hz, zl_q, nI_clamp (by omega), mp_s8, mp_14, nI_2k, zg_q h16, zl_q, nI_clamp (by omega), mp_s9, mp_14, nI_2k, nI_1, zg_q h17, zl_q, nI_clamp (by omega), mp_s9]
    rw [c1, m1]
    rcases dg_loop (σ := σ) (τ := τ) hC hM hO hy hc (en y) N 100 (i + 1) 0 mx M (upd A c 0) (upd B c 0) (upd (upd t (2 * c) 0) (2 * c + 1) 0) (by omega) (by omega) (by omega) (by omega) hR2 with ⟨r, hr, h1, x, m, k', t', h2⟩ | ⟨A', B', t', mx', M', N', h1, h2, h3, h4, h5⟩
    · left
      have h2' : L_X7_read_74 (nI y) 100 (nI (i + 1)) 0 (mp τ (nI c) M (upd k c (nI y)) (upd (upd t (2 * c) 0) (2 * c + 1) 0)) = some (.inl (nI r, mp τ x m k' t')) := h2
      refine ⟨r, hr, h1, x, m, k', t', Or.inl ?_⟩
      rw [h2', zs_ql]
    · have h3' : L_X7_read_74 (nI y) 100 (nI (i + 1)) 0 (mp τ (nI c) M (upd k c (nI y)) (upd (upd t (2 * c) 0) (2 * c + 1) 0)) = _ := h3
      have h1' : L_X2_readInto_25 N 0 0 (nI (en y)) (nI (i + 1)) (cp σ (nI (c + 1)) (upd K c (nI y)) (upd A c 0) (upd B c 0) (nI mx)) = _ := h1
      rw [h1', h3', zs_qr, zb3_q, zl_q, mp_14, nI_1, mp_s14, mp_14]
      obtain ⟨N', rfl⟩ : ∃ K, N' = K + 1 := ⟨N' - 1, by omega⟩
      generalize hi' : i + 1 + en y = i' at *
      have stop : ∀ rm, rm = some (.inr (nI i', mp τ (nI (c + 1)) M' (upd k c (nI y)) t')) → (i' < L → ¬ (pg i' = 44 ∧ c + 1 < 8)) → Rout σ τ L (L_X2_readInto_25 (N' + 1) 0 (nI (en y)) (nI (en y)) (nI i') (cp σ (nI (c + 1)) (upd K c (nI y)) A' B' (nI mx'))) rm := by
        intro rm hrm hno
        rcases Nat.lt_or_ge i' L with q | q
        · left
          exact ⟨i', h4, Or.inl ⟨q, _, _, _, _, _, rc_sep0 hC hO q (Nat.le_refl _) (by omega) (hno q) (by omega)⟩, _, _, _, _, Or.inr ⟨hrm, q⟩⟩
        · have : i' = L := by omega
          subst this
          right
          exact ⟨c + 1, mx', nI (en y), M', _, _, _, _, _, by omega, by omega, h5, rc_end hC hL, hrm⟩
      by_cases h8 : c + 1 = 8
      · rw [if_pos (by rw [h8]; rfl)]
        exact stop _ rfl (fun _ => by omega)
      · rw [if_neg (show ¬ nI (c + 1) = 8 from fun z => h8 ((nI_eq (b := 8) (by omega) (by decide)).mp z)), at_eq hM hL (by omega), zb_q]
        by_cases h44 : ltr L pg i' = 44
        · have q : i' < L := by
            rcases Nat.lt_or_ge i' L with q | q
            · exact q
            · unfold ltr at h44; rw [if_neg (by omega)] at h44; cases h44
          have hlt' : ltr L pg i' = pg i' := by unfold ltr; rw [if_pos q]
          rw [if_pos (by rw [h44]; rfl), zl_q, nI_1, rc_sep1 hC hO q (Nat.le_refl _) (by omega) (hlt'.symm.trans h44) (by omega)]
          exact nxt (by omega) N' (i' + 1) (en y) mx' M' _ _ _ _ _ (by omega) (by omega) (by omega) h5
        · rw [if_neg (show ¬ nI (ltr L pg i') = 44 from fun z => h44 ((nI_eq (b := 44) (by have := ltr_lt hO i'; omega) (by decide)).mp z))]
          refine stop _ rfl (fun q z => h44 ?_)
          unfold ltr
          rw [if_pos q]; exact z.1
theorem rd_loop (hC : PIs (σ 1 1) (σ 2) L pg) (hM : PIs (τ 0 11) (τ 7) L pg) (hO : POk L pg) : ∀ (j N2 c : Nat), c + (j + 1) = 8 → j < N2 → ∀ (N i e mx : Nat) (M : Int32) (K A B k t : Nat → Int32), e < 9 → i ≤ L → L - i < N → Rl c mx M K A B k t →
    Rout σ τ L (L_X2_readInto_25 N 1 (nI e) (nI e) (nI i) (cp σ (nI c) K A B (nI mx))) (L_X7_read_17 N2 (nI i) (mp τ (nI c) M k t)) := by
  intro j
  induction j with
  | zero =>
    intro N2 c hc hN2 N i e mx M K A B k t he hi hN hR
    obtain ⟨N2, rfl⟩ : ∃ K, N2 = K + 1 := ⟨N2 - 1, by omega⟩
    exact rd_step hC hM hO (by omega) (fun h => absurd h (by omega)) he hi hN hR
  | succ j ih =>
    intro N2 c hc hN2 N i e mx M K A B k t he hi hN hR
    obtain ⟨N2, rfl⟩ : ∃ K, N2 = K + 1 := ⟨N2 - 1, by omega⟩
    exact rd_step hC hM hO (by omega) (fun h => ih N2 (c + 1) (by omega) (by omega)) he hi hN hR
/-- the class's reading changes these only -/
def cpK (σ σ' : SF) : Prop := (∀ i, i ≠ 1 → i ≠ 31 → i ≠ 32 → i ≠ 33 → i ≠ 34 → σ' i = σ i) ∧ ∀ k, k ≠ 2 → k ≠ 3 → σ' 1 k = σ 1 k
/-- what a reading comes to -/
theorem read_ok (hC : PIs (σ 1 1) (σ 2) L pg) (hM : PIs (τ 0 11) (τ 7) L pg) (hO : POk L pg) : ∃ r σ' τ', r ≤ L ∧ F_X2_readInto σ = some (nI r, σ') ∧ F_X7_read τ = some (nI r, τ') ∧ cpK σ σ' ∧ Kp τ τ' ∧
    ((τ' 0 13 = 0 ∧ (r < L ∨ σ' 1 2 = 0)) ∨ (τ' 0 13 = 1 ∧ r = L ∧ σ' 1 2 = 1 ∧ ∃ c mx M, 1 ≤ c ∧ c ≤ 8 ∧ Rl c mx M (σ' 32) (σ' 33) (σ' 34) (τ' 8) (τ' 9) ∧ σ' 31 0 = nI c ∧ τ' 0 14 = nI c ∧ σ' 1 3 = nI mx ∧ τ' 0 15 = M)) := by
  have hL := hO.1
  have hC2 : PIs ((zst σ 1 2 0) 1 1) ((zst σ 1 2 0) 2) L pg := hC
  have hM2 : PIs ((zst τ 0 13 0) 0 11) ((zst τ 0 13 0) 7) L pg := hM
  have key := rd_loop hC2 hM2 hO 7 100 0 (by omega) (by omega) 100 0 0 0 (-1) (σ 32) (σ 33) (σ 34) (τ 8) (τ 9) (by omega) (by omega) (by omega) ⟨Or.inr ⟨rfl, rfl⟩, by omega, fun v hv => absurd hv (by omega)⟩
  have ec : zst (zst (zst σ 31 0 0) 1 2 0) 1 3 0 = cp (zst σ 1 2 0) (nI 0) (σ 32) (σ 33) (σ 34) (nI 0) := by
    funext c
    unfold zst zsr cp
    by_cases h1 : c = 1
    · subst h1; rfl
    · by_cases h31 : c = 31
      · subst h31; rfl
      · by_cases h32 : c = 32
        · subst h32; rfl
        · by_cases h33 : c = 33
          · subst h33; rfl
          · by_cases h34 : c = 34
            · subst h34; rfl
            · simp [h1, h31, h32, h33, h34]
  have em : zst (zst (zst τ 0 13 0) 0 14 0) 0 15 (-1) = mp (zst τ 0 13 0) (nI 0) (-1) (τ 8) (τ 9) := by
    funext c
    unfold zst zsr mp
    by_cases h0 : c = 0
    · subst h0; rfl
    · by_cases h8 : c = 8
      · subst h8; rfl
      · by_cases h9 : c = 9
        · subst h9; rfl
        · simp [h0, h8, h9]
  have kc : ∀ x k a b m, cpK σ (cp (zst σ 1 2 0) x k a b m) := fun x k a b m => ⟨fun i h1 h2 h3 h4 h5 => by unfold cp zst zsr; simp [h1, h2, h3, h4, h5], fun k h2 h3 => by unfold cp zst zsr upd; simp [h2, h3]⟩
  have kc2 : ∀ v x k a b m, cpK σ (zst (cp (zst σ 1 2 0) x k a b m) 1 2 v) := fun v x k a b m => ⟨fun i h1 h2 h3 h4 h5 => by unfold cp zst zsr; simp [h1, h2, h3, h4, h5], fun k h2 h3 => by unfold cp zst zsr upd; simp [h2, h3]⟩
  have km : ∀ x m k t, Kp τ (mp (zst τ 0 13 0) x m k t) := fun x m k t => ⟨fun i hi => by unfold mp zst zsr; simp [show i ≠ 0 by omega, show i ≠ 8 by omega, show i ≠ 9 by omega], fun k hk => by unfold mp zst zsr upd; simp [show k ≠ 13 by omega, show k ≠ 14 by omega, show k ≠ 15 by omega]⟩
  have km2 : ∀ v x m k t, Kp τ (zst (mp (zst τ 0 13 0) x m k t) 0 13 v) := fun v x m k t => ⟨fun i hi => by unfold mp zst zsr; simp [show i ≠ 0 by omega, show i ≠ 8 by omega, show i ≠ 9 by omega], fun k hk => by unfold mp zst zsr upd; simp [show k ≠ 13 by omega, show k ≠ 14 by omega, show k ≠ 15 by omega]⟩
  have fc : ∀ z, L_X2_readInto_25 100 1 0 0 0 (cp (zst σ 1 2 0) (nI 0) (σ 32) (σ 33) (σ 34) (nI 0)) = z → F_X2_readInto σ = zs z (fun ρ28 => some ρ28) (fun u27 =>
  zb5 (some u27) fun v21 v22 v23 v24 σ25 =>
  if v21 = 0 then (
  if v22 = v23 then (
  zl (zst σ25 1 2 1) fun σ31 =>
  some (σ31 1 1, σ31)
  ) else (
  zl (zst σ25 1 2 0) fun σ30 =>
  some (σ30 1 1, σ30)
  )
  ) else (
  zl (zst σ25 1 2 0) fun σ29 =>
  some (σ29 1 1, σ29)
  )) := by
    intro z hz
    unfold F_X2_readInto
    rw [zl_q, zl_q, zl_q, ec, hz]
  have fm : ∀ z, L_X7_read_17 100 0 (mp (zst τ 0 13 0) (nI 0) (-1) (τ 8) (τ 9)) = z → F_X7_read τ = zs z (fun ρ40 => some ρ40) (fun u39 =>
  zb2 (some u39) fun v36 σ37 =>
  if v36 = (σ37 0 11) then (
  zl (zst σ37 0 13 1) fun σ42 =>
  some (v36, σ42)
  ) else (
  zl (zst σ37 0 13 0) fun σ41 =>
  some (v36, σ41)
  )) := by
    intro z hz
    unfold F_X7_read
    rw [zl_q, zl_q, zl_q, em, hz]
  rcases key with ⟨r, hr, hcf, x, m, k, t, hmf⟩ | ⟨c, mx, e, M, K, A, B, k, t, hc1, hc8, hRl, hrc, hrm⟩
  · -- it breaks off
    have hm : ∃ τ', F_X7_read τ = some (nI r, τ') ∧ Kp τ τ' ∧ τ' 0 13 = 0 := by
      rcases hmf with h | ⟨h, hlt⟩
      · refine ⟨_, ?_, km x m k t, rfl⟩
        rw [fm _ h, zs_ql]
      · refine ⟨_, ?_, km2 0 x m k t, rfl⟩
        rw [fm _ h, zs_qr, zb2_q, mp_11, if_neg (by
          have e : (zst τ 0 13 0) 0 11 = nI L := hM.1
          rw [e]
          exact fun z => absurd ((nI_eq (by omega) (by omega)).mp z) (by omega)), zl_q]
    have hc : ∃ σ', F_X2_readInto σ = some (nI r, σ') ∧ cpK σ σ' ∧ (r < L ∨ σ' 1 2 = 0) := by
      rcases hcf with ⟨hlt, x, k, a, b, m, h⟩ | ⟨rfl, y2, y3, y4, x, k, a, b, m, h, hne⟩
      · refine ⟨_, ?_, kc x k a b m, Or.inl hlt⟩
        rw [fc _ h, zs_ql]
      · refine ⟨_, ?_, kc2 0 x k a b m, Or.inr rfl⟩
        have e : (zst (cp (zst σ 1 2 0) x k a b m) 1 2 0) 1 1 = nI r := hC.1
        rw [fc _ h, zs_qr, zb5_q, zl_q, zl_q, e]
        by_cases h2 : y2 = 0
        · rw [if_pos h2, if_neg (fun z => hne ⟨h2, z⟩)]
        · rw [if_neg h2]
    obtain ⟨τ', m1, m2, m3⟩ := hm
    obtain ⟨σ', c1, c2, c3⟩ := hc
    exact ⟨r, σ', τ', hr, c1, m1, c2, m2, Or.inl ⟨m3, c3⟩⟩
  · refine ⟨L, zst (cp (zst σ 1 2 0) (nI c) K A B (nI mx)) 1 2 1, zst (mp (zst τ 0 13 0) (nI c) M k t) 0 13 1, Nat.le_refl _, ?_, ?_, kc2 1 _ _ _ _ _, km2 1 _ _ _ _, Or.inr ⟨rfl, rfl, rfl, c, mx, M, hc1, hc8, hRl, rfl, rfl, rfl, rfl⟩⟩
    · have e1 : (zst (cp (zst σ 1 2 0) (nI c) K A B (nI mx)) 1 2 1) 1 1 = nI L := hC.1
      rw [fc _ hrc, zs_qr, zb5_q, if_pos rfl, if_pos rfl, zl_q, e1]
    · have e1 : (zst τ 0 13 0) 0 11 = nI L := hM.1
      rw [fm _ hrm, zs_qr, zb2_q, mp_11, e1, if_pos rfl, zl_q]
end PG2
