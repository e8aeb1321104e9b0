/-! THE CLASS LOOKS AT A GRAPH -/
def fl (σ : SF) (j : Nat) (o t s d p r : Nat → Int32) : SF := fun c => if c = j + 4 then o else if c = j + 5 then t else if c = j + 6 then s else if c = j + 7 then d else if c = j + 8 then p else if c = j + 9 then r else σ c
section FL
variable {σ : SF} {j : Nat} {o t s d p r : Nat → Int32} {k : Nat} {v : Int32}
theorem fl_self : fl σ j (σ (j + 4)) (σ (j + 5)) (σ (j + 6)) (σ (j + 7)) (σ (j + 8)) (σ (j + 9)) = σ := by
  funext c
  unfold fl
  repeat' split
  all_goals first | rfl | (rename_i h; rw [h])
theorem fl_0 : fl σ j o t s d p r j = σ j := by simp [fl]
theorem fl_1 : fl σ j o t s d p r (j + 1) = σ (j + 1) := by simp [fl]
theorem fl_2 : fl σ j o t s d p r (j + 2) = σ (j + 2) := by simp [fl]
theorem fl_3 : fl σ j o t s d p r (j + 3) = σ (j + 3) := by simp [fl]
theorem fl_4 : fl σ j o t s d p r (j + 4) = o := by simp [fl]
theorem fl_5 : fl σ j o t s d p r (j + 5) = t := by simp [fl]
theorem fl_6 : fl σ j o t s d p r (j + 6) = s := by simp [fl]
theorem fl_7 : fl σ j o t s d p r (j + 7) = d := by simp [fl]
theorem fl_8 : fl σ j o t s d p r (j + 8) = p := by simp [fl]
theorem fl_9 : fl σ j o t s d p r (j + 9) = r := by simp [fl]
theorem zsr_get (σ : SF) (c : Nat) (x : Nat → Int32) (i : Nat) : zsr σ c x i = if i = c then x else σ i := rfl
theorem fl_s4 : zst (fl σ j o t s d p r) (j + 4) k v = fl σ j (upd o k v) t s d p r := by
  unfold zst; rw [fl_4]; funext c; simp only [zsr, fl]; split <;> rfl
theorem fl_s5 : zst (fl σ j o t s d p r) (j + 5) k v = fl σ j o (upd t k v) s d p r := by
  unfold zst; rw [fl_5]; funext c; simp only [zsr, fl]; by_cases h : c = j + 5
  · simp [h]
  · simp [h]
theorem fl_s6 : zst (fl σ j o t s d p r) (j + 6) k v = fl σ j o t (upd s k v) d p r := by
  unfold zst; rw [fl_6]; funext c; simp only [zsr, fl]; by_cases h : c = j + 6
  · simp [h]
  · simp [h]
theorem fl_s7 : zst (fl σ j o t s d p r) (j + 7) k v = fl σ j o t s (upd d k v) p r := by
  unfold zst; rw [fl_7]; funext c; simp only [zsr, fl]; by_cases h : c = j + 7
  · simp [h]
  · simp [h]
theorem fl_s8 : zst (fl σ j o t s d p r) (j + 8) k v = fl σ j o t s d (upd p k v) r := by
  unfold zst; rw [fl_8]; funext c; simp only [zsr, fl]; by_cases h : c = j + 8
  · simp [h]
  · simp [h]
theorem fl_s9 : zst (fl σ j o t s d p r) (j + 9) k v = fl σ j o t s d p (upd r k v) := by
  unfold zst; rw [fl_9]; funext c; simp only [zsr, fl]; by_cases h : c = j + 9
  · simp [h]
  · simp [h]
end FL
/-! the graph that some cells spell, without some edges -/
def en (k : Nat) : Nat := if k = 0 then 1 else if k = 2 then 0 else 2
def tgt (f0 f1 : Nat → Nat) (e : Nat) : Nat := if e % 2 = 0 then f0 (e / 2) else f1 (e / 2)
def mkG (n : Nat) (kd f0 f1 : Nat → Nat) (W : Nat) : Gr := fun e => if e / 2 < n ∧ e % 2 < en (kd (e / 2)) ∧ W.testBit e = false then some (tgt f0 f1 e) else none
/-- kinds and ends of n nodes are as they should be -/
def gwf (n : Nat) (kd f0 f1 : Nat → Nat) : Prop := n ≤ 8 ∧ ∀ v, v < n → kd v < 5 ∧ f0 v < n ∧ f1 v < n
theorem mkG_ok {n : Nat} {kd f0 f1 : Nat → Nat} (h : gwf n kd f0 f1) (W : Nat) : gok (mkG n kd f0 f1 W) := by
  intro e t he
  unfold mkG at he
  split at he
  · rename_i q
    cases he
    have h1 := h.2 _ q.1
    have h8 := h.1
    unfold tgt
    split <;> omega
  · cases he
def JIs (σ : SF) (b n : Nat) (kd f0 f1 : Nat → Nat) : Prop := σ b 0 = nI n ∧ ∀ v, v < n → σ (b + 1) v = nI (kd v) ∧ σ (b + 2) v = nI (f0 v) ∧ σ (b + 3) v = nI (f1 v)
theorem JIs.fl {σ : SF} {j n : Nat} {kd f0 f1 : Nat → Nat} (h : JIs σ j n kd f0 f1) (o t s d p r : Nat → Int32) : JIs (fl σ j o t s d p r) j n kd f0 f1 := by
  unfold JIs
  rw [fl_0, fl_1, fl_2, fl_3]
  exact h
theorem nl_0 : (0 : Int32) = nI 0 := rfl
theorem nl_1 : (1 : Int32) = nI 1 := rfl
theorem nl_2 : (2 : Int32) = nI 2 := rfl
theorem nl_8 : (8 : Int32) = nI 8 := rfl
theorem nl_16 : (16 : Int32) = nI 16 := rfl
theorem nI_m1 {a : Nat} (h : a < 2 ^ 31) : nI a = -1 ↔ False := by
  constructor
  · intro e
    have : (nI a).toInt = (-1 : Int32).toInt := by rw [e]
    rw [nI_toInt h] at this
    have h2 : (-1 : Int32).toInt = -1 := by decide
    rw [h2] at this
    omega
  · exact False.elim
theorem F_has_nI {σ : SF} {b n : Nat} {k : Nat} (h : σ b 0 = nI n) (hn : n < 2 ^ 31) (hk : k < 2 ^ 31) : F_X1_has σ b (nI k) = some (if k < n then 1 else 0) := by
  unfold F_X1_has
  rw [h, if_neg (nI_pos hk)]
  by_cases q : k < n
  · rw [if_neg (nI_ge q hn), if_pos q]
  · rw [if_pos (nI_le (by omega) hk), if_neg q]
theorem F_has_m1 {σ : SF} {b : Nat} : F_X1_has σ b (-1) = some 0 := by
  unfold F_X1_has
  rw [if_pos (by decide)]
/-- any int that is asked for: a node, or none -/
theorem F_has_any {σ : SF} {b n : Nat} (h : σ b 0 = nI n) (hn : n < 2 ^ 31) (x : Int32) : (∃ k, k < n ∧ x = nI k ∧ F_X1_has σ b x = some 1) ∨ ((x < 0 ∨ nI n ≤ x) ∧ F_X1_has σ b x = some 0) := by
  rcases pk_ix x hn with q | q | ⟨k, hk, rfl⟩
  · right; exact ⟨Or.inl q, by unfold F_X1_has; rw [if_pos q]⟩
  · right
    refine ⟨Or.inr q, ?_⟩
    unfold F_X1_has
    by_cases q2 : x < 0
    · rw [if_pos q2]
    · rw [if_neg q2, h, if_pos q]
  · left; exact ⟨k, hk, rfl, by rw [F_has_nI h hn (by omega), if_pos hk]⟩
theorem F_target_nI {σ : SF} {b n : Nat} {kd f0 f1 : Nat → Nat} (hJ : JIs σ b n kd f0 f1) (hn : n ≤ 8) {v w : Nat} (hv : v < 2 ^ 31) (hw : w < 2) : F_X1_target σ b (nI v) (nI w) = some (if v < n then nI (if w = 0 then f0 v else f1 v) else -1) := by
  unfold F_X1_target
  rw [F_has_nI hJ.1 (by omega) hv]
  by_cases q : v < n
  · simp only [if_pos q, zb]
    rw [if_neg (by decide)]
    simp only [zg, nq_zin1 (show v < 8 by omega) (by decide), if_true, nI_clamp hv]
    have h2 := hJ.2 v q
    by_cases hw0 : w = 0
    · subst hw0
      simp only [nI_0, if_true, h2.2.1]
    · have : w = 1 := by omega
      subst this
      rw [if_neg (by decide), h2.2.2, if_neg (by decide)]
  · simp only [if_neg q, zb]
    rw [if_pos trivial]
theorem F_ends_nI {k : Nat} (hk : k < 5) : F_X6_endsOf (nI k) = some (nI (en k)) := by
  rcases (show k = 0 ∨ k = 1 ∨ k = 2 ∨ k = 3 ∨ k = 4 by omega) with rfl | rfl | rfl | rfl | rfl <;> rfl
theorem en_le (k : Nat) : en k ≤ 2 := by unfold en; split <;> (try split) <;> omega
/-- where an edge leads, as the class keeps it -/
def tv (g : Gr) (e : Nat) : Int32 := match g e with
  | some t => nI t
  | none => -1
theorem ft_step {σ : SF} {j n W : Nat} {kd f0 f1 : Nat → Nat} (hJ : JIs σ j n kd f0 f1) (hw : gwf n kd f0 f1) (hW : W < 2 ^ 16) {N e : Nat} (he : e < 16) (o t s d p r : Nat → Int32) :
    L_X0_findTargets_2 j (nI W) (N + 1) (nI e) (fl σ j o t s d p r) = L_X0_findTargets_2 j (nI W) N (nI (e + 1)) (fl σ j o (upd t e (tv (mkG n kd f0 f1 W) e)) s d p r) := by
  have hn := hw.1
  have hJ' := hJ.fl o t s d p r
  conv => lhs; unfold L_X0_findTargets_2
  rw [if_neg (by rw [nl_16]; exact nI_ge he (by decide))]
  have hd : nI e / 2 = nI (e / 2) := pk_div (d := 2) (by omega) (by decide) (by decide)
  have hm : nI e - nI e / 2 * 2 = nI (e % 2) := pk_rem (d := 2) (by omega) (by decide) (by decide)
  simp only [zl, hm]
  simp only [hd]
  rw [F_target_nI hJ' hn (by omega) (by omega), F_has_nI hJ'.1 (by omega) (by omega)]
  simp only [zb, zg, nq_zin1 he (by decide), if_true, nI_clamp (show e < 2 ^ 31 by omega), nI_1, fl_s5, fl_1]
  have hg : tv (mkG n kd f0 f1 W) e = if e / 2 < n ∧ e % 2 < en (kd (e / 2)) ∧ W.testBit e = false then nI (tgt f0 f1 e) else -1 := by
    unfold tv mkG
    by_cases q : e / 2 < n ∧ e % 2 < en (kd (e / 2)) ∧ W.testBit e = false
    · rw [if_pos q, if_pos q]
    · rw [if_neg q, if_neg q]
  rw [hg]
  by_cases q1 : e / 2 < n
  · have h2 := hw.2 _ q1
    have hT : tgt f0 f1 e < n := by unfold tgt; split <;> omega
    have hT' : (if e % 2 = 0 then f0 (e / 2) else f1 (e / 2)) = tgt f0 f1 e := rfl
    simp only [if_pos q1, hT']
    rw [if_neg (by decide), F_has_nI hJ'.1 (by omega) (by omega)]
    simp only [if_pos hT]
    rw [if_neg (by decide)]
    simp only [nq_zin1 (show e / 2 < 8 by omega) (by decide), if_true, nI_clamp (show e / 2 < 2 ^ 31 by omega), (hJ.2 _ q1).1, F_ends_nI h2.1]
    by_cases q2 : e % 2 < en (kd (e / 2))
    · have hen := en_le (kd (e / 2))
      rw [if_neg (nI_ge q2 (by omega))]
      simp only [nq_bit0 (show W < 2 ^ 31 by omega) (show e < 31 by omega)]
      by_cases q3 : W.testBit e = false
      · rw [if_pos q3, if_pos ⟨q1, q2, q3⟩]
      · rw [if_neg q3, if_neg (fun z => q3 z.2.2)]
    · rw [if_pos (nI_le (by omega) (by omega)), if_neg (fun z => q2 z.2.1)]
  · simp only [if_neg q1]
    rw [if_pos trivial, if_neg (fun z => q1 z.1)]
/-- a row whose places from e on are given by f -/
def rfrom (f t : Nat → Int32) (e m : Nat) : Nat → Int32 := fun k => if e ≤ k ∧ k < m then f k else t k
theorem rfrom_step {f t : Nat → Int32} {e m : Nat} (h : e < m) : rfrom f (upd t e (f e)) (e + 1) m = rfrom f t e m := by
  funext k
  unfold rfrom upd
  by_cases q : k = e
  · subst q
    rw [if_neg (by omega), if_pos rfl, if_pos ⟨by omega, h⟩]
  · by_cases q2 : e + 1 ≤ k ∧ k < m
    · rw [if_pos q2, if_pos ⟨by omega, q2.2⟩]
    · rw [if_neg q2, if_neg q, if_neg (fun z => q2 ⟨by omega, z.2⟩)]
theorem rfrom_end {f t : Nat → Int32} {e m : Nat} (h : m ≤ e) : rfrom f t e m = t := by
  funext k
  unfold rfrom
  rw [if_neg (by omega)]
theorem ft_loop {σ : SF} {j n W : Nat} {kd f0 f1 : Nat → Nat} (hJ : JIs σ j n kd f0 f1) (hw : gwf n kd f0 f1) (hW : W < 2 ^ 16) (o s d p r : Nat → Int32) : ∀ (m N e : Nat) (t : Nat → Int32), e + m = 16 → m < N →
    L_X0_findTargets_2 j (nI W) N (nI e) (fl σ j o t s d p r) = some (nI 16, fl σ j o (rfrom (tv (mkG n kd f0 f1 W)) t e 16) s d p r) := by
  intro m
  induction m with
  | zero =>
    intro N e t he hN
    obtain ⟨N, rfl⟩ : ∃ K, N = K + 1 := ⟨N - 1, by omega⟩
    have : e = 16 := by omega
    subst this
    unfold L_X0_findTargets_2
    rw [if_pos (by decide), rfrom_end (Nat.le_refl _)]
  | succ m ih =>
    intro N e t he hN
    obtain ⟨N, rfl⟩ : ∃ K, N = K + 1 := ⟨N - 1, by omega⟩
    rw [ft_step hJ hw hW (by omega), ih N (e + 1) _ (by omega) (by omega), rfrom_step (by omega)]
theorem F_findTargets_eq {σ : SF} {j n W : Nat} {kd f0 f1 : Nat → Nat} (hJ : JIs σ j n kd f0 f1) (hw : gwf n kd f0 f1) (hW : W < 2 ^ 16) (o t s d p r : Nat → Int32) :
    F_X0_findTargets (fl σ j o t s d p r) j (nI W) = some (fl σ j o (rfrom (tv (mkG n kd f0 f1 W)) t 0 16) s d p r) := by
  unfold F_X0_findTargets
  rw [nl_0, ft_loop hJ hw hW o s d p r 16 100 0 t (by omega) (by decide)]
  rfl
