/-! THE REFERENCE LAYS A GRAPH -/
def ml (τ : SF) (o a b c d x y : Nat → Int32) : SF := fun i => if i = 0 then o else if i = 12 then a else if i = 13 then b else if i = 14 then c else if i = 15 then d else if i = 16 then x else if i = 17 then y else τ i
section ML
variable {τ : SF} {o a b c d x y : Nat → Int32} {k : Nat} {v : Int32}
theorem ml_self : ml τ (τ 0) (τ 12) (τ 13) (τ 14) (τ 15) (τ 16) (τ 17) = τ := by
  funext i
  unfold ml
  repeat' split
  all_goals first | rfl | (rename_i h; rw [h])
theorem ml_0 : ml τ o a b c d x y 0 = o := rfl
theorem ml_12 : ml τ o a b c d x y 12 = a := rfl
theorem ml_13 : ml τ o a b c d x y 13 = b := rfl
theorem ml_14 : ml τ o a b c d x y 14 = c := rfl
theorem ml_15 : ml τ o a b c d x y 15 = d := rfl
theorem ml_16 : ml τ o a b c d x y 16 = x := rfl
theorem ml_17 : ml τ o a b c d x y 17 = y := rfl
theorem ml_10 : ml τ o a b c d x y 10 = τ 10 := rfl
theorem ml_11 : ml τ o a b c d x y 11 = τ 11 := rfl
theorem ml_s0 : zst (ml τ o a b c d x y) 0 k v = ml τ (upd o k v) a b c d x y := by
  unfold zst; rw [ml_0]; funext i; simp only [zsr, ml]; by_cases h : i = 0
  · simp [h]
  · simp [h]
theorem ml_s12 : zst (ml τ o a b c d x y) 12 k v = ml τ o (upd a k v) b c d x y := by
  unfold zst; rw [ml_12]; funext i; simp only [zsr, ml]; by_cases h : i = 12
  · simp [h]
  · simp [h]
theorem ml_s13 : zst (ml τ o a b c d x y) 13 k v = ml τ o a (upd b k v) c d x y := by
  unfold zst; rw [ml_13]; funext i; simp only [zsr, ml]; by_cases h : i = 13
  · simp [h]
  · simp [h]
theorem ml_s14 : zst (ml τ o a b c d x y) 14 k v = ml τ o a b (upd c k v) d x y := by
  unfold zst; rw [ml_14]; funext i; simp only [zsr, ml]; by_cases h : i = 14
  · simp [h]
  · simp [h]
theorem ml_s15 : zst (ml τ o a b c d x y) 15 k v = ml τ o a b c (upd d k v) x y := by
  unfold zst; rw [ml_15]; funext i; simp only [zsr, ml]; by_cases h : i = 15
  · simp [h]
  · simp [h]
theorem ml_s16 : zst (ml τ o a b c d x y) 16 k v = ml τ o a b c d (upd x k v) y := by
  unfold zst; rw [ml_16]; funext i; simp only [zsr, ml]; by_cases h : i = 16
  · simp [h]
  · simp [h]
theorem ml_s17 : zst (ml τ o a b c d x y) 17 k v = ml τ o a b c d x (upd y k v) := by
  unfold zst; rw [ml_17]; funext i; simp only [zsr, ml]; by_cases h : i = 17
  · simp [h]
  · simp [h]
end ML
/-- the graph that the reference's rows spell now -/
def MIs (o k t : Nat → Int32) (n : Nat) (kd f0 f1 : Nat → Nat) (W : Nat) : Prop := o 18 = nI n ∧ o 19 = nI W ∧ ∀ v, v < n → k v = nI (kd v) ∧ t (2 * v) = nI (f0 v) ∧ t (2 * v + 1) = nI (f1 v)
theorem MIs.at {o k t : Nat → Int32} {n W : Nat} {kd f0 f1 : Nat → Nat} (h : MIs o k t n kd f0 f1 W) {e : Nat} (he : e < 2 * n) : t e = nI (tgt f0 f1 e) := by
  have h2 := h.2.2 (e / 2) (by omega)
  unfold tgt
  by_cases q : e % 2 = 0
  · rw [if_pos q]
    have : e = 2 * (e / 2) := by omega
    rw [← h2.2.1, ← this]
  · rw [if_neg q]
    have : e = 2 * (e / 2) + 1 := by omega
    rw [← h2.2.2, ← this]
theorem F_isIn_nI {a k : Nat} (ha : a < 2 ^ 31) (hk : k < 31) : F_X7_isIn (nI a) (nI k) = some (if a.testBit k then 1 else 0) := by
  unfold F_X7_isIn
  simp only [nq_bit1 ha hk]
  cases a.testBit k <;> simp
theorem F_ends7_nI {k : Nat} (hk : k < 5) : F_X7_ends (nI k) = some (nI (en k)) := by
  rcases (show k = 0 ∨ k = 1 ∨ k = 2 ∨ k = 3 ∨ k = 4 by omega) with rfl | rfl | rfl | rfl | rfl <;> rfl
theorem F_isEdge_nI {τ : SF} {n W : Nat} {kd f0 f1 : Nat → Nat} (h : MIs (τ 0) (τ 10) (τ 11) n kd f0 f1 W) (hw : gwf n kd f0 f1) (hW : W < 2 ^ 16) {e : Nat} (he : e < 2 * n) : F_X7_isEdge τ (nI e) = some (if (mkG n kd f0 f1 W e).isSome then 1 else 0) := by
  have h8 := hw.1
  have hd : nI e / 2 = nI (e / 2) := pk_div (d := 2) (by omega) (by decide) (by decide)
  have hm : nI e - nI e / 2 * 2 = nI (e % 2) := pk_rem (d := 2) (by omega) (by decide) (by decide)
  have hk := hw.2 (e / 2) (by omega)
  unfold F_X7_isEdge
  simp only [zl, hm]
  simp only [hd, zg, nq_zin1 (show e / 2 < 8 by omega) (by decide), if_true, nI_clamp (show e / 2 < 2 ^ 31 by omega), (h.2.2 (e / 2) (by omega)).1, F_ends7_nI hk.1, zb, h.2.1, F_isIn_nI (show W < 2 ^ 31 by omega) (show e < 31 by omega)]
  unfold mkG
  have hen := en_le (kd (e / 2))
  by_cases q2 : e % 2 < en (kd (e / 2))
  · rw [if_neg (nI_ge q2 (by omega))]
    cases q3 : W.testBit e
    · simp [q2, show e / 2 < n by omega]
    · simp [q2]
  · rw [if_pos (nI_le (by omega) (by omega))]
    simp [q2]
theorem mkG_some {n W : Nat} {kd f0 f1 : Nat → Nat} {e : Nat} (h : (mkG n kd f0 f1 W e).isSome = true) : mkG n kd f0 f1 W e = some (tgt f0 f1 e) := by
  unfold mkG at h ⊢
  split
  · rfl
  · rename_i q; rw [if_neg q] at h; cases h
/-- a node is done, when it has been begun -/
def dbd (g : Gr) (d v : Nat) (s : Ds) : Ds := ((stp (dfs g d) g (2 * v + 1) (stp (dfs g d) g (2 * v) s)).1, (stp (dfs g d) g (2 * v + 1) (stp (dfs g d) g (2 * v) s)).2 ++ [v])
theorem dfs_dbd (g : Gr) (d v : Nat) (s : Ds) : dfs g (d + 1) v s = dbd g d v (s.1 ||| 2 ^ v, s.2) := rfl
theorem stp_len {g : Gr} (hg : gok g) : ∀ (d v : Nat) (s : Ds), s.2.length ≤ (dfs g d v s).2.length := by
  intro d
  induction d with
  | zero => intro v s; exact Nat.le_refl _
  | succ d ih =>
    intro v s
    have hst : ∀ (e : Nat) (s : Ds), s.2.length ≤ (stp (dfs g d) g e s).2.length := by
      intro e s
      unfold stp
      cases g e with
      | none => exact Nat.le_refl _
      | some t =>
        simp only
        split
        · exact Nat.le_refl _
        · exact ih t s
    have a := hst (2 * v) (s.1 ||| 2 ^ v, s.2)
    have b := hst (2 * v + 1) (stp (dfs g d) g (2 * v) (s.1 ||| 2 ^ v, s.2))
    unfold dfs
    simp only [List.length_append, List.length_cons, List.length_nil]
    simp only at a
    omega
theorem stp_len2 {g : Gr} (hg : gok g) (d e : Nat) (s : Ds) : s.2.length ≤ (stp (dfs g d) g e s).2.length := by
  unfold stp
  cases g e with
  | none => exact Nat.le_refl _
  | some t =>
    simp only
    split
    · exact Nat.le_refl _
    · exact stp_len hg d t s
section MD
variable {τ : SF} {o b c d0 a0 : Nat → Int32} {n W : Nat} {kd f0 f1 : Nat → Nat}
def mst (τ : SF) (o a0 b c d0 : Nat → Int32) (s : Ds) (be st : Nat → Int32) : SF := ml τ (upd o 22 (nI s.1)) (lrow s.2 a0) b c d0 be st
theorem mst_g {g : Gr} (hgg : mkG n kd f0 f1 W = g) (hM : MIs o (τ 10) (τ 11) n kd f0 f1 W) (s : Ds) (be st : Nat → Int32) : MIs (mst τ o a0 b c d0 s be st 0) (mst τ o a0 b c d0 s be st 10) (mst τ o a0 b c d0 s be st 11) n kd f0 f1 W := hM
/-- one end of the node on top is looked at -/
theorem mo_step (hw : gwf n kd f0 f1) (hW : W < 2 ^ 16) (hM : MIs o (τ 10) (τ 11) n kd f0 f1 W) {d : Nat}
    (ih : ∀ (v k : Nat) (s : Ds) (be st : Nat → Int32) (N : Nat), v < n → be k = nI v → st k = nI 0 → s.1 < 2 ^ 8 → ub s.1 < d → k + 1 + ub s.1 ≤ 8 → s.2.length + ub s.1 ≤ 7 → 0 < d → ∃ be' st', (∀ i, i < k → be' i = be i ∧ st' i = st i) ∧ L_X7_layOrder_23 (N + 3 * ((dbd (mkG n kd f0 f1 W) (d - 1) v s).2.length - s.2.length)) (nI (k + 1)) (nI s.2.length) (mst τ o a0 b c d0 s be st) = L_X7_layOrder_23 N (nI k) (nI (dbd (mkG n kd f0 f1 W) (d - 1) v s).2.length) (mst τ o a0 b c d0 (dbd (mkG n kd f0 f1 W) (d - 1) v s) be' st'))
    {v w k : Nat} {s : Ds} {be st : Nat → Int32} (N : Nat) (hv : v < n) (hb : be k = nI v) (hst : st k = nI w) (hw2 : w < 2) (h8 : s.1 < 2 ^ 8) (hu : ub s.1 ≤ d) (hk : k + 1 + ub s.1 ≤ 8) (hl : s.2.length + ub s.1 ≤ 7) :
    ∃ be' st', (∀ i, i < k → be' i = be i ∧ st' i = st i) ∧ be' k = nI v ∧ st' k = nI (w + 1) ∧ L_X7_layOrder_23 (N + 1 + 3 * ((stp (dfs (mkG n kd f0 f1 W) d) (mkG n kd f0 f1 W) (2 * v + w) s).2.length - s.2.length)) (nI (k + 1)) (nI s.2.length) (mst τ o a0 b c d0 s be st) = L_X7_layOrder_23 N (nI (k + 1)) (nI (stp (dfs (mkG n kd f0 f1 W) d) (mkG n kd f0 f1 W) (2 * v + w) s).2.length) (mst τ o a0 b c d0 (stp (dfs (mkG n kd f0 f1 W) d) (mkG n kd f0 f1 W) (2 * v + w) s) be' st') := by
  have hn8 := hw.1
  have hg := mkG_ok hw W
  have hMs : ∀ (s : Ds) (be st : Nat → Int32), MIs (mst τ o a0 b c d0 s be st 0) (mst τ o a0 b c d0 s be st 10) (mst τ o a0 b c d0 s be st 11) n kd f0 f1 W := fun s be st => hM
  -- the iteration itself, with n' left
  have iter : ∀ n' : Nat, L_X7_layOrder_23 (n' + 1) (nI (k + 1)) (nI s.2.length) (mst τ o a0 b c d0 s be st) =
      if (mkG n kd f0 f1 W (2 * v + w)).isSome = true ∧ s.1.testBit (tgt f0 f1 (2 * v + w)) = false then L_X7_layOrder_23 n' (nI (k + 2)) (nI s.2.length) (mst τ o a0 b c d0 (s.1 ||| 2 ^ tgt f0 f1 (2 * v + w), s.2) (upd be (k + 1) (nI (tgt f0 f1 (2 * v + w)))) (upd (upd st k (nI (w + 1))) (k + 1) 0))
      else L_X7_layOrder_23 n' (nI (k + 1)) (nI s.2.length) (mst τ o a0 b c d0 s be (upd st k (nI (w + 1)))) := by
    intro n'
    have he2 : 2 * v + w < 2 * n := by omega
    have hT : tgt f0 f1 (2 * v + w) < n := by
      have := hw.2 ((2 * v + w) / 2) (by omega)
      unfold tgt; split <;> omega
    conv => lhs; unfold L_X7_layOrder_23
    rw [if_neg (by rw [nl_0]; exact nI_ge (by omega) (by omega))]
    have e1 : nI (k + 1) - 1 = nI k := nI_pred k
    have r16 : (mst τ o a0 b c d0 s be st) 16 = be := rfl
    have r17 : (mst τ o a0 b c d0 s be st) 17 = st := rfl
    simp only [zl, e1, zg, nq_zin1 (show k < 8 by omega) (by decide), if_true, nI_clamp (show k < 2 ^ 31 by omega), r16, r17, hb, hst]
    rw [if_neg (by rw [nl_2]; exact fun z => by have := (nI_eq (by omega) (by decide)).mp z; omega)]
    have e2 : (2 : Int32) * nI v + nI w = nI (2 * v + w) := by rw [nl_2, pk_mul, nI_add]
    rw [e2, nI_1, show zst (mst τ o a0 b c d0 s be st) 17 k (nI (w + 1)) = mst τ o a0 b c d0 s be (upd st k (nI (w + 1))) from by unfold mst; rw [ml_s17]]
    rw [F_isEdge_nI (hMs _ _ _) hw hW he2]
    have r11 : (mst τ o a0 b c d0 s be (upd st k (nI (w + 1)))) 11 (2 * v + w) = nI (tgt f0 f1 (2 * v + w)) := hM.at he2
    have r22 : (mst τ o a0 b c d0 s be (upd st k (nI (w + 1)))) 0 22 = nI s.1 := rfl
    simp only [zb]
    cases hS : (mkG n kd f0 f1 W (2 * v + w)).isSome
    · simp
    · simp only [if_true]
      rw [if_neg (by decide)]
      simp only [nq_zin1 (show 2 * v + w < 16 by omega) (by decide), if_true, nI_clamp (show 2 * v + w < 2 ^ 31 by omega), r11, r22, F_isIn_nI (show s.1 < 2 ^ 31 by omega) (show tgt f0 f1 (2 * v + w) < 31 by omega)]
      cases hB : s.1.testBit (tgt f0 f1 (2 * v + w))
      · have hub := ub_or (R := s.1) (v := tgt f0 f1 (2 * v + w)) (by omega) hB
        simp only [Bool.false_eq_true, if_false, if_true, and_self]
        rw [nq_1 (show tgt f0 f1 (2 * v + w) < 31 by omega), fa_or]
        rw [show zst (mst τ o a0 b c d0 s be (upd st k (nI (w + 1)))) 0 22 (nI (s.1 ||| 2 ^ tgt f0 f1 (2 * v + w))) = mst τ o a0 b c d0 (s.1 ||| 2 ^ tgt f0 f1 (2 * v + w), s.2) be (upd st k (nI (w + 1))) from by unfold mst; rw [ml_s0, fa_upd_twice]]
        have r11' : (mst τ o a0 b c d0 (s.1 ||| 2 ^ tgt f0 f1 (2 * v + w), s.2) be (upd st k (nI (w + 1)))) 11 (2 * v + w) = nI (tgt f0 f1 (2 * v + w)) := hM.at he2
        simp only [r11', nq_zin1 (show k + 1 < 8 by omega) (by decide), if_true, nI_clamp (show k + 1 < 2 ^ 31 by omega), nI_1]
        rw [show zst (mst τ o a0 b c d0 (s.1 ||| 2 ^ tgt f0 f1 (2 * v + w), s.2) be (upd st k (nI (w + 1)))) 16 (k + 1) (nI (tgt f0 f1 (2 * v + w))) = mst τ o a0 b c d0 (s.1 ||| 2 ^ tgt f0 f1 (2 * v + w), s.2) (upd be (k + 1) (nI (tgt f0 f1 (2 * v + w)))) (upd st k (nI (w + 1))) from by unfold mst; rw [ml_s16]]
        rw [show ∀ q : Int32, zst (mst τ o a0 b c d0 (s.1 ||| 2 ^ tgt f0 f1 (2 * v + w), s.2) (upd be (k + 1) (nI (tgt f0 f1 (2 * v + w)))) (upd st k (nI (w + 1)))) 17 (k + 1) q = mst τ o a0 b c d0 (s.1 ||| 2 ^ tgt f0 f1 (2 * v + w), s.2) (upd be (k + 1) (nI (tgt f0 f1 (2 * v + w)))) (upd (upd st k (nI (w + 1))) (k + 1) q) from fun q => by unfold mst; rw [ml_s17]]
      · simp
  by_cases hq : (mkG n kd f0 f1 W (2 * v + w)).isSome = true ∧ s.1.testBit (tgt f0 f1 (2 * v + w)) = false
  · have hT : tgt f0 f1 (2 * v + w) < n := by
      have := hw.2 ((2 * v + w) / 2) (by omega)
      unfold tgt; split <;> omega
    have hub := ub_or (R := s.1) (v := tgt f0 f1 (2 * v + w)) (by omega) hq.2
    have hstp : stp (dfs (mkG n kd f0 f1 W) d) (mkG n kd f0 f1 W) (2 * v + w) s = dbd (mkG n kd f0 f1 W) (d - 1) (tgt f0 f1 (2 * v + w)) (s.1 ||| 2 ^ tgt f0 f1 (2 * v + w), s.2) := by
      unfold stp
      rw [mkG_some hq.1]
      simp only [hq.2, Bool.false_eq_true, if_false]
      obtain ⟨d', rfl⟩ : ∃ d', d = d' + 1 := ⟨d - 1, by omega⟩
      rfl
    rw [hstp]
    obtain ⟨be', st', a1, a2⟩ := ih (tgt f0 f1 (2 * v + w)) (k + 1) (s.1 ||| 2 ^ tgt f0 f1 (2 * v + w), s.2) (upd be (k + 1) (nI (tgt f0 f1 (2 * v + w)))) (upd (upd st k (nI (w + 1))) (k + 1) 0) N hT (by simp [upd]) (by simp [upd, nI_0]) (nq_or h8 (nq_pow (by omega))) (by simp only; omega) (by simp only; omega) (by simp only; omega) (by omega)
    refine ⟨be', st', fun i hi => ?_, ?_, ?_, ?_⟩
    · have := a1 i (by omega)
      rw [this.1, this.2]
      exact ⟨by unfold upd; rw [if_neg (by omega)], by unfold upd; rw [if_neg (by omega), if_neg (by omega)]⟩
    · rw [(a1 k (by omega)).1]; unfold upd; rw [if_neg (by omega)]; exact hb
    · rw [(a1 k (by omega)).2]; unfold upd; rw [if_neg (by omega), if_pos rfl]
    · rw [show N + 1 + 3 * ((dbd (mkG n kd f0 f1 W) (d - 1) (tgt f0 f1 (2 * v + w)) (s.1 ||| 2 ^ tgt f0 f1 (2 * v + w), s.2)).2.length - s.2.length) = (N + 3 * ((dbd (mkG n kd f0 f1 W) (d - 1) (tgt f0 f1 (2 * v + w)) (s.1 ||| 2 ^ tgt f0 f1 (2 * v + w), s.2)).2.length - s.2.length)) + 1 by omega, iter, if_pos hq]
      exact a2
  · have hstp : stp (dfs (mkG n kd f0 f1 W) d) (mkG n kd f0 f1 W) (2 * v + w) s = s := by
      unfold stp
      cases hS : mkG n kd f0 f1 W (2 * v + w) with
      | none => rfl
      | some t =>
        have h1 : (mkG n kd f0 f1 W (2 * v + w)).isSome = true := by rw [hS]; rfl
        have h2 := mkG_some h1
        rw [hS] at h2
        cases h2
        have h3 : s.1.testBit (tgt f0 f1 (2 * v + w)) = true := by
          cases hB : s.1.testBit (tgt f0 f1 (2 * v + w)) with
          | true => rfl
          | false => exact absurd ⟨h1, hB⟩ hq
        simp only [h3, if_true]
    rw [hstp]
    refine ⟨be, upd st k (nI (w + 1)), fun i hi => ⟨rfl, by unfold upd; rw [if_neg (by omega)]⟩, hb, by simp [upd], ?_⟩
    rw [Nat.sub_self, Nat.mul_zero, Nat.add_zero, iter, if_neg hq]
theorem mo_ok (hw : gwf n kd f0 f1) (hW : W < 2 ^ 16) (hM : MIs o (τ 10) (τ 11) n kd f0 f1 W) : ∀ (d v k : Nat) (s : Ds) (be st : Nat → Int32) (N : Nat), v < n → be k = nI v → st k = nI 0 → s.1 < 2 ^ 8 → ub s.1 < d → k + 1 + ub s.1 ≤ 8 → s.2.length + ub s.1 ≤ 7 → 0 < d → ∃ be' st', (∀ i, i < k → be' i = be i ∧ st' i = st i) ∧ L_X7_layOrder_23 (N + 3 * ((dbd (mkG n kd f0 f1 W) (d - 1) v s).2.length - s.2.length)) (nI (k + 1)) (nI s.2.length) (mst τ o a0 b c d0 s be st) = L_X7_layOrder_23 N (nI k) (nI (dbd (mkG n kd f0 f1 W) (d - 1) v s).2.length) (mst τ o a0 b c d0 (dbd (mkG n kd f0 f1 W) (d - 1) v s) be' st') := by
  intro d
  induction d with
  | zero => intro v k s be st N _ _ _ _ _ _ _ h; exact absurd h (by decide)
  | succ d ih =>
    intro v k s be st N hv hb hst h8 hu hk hl _
    have hg := mkG_ok hw W
    rw [show d + 1 - 1 = d from rfl]
    have l1 := stp_len2 hg d (2 * v) s
    have n1 := stp_num hg d (2 * v) s h8
    have u1 : ub (stp (dfs (mkG n kd f0 f1 W) d) (mkG n kd f0 f1 W) (2 * v) s).1 ≤ ub s.1 := ub_mono n1.2.1
    have l2 := stp_len2 hg d (2 * v + 1) (stp (dfs (mkG n kd f0 f1 W) d) (mkG n kd f0 f1 W) (2 * v) s)
    have n2 := stp_num hg d (2 * v + 1) _ n1.2.2
    have hlen : (dbd (mkG n kd f0 f1 W) d v s).2.length = (stp (dfs (mkG n kd f0 f1 W) d) (mkG n kd f0 f1 W) (2 * v + 1) (stp (dfs (mkG n kd f0 f1 W) d) (mkG n kd f0 f1 W) (2 * v) s)).2.length + 1 := by unfold dbd; simp
    obtain ⟨be1, st1, a1, a2, a3, a4⟩ := mo_step (a0 := a0) (b := b) (c := c) (d0 := d0) hw hW hM ih (w := 0) (k := k) (N + 1 + 1 + 3 * ((stp (dfs (mkG n kd f0 f1 W) d) (mkG n kd f0 f1 W) (2 * v + 1) (stp (dfs (mkG n kd f0 f1 W) d) (mkG n kd f0 f1 W) (2 * v) s)).2.length - (stp (dfs (mkG n kd f0 f1 W) d) (mkG n kd f0 f1 W) (2 * v) s).2.length)) hv hb hst (by decide) h8 (by omega) hk hl
    simp only [Nat.add_zero] at a4
    obtain ⟨be2, st2, b1, b2, b3, b4⟩ := mo_step (a0 := a0) (b := b) (c := c) (d0 := d0) hw hW hM ih (w := 1) (k := k) (N + 1) hv a2 a3 (by decide) n1.2.2 (by omega) (by omega) (by omega)
    refine ⟨be2, st2, fun i hi => ⟨(b1 i hi).1.trans (a1 i hi).1, (b1 i hi).2.trans (a1 i hi).2⟩, ?_⟩
    rw [show N + 3 * ((dbd (mkG n kd f0 f1 W) d v s).2.length - s.2.length) = N + 1 + 1 + 3 * ((stp (dfs (mkG n kd f0 f1 W) d) (mkG n kd f0 f1 W) (2 * v + 1) (stp (dfs (mkG n kd f0 f1 W) d) (mkG n kd f0 f1 W) (2 * v) s)).2.length - (stp (dfs (mkG n kd f0 f1 W) d) (mkG n kd f0 f1 W) (2 * v) s).2.length) + 1 + 3 * ((stp (dfs (mkG n kd f0 f1 W) d) (mkG n kd f0 f1 W) (2 * v) s).2.length - s.2.length) by omega, a4, b4]
    -- the node is done
    generalize hz : stp (dfs (mkG n kd f0 f1 W) d) (mkG n kd f0 f1 W) (2 * v + 1) (stp (dfs (mkG n kd f0 f1 W) d) (mkG n kd f0 f1 W) (2 * v) s) = z at *
    have hdb : dbd (mkG n kd f0 f1 W) d v s = (z.1, z.2 ++ [v]) := by unfold dbd; rw [hz]
    rw [hdb]
    conv => lhs; unfold L_X7_layOrder_23
    rw [if_neg (by rw [nl_0]; exact nI_ge (by omega) (by omega))]
    have e1 : nI (k + 1) - 1 = nI k := nI_pred k
    have r16 : (mst τ o a0 b c d0 z be2 st2) 16 = be2 := rfl
    have r17 : (mst τ o a0 b c d0 z be2 st2) 17 = st2 := rfl
    simp only [zl, e1, zg, nq_zin1 (show k < 8 by omega) (by decide), if_true, nI_clamp (show k < 2 ^ 31 by omega), r16, r17, b2, b3]
    rw [if_pos (show nI (1 + 1) = 2 from rfl)]
    simp only [nq_zin1 (show z.2.length < 8 by omega) (by decide), if_true, nI_clamp (show z.2.length < 2 ^ 31 by omega), nI_1]
    rw [show zst (mst τ o a0 b c d0 z be2 st2) 12 z.2.length (nI v) = mst τ o a0 b c d0 (z.1, z.2 ++ [v]) be2 st2 from by unfold mst; rw [ml_s12, lrow_app]]
    rw [pk_m1]
    simp
end MD
