theorem zl_q {α β : Type} (e : α) (f : α → Option β) : zl e f = f e := by unfold zl; exact Eq.trans rfl rfl
theorem zg_q {β : Type} {b : Bool} (h : b = true) (x : Option β) : zg b x = x := by subst h; unfold zg; exact if_pos rfl
theorem zb_q {α β : Type} (x : α) (f : α → Option β) : zb (some x) f = f x := by unfold zb; exact Eq.trans rfl rfl
theorem zb2_q {A B β : Type} (x : A) (y : B) (f : A → B → Option β) : zb2 (some (x, y)) f = f x y := by unfold zb2; exact Eq.trans rfl rfl
theorem zb3_q {A B C β : Type} (x : A) (y : B) (t : C) (f : A → B → C → Option β) : zb3 (some (x, y, t)) f = f x y t := by unfold zb3; exact Eq.trans rfl rfl
theorem zb4_q {A B C D β : Type} (x : A) (y : B) (t : C) (u : D) (f : A → B → C → D → Option β) : zb4 (some (x, y, t, u)) f = f x y t u := by unfold zb4; exact Eq.trans rfl rfl
theorem zb5_q {A B C D E β : Type} (x : A) (y : B) (t : C) (u : D) (v : E) (f : A → B → C → D → E → Option β) : zb5 (some (x, y, t, u, v)) f = f x y t u v := by unfold zb5; exact Eq.trans rfl rfl
theorem zs_qr {ρ α β : Type} (x : α) (g : ρ → Option β) (f : α → Option β) : zs (some (.inr x)) g f = f x := by unfold zs; exact Eq.trans rfl rfl
theorem zs_ql {ρ α β : Type} (x : ρ) (g : ρ → Option β) (f : α → Option β) : zs (some (.inl x)) g f = g x := by unfold zs; exact Eq.trans rfl rfl
theorem Rch_n {n W : Nat} {kd f0 f1 : Nat → Nat} (hw : gwf n kd f0 f1) (h0 : 0 < n) {a v : Nat} (h : Rch (mkG n kd f0 f1 W) a v) : v < n := h.ind (fun v => v < n) (fun _ => h0) (fun e t he _ _ _ => by
  unfold mkG at he
  split at he
  · rename_i q
    cases he
    have h1 := hw.2 _ q.1
    unfold tgt
    split <;> omega
  · cases he)
/-! turning the row round -/
def rvrow (P : List Nat) (a0 : Nat → Int32) (i : Nat) : Nat → Int32 := fun k => if k < P.length then nI (P.getD (if k < i ∨ P.length - i ≤ k then P.length - 1 - k else k) 0) else a0 k
theorem rvrow_0 (P : List Nat) (a0 : Nat → Int32) : rvrow P a0 0 = lrow P a0 := by
  funext k
  unfold rvrow lrow
  by_cases h : k < P.length
  · rw [if_pos h, if_pos h, if_neg (by omega)]
  · rw [if_neg h, if_neg h]
theorem rvrow_at {P : List Nat} {a0 : Nat → Int32} {i k j : Nat} (hk : k < P.length) (h : (k < i ∨ P.length - i ≤ k) ∧ j = P.length - 1 - k ∨ ¬ (k < i ∨ P.length - i ≤ k) ∧ j = k) : rvrow P a0 i k = nI (P.getD j 0) := by
  unfold rvrow
  rw [if_pos hk]
  rcases h with ⟨h1, rfl⟩ | ⟨h1, rfl⟩
  · rw [if_pos h1]
  · rw [if_neg h1]
theorem rvrow_step {P : List Nat} {a0 : Nat → Int32} {i : Nat} (h : i < P.length / 2) : upd (upd (rvrow P a0 i) i (rvrow P a0 i (P.length - 1 - i))) (P.length - 1 - i) (rvrow P a0 i i) = rvrow P a0 (i + 1) := by
  funext k
  unfold upd
  by_cases h1 : k = P.length - 1 - i
  · subst h1
    simp only [if_true]
    rw [rvrow_at (i := i) (k := i) (j := i) (by omega) (by omega), rvrow_at (i := i + 1) (k := P.length - 1 - i) (j := i) (by omega) (by omega)]
  · simp only [h1, if_false]
    by_cases h2 : k = i
    · subst h2
      simp only [if_true]
      rw [rvrow_at (i := k) (k := P.length - 1 - k) (j := P.length - 1 - k) (by omega) (by omega), rvrow_at (i := k + 1) (k := k) (j := P.length - 1 - k) (by omega) (by omega)]
    · simp only [h2, if_false]
      by_cases h3 : k < P.length
      · by_cases h4 : k < i ∨ P.length - i ≤ k
        · rw [rvrow_at (i := i) (j := P.length - 1 - k) h3 (by omega), rvrow_at (i := i + 1) (j := P.length - 1 - k) h3 (by omega)]
        · rw [rvrow_at (i := i) (j := k) h3 (by omega), rvrow_at (i := i + 1) (j := k) h3 (by omega)]
      · unfold rvrow; rw [if_neg h3, if_neg h3]
section OR
variable {τ : SF} {o b c d x y a0 : Nat → Int32} {P : List Nat}
theorem rv_loop (h8 : P.length ≤ 8) : ∀ (m N i : Nat), i + m = P.length / 2 → m < N → ∃ z, L_X7_layOrder_167 (nI P.length) N (nI i) (ml τ o (rvrow P a0 i) b c d x y) = some (z, ml τ o (rvrow P a0 (P.length / 2)) b c d x y) := by
  intro m
  have hd : nI P.length / 2 = nI (P.length / 2) := pk_div (d := 2) (by omega) (by decide) (by decide)
  induction m with
  | zero =>
    intro N i hi hN
    obtain ⟨N, rfl⟩ : ∃ K, N = K + 1 := ⟨N - 1, by omega⟩
    have : i = P.length / 2 := by omega
    subst this
    unfold L_X7_layOrder_167
    rw [hd, if_pos (nI_le (Nat.le_refl _) (by omega))]
    exact ⟨_, rfl⟩
  | succ m ih =>
    intro N i hi hN
    obtain ⟨N, rfl⟩ : ∃ K, N = K + 1 := ⟨N - 1, by omega⟩
    obtain ⟨z, hz⟩ := ih N (i + 1) (by omega) (by omega)
    refine ⟨z, ?_⟩
    rw [← hz]
    conv => lhs; unfold L_X7_layOrder_167
    have e1 : nI P.length - 1 - nI i = nI (P.length - 1 - i) := by rw [nl_1, pk_sub (by omega), pk_sub (by omega)]
    rw [hd, if_neg (nI_ge (by omega) (by omega))]
    simp only [zl, e1, zg, nq_zin1 (show i < 8 by omega) (by decide), nq_zin1 (show P.length - 1 - i < 8 by omega) (by decide), if_true, nI_clamp (show i < 2 ^ 31 by omega), nI_clamp (show P.length - 1 - i < 2 ^ 31 by omega), ml_12, ml_s12, nI_1]
    rw [rvrow_step (by omega)]
/-- places, as far as they are written -/
def qrow (P : List Nat) (p : Nat → Int32) (i : Nat) : Nat → Int32 := fun v => if v ∈ P ∧ P.length - 1 - P.idxOf v < i then nI (P.length - 1 - P.idxOf v) else p v
theorem qrow_step {P : List Nat} (hn : P.Nodup) {p : Nat → Int32} {i : Nat} (h : i < P.length) : upd (qrow P p i) (P[P.length - 1 - i]'(by omega)) (nI i) = qrow P p (i + 1) := by
  have hj : P.length - 1 - i < P.length := by omega
  obtain ⟨h1, h2⟩ := nd_drop hn hj
  funext v
  unfold upd qrow
  by_cases q : v = P[P.length - 1 - i]
  · subst q
    rw [if_pos rfl, if_pos ⟨List.getElem_mem hj, by rw [h2]; omega⟩, h2]
    congr 1; omega
  · rw [if_neg q]
    by_cases hm : v ∈ P
    · have hv : P.idxOf v < P.length := List.idxOf_lt_length_of_mem hm
      have hne : P.idxOf v ≠ P.length - 1 - i := fun e => q (by
        have e2 : P[P.idxOf v] = v := List.getElem_idxOf hv
        rw [← e2]; simp [e])
      by_cases h3 : P.length - 1 - P.idxOf v < i
      · rw [if_pos ⟨hm, h3⟩, if_pos ⟨hm, by omega⟩]
      · rw [if_neg (fun z => h3 z.2), if_neg (fun z => by have := z.2; omega)]
    · rw [if_neg (fun z => hm z.1), if_neg (fun z => hm z.1)]
theorem pq_loop (hn : P.Nodup) (h8 : P.length ≤ 8) (hx : ∀ v ∈ P, v < 8) {a : Nat → Int32} (ha : ∀ i (h : i < P.length), a i = nI (P[P.length - 1 - i]'(by omega))) {p : Nat → Int32} : ∀ (m N i : Nat), i + m = P.length → m < N → ∃ z, L_X7_layOrder_218 (nI P.length) N (nI i) (ml τ o a (qrow P p i) c d x y) = some (z, ml τ o a (qrow P p P.length) c d x y) := by
  intro m
  induction m with
  | zero =>
    intro N i hi hN
    obtain ⟨N, rfl⟩ : ∃ K, N = K + 1 := ⟨N - 1, by omega⟩
    have : i = P.length := by omega
    subst this
    unfold L_X7_layOrder_218
    rw [if_pos (nI_le (Nat.le_refl _) (by omega))]
    exact ⟨_, rfl⟩
  | succ m ih =>
    intro N i hi hN
    obtain ⟨N, rfl⟩ : ∃ K, N = K + 1 := ⟨N - 1, by omega⟩
    obtain ⟨z, hz⟩ := ih N (i + 1) (by omega) (by omega)
    refine ⟨z, ?_⟩
    rw [← hz]
    have hi' : i < P.length := by omega
    have hj : P.length - 1 - i < P.length := by omega
    have hv := hx _ (List.getElem_mem hj)
    conv => lhs; unfold L_X7_layOrder_218
    rw [if_neg (nI_ge hi' (by omega))]
    simp only [zl, zg, nq_zin1 (show i < 8 by omega) (by decide), if_true, nI_clamp (show i < 2 ^ 31 by omega), ml_12, ha i hi', nq_zin1 hv (by decide), nI_clamp (show P[P.length - 1 - i] < 2 ^ 31 by omega), ml_s13, nI_1]
    rw [qrow_step hn hi']
end OR
theorem ub_1 : ub 1 ≤ 7 := by
  have h1 := ub_or (R := 0) (v := 0) (by decide) (by simp)
  have h2 := ub_le 0
  rw [Nat.zero_or, Nat.pow_zero] at h1
  omega
theorem po_dbd (g : Gr) : dbd g 7 0 (1, []) = (rr g, po g) := by
  have e1 : dfs g (7 + 1) 0 (0, []) = dbd g 7 0 (0 ||| 2 ^ 0, []) := dfs_dbd g 7 0 (0, [])
  rw [Nat.zero_or, Nat.pow_zero] at e1
  rw [← e1]
  rfl
theorem lo_23 {τ : SF} {o a b c d x y : Nat → Int32} {n W : Nat} {kd f0 f1 : Nat → Nat} (hw : gwf n kd f0 f1) (h0 : 0 < n) (hW : W < 2 ^ 16) (hM : MIs o (τ 10) (τ 11) n kd f0 f1 W) {g : Gr} (hgg : mkG n kd f0 f1 W = g) (hlen : (po g).length ≤ 8) :
    ∃ x' y', L_X7_layOrder_23 100 (nI 1) (nI 0) (mst τ o a b c d (1, []) (upd x 0 0) (upd y 0 0)) = some (nI 0, nI (po g).length, mst τ o a b c d (rr g, po g) x' y') := by
  have hu1 := ub_1
  obtain ⟨x', y', -, hmo⟩ := mo_ok (τ := τ) (o := o) (a0 := a) (b := b) (c := c) (d0 := d) hw hW hM 8 0 0 (1, []) (upd x 0 0) (upd y 0 0) (100 - 3 * (po g).length) h0 (by simp [upd, nI_0]) (by simp [upd, nI_0]) (by decide) (by simp only; omega) (by simp only; omega) (by simp; omega) (by decide)
  refine ⟨x', y', ?_⟩
  rw [show 8 - 1 = 7 from rfl, hgg, po_dbd] at hmo
  simp only [List.length_nil, Nat.sub_zero, Nat.zero_add] at hmo
  rw [show 100 - 3 * (po g).length + 3 * (po g).length = 100 by omega] at hmo
  rw [hmo]
  obtain ⟨K, hK⟩ : ∃ K, 100 - 3 * (po g).length = K + 1 := ⟨100 - 3 * (po g).length - 1, by omega⟩
  rw [hK]
  unfold L_X7_layOrder_23
  rw [if_pos (by decide)]
theorem rv_end {P : List Nat} {a : Nat → Int32} {i : Nat} (h : i < P.length) : rvrow P a (P.length / 2) i = nI (P[P.length - 1 - i]'(by omega)) := by
  have hj : P.length - 1 - i < P.length := by omega
  have e : P.getD (P.length - 1 - i) 0 = P[P.length - 1 - i] := by simp [hj]
  rw [← e]
  by_cases q : i < P.length / 2 ∨ P.length - P.length / 2 ≤ i
  · exact rvrow_at h (Or.inl ⟨q, rfl⟩)
  · exact rvrow_at h (Or.inr ⟨q, by omega⟩)
theorem F_layOrder_eq {τ : SF} {o a b c d x y : Nat → Int32} {n W : Nat} {kd f0 f1 : Nat → Nat} (hw : gwf n kd f0 f1) (h0 : 0 < n) (hW : W < 2 ^ 16) (hM : MIs o (τ 10) (τ 11) n kd f0 f1 W) {g : Gr} (hgg : mkG n kd f0 f1 W = g) :
    ∃ a' b' x' y', F_X7_layOrder (ml τ o a b c d x y) = some (ml τ (upd (upd o 22 (nI (rr g))) 23 (nI (po g).length)) a' b' c d x' y') ∧ (∀ i (h : i < (po g).length), a' i = nI ((po g)[(po g).length - 1 - i]'(by omega))) ∧ (∀ v, v ∈ po g → b' v = nI (pl g v)) := by
  have hg : gok g := by rw [← hgg]; exact mkG_ok hw W
  obtain ⟨p1, p2, p3, p4, p5, p6⟩ := po_ok hg
  have hlen := po_len hg
  obtain ⟨x', y', hmo⟩ := lo_23 (a := a) (b := b) (c := c) (d := d) (x := x) (y := y) hw h0 hW hM hgg hlen
  obtain ⟨z1, hz1⟩ := rv_loop (τ := τ) (o := upd (upd o 22 (nI (rr g))) 23 (nI (po g).length)) (b := b) (c := c) (d := d) (x := x') (y := y') (a0 := a) (P := po g) hlen ((po g).length / 2) 100 0 (by omega) (by omega)
  obtain ⟨z2, hz2⟩ := pq_loop (τ := τ) (o := upd (upd o 22 (nI (rr g))) 23 (nI (po g).length)) (c := c) (d := d) (x := x') (y := y') (P := po g) p3 hlen (fun v hv => (p2 v hv).1) (a := rvrow (po g) a ((po g).length / 2)) (fun i h => rv_end h) (p := b) (po g).length 100 0 (by omega) (by omega)
  have hq0 : qrow (po g) b 0 = b := by funext v; simp [qrow]
  rw [hq0] at hz2
  rw [rvrow_0] at hz1
  refine ⟨rvrow (po g) a ((po g).length / 2), qrow (po g) b (po g).length, x', y', ?_, fun i h => rv_end h, fun v hv => ?_⟩
  · unfold F_X7_layOrder
    have z0 : zin 0 8 = true := by decide
    have c0 : (0 : Int32).toNatClampNeg = 0 := rfl
    rw [zg_q z0, zl_q, zg_q z0, zl_q, zl_q, c0, ml_s16, ml_s17, ml_s0]
    have e1 : ml τ (upd o 22 1) a b c d (upd x 0 0) (upd y 0 0) = mst τ o a b c d (1, []) (upd x 0 0) (upd y 0 0) := by unfold mst; rw [lrow_nil]; rfl
    have e2 : zst (mst τ o a b c d (rr g, po g) x' y') 0 23 (nI (po g).length) = ml τ (upd (upd o 22 (nI (rr g))) 23 (nI (po g).length)) (lrow (po g) a) b c d x' y' := by unfold mst; rw [ml_s0]
    have e3 : L_X7_layOrder_23 100 1 0 (mst τ o a b c d (1, []) (upd x 0 0) (upd y 0 0)) = some (nI 0, nI (po g).length, mst τ o a b c d (rr g, po g) x' y') := hmo
    rw [e1, e3, zb3_q, zl_q, e2]
    have e4 : L_X7_layOrder_167 (nI (po g).length) 100 0 (ml τ (upd (upd o 22 (nI (rr g))) 23 (nI (po g).length)) (lrow (po g) a) b c d x' y') = some (z1, ml τ (upd (upd o 22 (nI (rr g))) 23 (nI (po g).length)) (rvrow (po g) a ((po g).length / 2)) b c d x' y') := hz1
    have e5 : L_X7_layOrder_218 (nI (po g).length) 100 0 (ml τ (upd (upd o 22 (nI (rr g))) 23 (nI (po g).length)) (rvrow (po g) a ((po g).length / 2)) b c d x' y') = some (z2, ml τ (upd (upd o 22 (nI (rr g))) 23 (nI (po g).length)) (rvrow (po g) a ((po g).length / 2)) (qrow (po g) b (po g).length) c d x' y') := hz2
    rw [e4, zb2_q, e5, zb2_q]
  · unfold qrow
    have hv' : (po g).idxOf v < (po g).length := List.idxOf_lt_length_of_mem hv
    rw [if_pos ⟨hv, by omega⟩]
    rfl
/-! those that are come to without a node -/
def wps (g : Gr) (a e S : Nat) : Nat := match g e with
  | none => S
  | some t => if S.testBit (e / 2) = true ∧ t ≠ a then S ||| 2 ^ t else S
def wpl (g : Gr) (a : Nat) : Nat → Nat → Nat → Nat
  | 0, _, S => S
  | m + 1, e, S => wpl g a m (e + 1) (wps g a e S)
theorem wps_le {g : Gr} {a e S i : Nat} (h : S.testBit i = true) : (wps g a e S).testBit i = true := by
  unfold wps
  cases g e with
  | none => exact h
  | some t =>
    simp only
    split
    · rw [Nat.testBit_or, h]; rfl
    · exact h
theorem wps_lt {g : Gr} (hg : gok g) {a e S : Nat} (h : S < 2 ^ 8) : wps g a e S < 2 ^ 8 := by
  unfold wps
  cases hge : g e with
  | none => exact h
  | some t =>
    simp only
    split
    · exact nq_or h (nq_pow (hg e t hge).2)
    · exact h
theorem wpl_le {g : Gr} {a : Nat} : ∀ (m e S i : Nat), S.testBit i = true → (wpl g a m e S).testBit i = true := by
  intro m
  induction m with
  | zero => intro e S i h; exact h
  | succ m ih => intro e S i h; exact ih (e + 1) _ i (wps_le h)
theorem wpl_lt {g : Gr} (hg : gok g) {a : Nat} : ∀ (m e S : Nat), S < 2 ^ 8 → wpl g a m e S < 2 ^ 8 := by
  intro m
  induction m with
  | zero => intro e S h; exact h
  | succ m ih => intro e S h; exact ih (e + 1) _ (wps_lt hg h)
theorem wpl_sound {g : Gr} {a : Nat} : ∀ (m e S : Nat), (∀ v, S.testBit v = true → Rch g a v) → ∀ v, (wpl g a m e S).testBit v = true → Rch g a v := by
  intro m
  induction m with
  | zero => intro e S h; exact h
  | succ m ih =>
    intro e S h
    refine ih (e + 1) _ (fun v hv => ?_)
    unfold wps at hv
    cases hge : g e with
    | none => rw [hge] at hv; exact h v hv
    | some t =>
      rw [hge] at hv
      simp only at hv
      split at hv
      · rename_i q
        rw [Nat.testBit_or, Bool.or_eq_true, nq_two, decide_eq_true_eq] at hv
        rcases hv with hv | rfl
        · exact h v hv
        · exact Rch.step hge (h _ q.1) q.2
      · exact h v hv
/-- a pass that adds nothing: the set is closed under the edges that it looked at -/
theorem wpl_fix {g : Gr} {a : Nat} : ∀ (m e S : Nat), wpl g a m e S = S → ∀ k t, e ≤ k → k < e + m → g k = some t → S.testBit (k / 2) = true → t ≠ a → S.testBit t = true := by
  intro m
  induction m with
  | zero => intro e S _ k t h1 h2; exact absurd h2 (by omega)
  | succ m ih =>
    intro e S h k t h1 h2 hk hS ht
    have h' : wpl g a m (e + 1) (wps g a e S) = S := h
    have hs : wps g a e S = S := by
      apply Nat.eq_of_testBit_eq
      intro i
      cases hi : S.testBit i with
      | true => exact wps_le hi
      | false =>
        cases hj : (wps g a e S).testBit i with
        | false => rfl
        | true =>
          have := wpl_le (g := g) (a := a) m (e + 1) _ i hj
          rw [h', hi] at this
          cases this
    by_cases q : k = e
    · subst q
      unfold wps at hs
      rw [hk] at hs
      simp only [hS, true_and] at hs
      rw [if_pos ht] at hs
      rw [← hs, Nat.testBit_or, nq_two]
      simp
    · rw [hs] at h'
      exact ih (e + 1) S h' k t (by omega) (by omega) hk hS ht
theorem pc_lt_of {A B : Nat} (hA : A < 2 ^ 16) (hB : B < 2 ^ 16) (h : ∀ i, A.testBit i = true → B.testBit i = true) (hne : A ≠ B) : pc A < pc B := by
  have hle : pc A ≤ pc B := fb_ct_sub (fun k _ hk => h k hk)
  rcases Nat.lt_or_ge (pc A) (pc B) with q | q
  · exact q
  · exact absurd (pc_sub_eq hA hB h (Nat.le_antisymm hle q)) hne
def wrd (g : Gr) (a M : Nat) : Nat → Nat → Nat
  | 0, S => S
  | k + 1, S => wrd g a M k (wpl g a M 0 S)
theorem wrd_all {g : Gr} (hg : gok g) {a M : Nat} : ∀ (k S : Nat), S < 2 ^ 8 → 9 ≤ pc S + k + (if wpl g a M 0 S = S then 9 else 0) → (∀ v, S.testBit v = true → Rch g a v) → wrd g a M k S < 2 ^ 8 ∧ (∀ i, S.testBit i = true → (wrd g a M k S).testBit i = true) ∧ (∀ v, (wrd g a M k S).testBit v = true → Rch g a v) ∧ wpl g a M 0 (wrd g a M k S) = wrd g a M k S := by
  intro k
  induction k with
  | zero =>
    intro S hS h9 hs
    refine ⟨hS, fun _ h => h, hs, ?_⟩
    by_cases q : wpl g a M 0 S = S
    · exact q
    · rw [if_neg q] at h9
      have := pc_le8 hS
      omega
  | succ k ih =>
    intro S hS h9 hs
    have hl := wpl_lt hg (a := a) M 0 S hS
    obtain ⟨b1, b2, b3, b4⟩ := ih (wpl g a M 0 S) hl (by
      by_cases q : wpl g a M 0 S = S
      · rw [q, if_pos q]; omega
      · rw [if_neg q] at h9
        have := pc_lt_of (lt816 hS) (lt816 hl) (fun i hi => wpl_le M 0 S i hi) (Ne.symm q)
        omega) (wpl_sound M 0 S hs)
    exact ⟨b1, fun i hi => b2 i (wpl_le M 0 S i hi), b3, b4⟩
section WO
variable {τ : SF} {n W : Nat} {kd f0 f1 : Nat → Nat}
theorem wo_loop (hw : gwf n kd f0 f1) (hW : W < 2 ^ 16) (hM : MIs (τ 0) (τ 10) (τ 11) n kd f0 f1 W) {a : Nat} (ha : a < 8) (y3 : Int32) : ∀ (m N e S : Nat), e + m = 2 * n → m < N → S < 2 ^ 8 → L_X7_without_21 τ (nI a) y3 N (nI S) (nI e) = some (nI (wpl (mkG n kd f0 f1 W) a m e S), nI (2 * n)) := by
  have hn8 := hw.1
  have hg := mkG_ok hw W
  have hlim : (2 : Int32) * τ 0 18 = nI (2 * n) := by rw [hM.1, nl_2, pk_mul]
  intro m
  induction m with
  | zero =>
    intro N e S he hN hS
    obtain ⟨N, rfl⟩ : ∃ K, N = K + 1 := ⟨N - 1, by omega⟩
    have : e = 2 * n := by omega
    subst this
    unfold L_X7_without_21
    rw [hlim, if_pos (nI_le (Nat.le_refl _) (by omega))]
    rfl
  | succ m ih =>
    intro N e S he hN hS
    obtain ⟨N, rfl⟩ : ∃ K, N = K + 1 := ⟨N - 1, by omega⟩
    have he2 : e < 2 * n := by omega
    have hT : tgt f0 f1 e < n := by
      have := hw.2 (e / 2) (by omega)
      unfold tgt; split <;> omega
    show _ = some (nI (wpl (mkG n kd f0 f1 W) a m (e + 1) (wps (mkG n kd f0 f1 W) a e S)), nI (2 * n))
    rw [← ih N (e + 1) (wps (mkG n kd f0 f1 W) a e S) (by omega) (by omega) (wps_lt hg hS)]
    conv => lhs; unfold L_X7_without_21
    have hd : nI e / 2 = nI (e / 2) := pk_div (d := 2) (by omega) (by decide) (by decide)
    rw [hlim, if_neg (nI_ge he2 (by omega)), hd, F_isIn_nI (show S < 2 ^ 31 by omega) (show e / 2 < 31 by omega), F_isEdge_nI hM hw hW he2]
    simp only [zb, zl, zg, nq_zin1 (show e < 16 by omega) (by decide), if_true, nI_clamp (show e < 2 ^ 31 by omega), hM.at he2, nI_1]
    have hor0 : nI S ||| 0 = nI S := by rw [nl_0, fa_or]; simp
    rw [hor0]
    unfold wps
    cases hS2 : S.testBit (e / 2)
    · simp only [Bool.false_eq_true, if_false, if_true]
      cases mkG n kd f0 f1 W e <;> simp
    · simp only [if_true]
      rw [if_neg (by decide)]
      cases hi : mkG n kd f0 f1 W e with
      | none => simp
      | some t =>
        have h1 : (mkG n kd f0 f1 W e).isSome = true := by rw [hi]; rfl
        have h2 := mkG_some h1
        rw [hi] at h2
        cases h2
        simp only [Option.isSome_some, if_true]
        rw [if_neg (by decide)]
        simp only [nI_eq (show tgt f0 f1 e < 2 ^ 31 by omega) (show a < 2 ^ 31 by omega)]
        by_cases q : tgt f0 f1 e = a
        · simp [q]
        · simp only [q, if_false]
          rw [nq_1 (show tgt f0 f1 e < 31 by omega), fa_or]
          simp [q]
theorem wr_loop (hw : gwf n kd f0 f1) (hW : W < 2 ^ 16) (hM : MIs (τ 0) (τ 10) (τ 11) n kd f0 f1 W) {a : Nat} (ha : a < 8) : ∀ (m N i S : Nat), i + m = 8 → m < N → S < 2 ^ 8 → L_X7_without_12 τ (nI a) N (nI S) (nI i) = some (nI (wrd (mkG n kd f0 f1 W) a (2 * n) m S), nI 8) := by
  have hn8 := hw.1
  have hg := mkG_ok hw W
  intro m
  induction m with
  | zero =>
    intro N i S hi hN hS
    obtain ⟨N, rfl⟩ : ∃ K, N = K + 1 := ⟨N - 1, by omega⟩
    have : i = 8 := by omega
    subst this
    unfold L_X7_without_12
    rw [if_pos (by decide)]
    rfl
  | succ m ih =>
    intro N i S hi hN hS
    obtain ⟨N, rfl⟩ : ∃ K, N = K + 1 := ⟨N - 1, by omega⟩
    show _ = some (nI (wrd (mkG n kd f0 f1 W) a (2 * n) m (wpl (mkG n kd f0 f1 W) a (2 * n) 0 S)), nI 8)
    rw [← ih N (i + 1) _ (by omega) (by omega) (wpl_lt hg (2 * n) 0 S hS)]
    conv => lhs; unfold L_X7_without_12
    rw [if_neg (by rw [nl_8]; exact nI_ge (by omega) (by decide)), show L_X7_without_21 τ (nI a) (nI i) 100 (nI S) 0 = L_X7_without_21 τ (nI a) (nI i) 100 (nI S) (nI 0) from rfl, wo_loop hw hW hM ha (nI i) (2 * n) 100 0 S (by omega) (by omega) hS]
    simp only [zb2, zl, nI_1]
theorem F_without_nI (hw : gwf n kd f0 f1) (hW : W < 2 ^ 16) (hM : MIs (τ 0) (τ 10) (τ 11) n kd f0 f1 W) {a : Nat} (ha : a < 8) : ∃ M, F_X7_without τ (nI a) = some (nI M) ∧ M < 2 ^ 8 ∧ ∀ v, M.testBit v = true ↔ Rch (mkG n kd f0 f1 W) a v := by
  have hn8 := hw.1
  have hg := mkG_ok hw W
  have closed : ∀ S, (wpl (mkG n kd f0 f1 W) a (2 * n) 0 S = S) → ∀ e t, mkG n kd f0 f1 W e = some t → S.testBit (e / 2) = true → t ≠ a → S.testBit t = true := by
    intro S hS e t he h1 h2
    refine wpl_fix (2 * n) 0 S hS e t (Nat.zero_le _) ?_ he h1 h2
    unfold mkG at he
    split at he
    · rename_i q; omega
    · cases he
  unfold F_X7_without
  by_cases q : a = 0
  · subst q
    rw [if_pos (by rfl), show L_X7_without_12 τ (nI 0) 100 0 0 = L_X7_without_12 τ (nI 0) 100 (nI 0) (nI 0) from rfl, wr_loop hw hW hM (by decide) 8 100 0 0 (by omega) (by decide) (by decide)]
    have hz : wpl (mkG n kd f0 f1 W) 0 (2 * n) 0 0 = 0 := by
      have h0 : ∀ m e, wpl (mkG n kd f0 f1 W) 0 m e 0 = 0 := by
        intro m
        induction m with
        | zero => intro e; rfl
        | succ m ih =>
          intro e
          show wpl (mkG n kd f0 f1 W) 0 m (e + 1) (wps (mkG n kd f0 f1 W) 0 e 0) = 0
          have : wps (mkG n kd f0 f1 W) 0 e 0 = 0 := by
            unfold wps
            cases mkG n kd f0 f1 W e <;> simp
          rw [this]; exact ih _
      exact h0 _ _
    obtain ⟨b1, b2, b3, b4⟩ := wrd_all hg (a := 0) (M := 2 * n) 8 0 (by decide) (by rw [if_pos hz]; omega) (fun v h => by simp at h)
    refine ⟨_, rfl, b1, fun v => ⟨b3 v, fun h => ?_⟩⟩
    exact (h (fun _ => False) (fun z => absurd rfl z) (fun _ _ _ h _ => h)).elim
  · rw [if_neg (show ¬ nI a = 0 from fun z => q ((nI_eq (b := 0) (by omega) (by decide)).mp z)), show L_X7_without_12 τ (nI a) 100 1 0 = L_X7_without_12 τ (nI a) 100 (nI 1) (nI 0) from rfl, wr_loop hw hW hM ha 8 100 0 1 (by omega) (by decide) (by decide)]
    have h1 : ∀ v, (1 : Nat).testBit v = true → Rch (mkG n kd f0 f1 W) a v := fun v hv => by
      have : (1 : Nat).testBit v = decide (0 = v) := nq_two 0 v
      rw [this] at hv
      have : 0 = v := by simpa using hv
      subst this
      exact Rch.zero q
    obtain ⟨b1, b2, b3, b4⟩ := wrd_all hg (a := a) (M := 2 * n) 8 1 (by decide) (by rw [show pc 1 = 1 by decide +kernel]; omega) h1
    refine ⟨_, rfl, b1, fun v => ⟨b3 v, fun h => ?_⟩⟩
    exact h.ind (fun v => (wrd (mkG n kd f0 f1 W) a (2 * n) 8 1).testBit v = true) (fun _ => b2 0 (by decide)) (fun e t he _ hv ht => closed _ b4 e t he hv ht)
end WO
