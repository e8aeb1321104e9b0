/-! the reference's edges -/
theorem and_two (M t : Nat) : M &&& 2 ^ t = if M.testBit t then 2 ^ t else 0 := by
  apply Nat.eq_of_testBit_eq
  intro i
  rw [Nat.testBit_and, nq_two]
  by_cases q : t = i
  · subst q
    cases h : M.testBit t <;> simp [nq_two]
  · cases h : M.testBit t <;> simp [nq_two, q]
theorem wst_lt {g : Gr} (hg : gok g) {e : Nat} {x : T6} (h : x.2.2.2.1 < 2 ^ 8 ∧ x.2.2.2.2.1 < 2 ^ 8 ∧ x.2.2.2.2.2 < 2 ^ 8) : (wst g e x).2.2.2.1 < 2 ^ 8 ∧ (wst g e x).2.2.2.2.1 < 2 ^ 8 ∧ (wst g e x).2.2.2.2.2 < 2 ^ 8 := by
  unfold wst
  cases hl : lvE g e with
  | none => exact h
  | some t =>
    have ht : t < 8 := by
      unfold lvE at hl
      split at hl
      · exact (hg e t hl).2
      · cases hl
    have hp := nq_pow ht
    simp only
    split
    · exact ⟨h.1, nq_or h.2.1 (Nat.lt_of_le_of_lt Nat.and_le_right hp), nq_or h.2.2 hp⟩
    · split
      · exact ⟨nq_or h.1 hp, h.2.1, h.2.2⟩
      · exact h
theorem wa_lt {g : Gr} (hg : gok g) : ∀ k, (wa g k).2.2.2.1 < 2 ^ 8 ∧ (wa g k).2.2.2.2.1 < 2 ^ 8 ∧ (wa g k).2.2.2.2.2 < 2 ^ 8
  | 0 => ⟨by unfold wa; decide, by unfold wa; decide, by unfold wa; decide⟩
  | k + 1 => wst_lt hg (wa_lt hg k)
theorem wst_ct {g : Gr} (e : Nat) (x : T6) : (wst g e x).1 ≤ x.1 + 1 ∧ (wst g e x).2.1 ≤ x.2.1 + 1 ∧ (wst g e x).2.2.1 ≤ x.2.2.1 + 1 := by
  unfold wst
  cases lvE g e with
  | none => simp
  | some t =>
    simp only
    split
    · simp
    · split <;> simp
theorem wa_ct (g : Gr) : ∀ k, (wa g k).1 ≤ k ∧ (wa g k).2.1 ≤ k ∧ (wa g k).2.2.1 ≤ k
  | 0 => ⟨by unfold wa; decide, by unfold wa; decide, by unfold wa; decide⟩
  | k + 1 => by
    have h1 := wst_ct (g := g) k (wa g k)
    have h2 := wa_ct g k
    show (wst g k (wa g k)).1 ≤ _ ∧ (wst g k (wa g k)).2.1 ≤ _ ∧ (wst g k (wa g k)).2.2.1 ≤ _
    omega
def o6 (o : Nat → Int32) (x : T6) : Nat → Int32 := fun k => if k = 28 then nI x.1 else if k = 29 then nI x.2.1 else if k = 30 then nI x.2.2.1 else if k = 31 then nI x.2.2.2.1 else if k = 32 then nI x.2.2.2.2.1 else o k
/-- what the edges are read from -/
def MEs (τ : SF) (n W : Nat) (kd f0 f1 : Nat → Nat) : Prop := MIs (τ 0) (τ 10) (τ 11) n kd f0 f1 W ∧ τ 0 22 = nI (rr (mkG n kd f0 f1 W)) ∧ (∀ v, v ∈ po (mkG n kd f0 f1 W) → τ 13 v = nI (pl (mkG n kd f0 f1 W) v)) ∧ ∀ k, k < n → τ 14 k = nI (dk (mkG n kd f0 f1 W) k)
theorem pl_lt {g : Gr} (hg : gok g) (v : Nat) : pl g v < 8 := by unfold pl; have := po_len hg; omega
theorem mkG_lt {n W e t : Nat} {kd f0 f1 : Nat → Nat} (hw : gwf n kd f0 f1) (h : mkG n kd f0 f1 W e = some t) : e < 2 * n ∧ t < n := by
  unfold mkG at h
  split at h
  · rename_i q
    cases h
    have h1 := hw.2 _ q.1
    unfold tgt
    refine ⟨by omega, ?_⟩
    split <;> omega
  · cases h
section ME
variable {τ : SF} {n W : Nat} {kd f0 f1 : Nat → Nat}
theorem F_isLive_nI (h : MEs τ n W kd f0 f1) (hw : gwf n kd f0 f1) (hW : W < 2 ^ 16) {e : Nat} (he : e < 2 * n) : F_X7_isLive τ (nI e) = some (if (lvE (mkG n kd f0 f1 W) e).isSome then 1 else 0) := by
  have hg := mkG_ok hw W
  have hrr := rr_lt hg
  have h8 := hw.1
  have hd : nI e / 2 = nI (e / 2) := pk_div (d := 2) (by omega) (by decide) (by decide)
  unfold F_X7_isLive
  rw [hd, h.2.1, F_isIn_nI (show rr (mkG n kd f0 f1 W) < 2 ^ 31 by omega) (show e / 2 < 31 by omega), zb_q, F_isEdge_nI h.1 hw hW he, zb_q, (po_ok hg).1]
  unfold lvE
  by_cases q : e / 2 ∈ po (mkG n kd f0 f1 W)
  · simp only [q, decide_true, if_true]
    rw [if_neg (by decide)]
    cases (mkG n kd f0 f1 W e).isSome <;> rfl
  · simp only [q, decide_false, if_false]
    rfl
theorem F_isBack_nI (h : MEs τ n W kd f0 f1) (hw : gwf n kd f0 f1) {e t : Nat} (he : mkG n kd f0 f1 W e = some t) : F_X7_isBack τ (nI e) = some (if (dk (mkG n kd f0 f1 W) (e / 2)).testBit t then 1 else 0) := by
  have h8 := hw.1
  have hlt := mkG_lt hw he
  have hd : nI e / 2 = nI (e / 2) := pk_div (d := 2) (by omega) (by decide) (by decide)
  have hk := dk_lt (mkG n kd f0 f1 W) (e / 2)
  have ht : tgt f0 f1 e = t := by have := mkG_some (n := n) (W := W) (kd := kd) (f0 := f0) (f1 := f1) (e := e) (by rw [he]; rfl); rw [he] at this; cases this; rfl
  unfold F_X7_isBack
  rw [zl_q, hd, zg_q (nq_zin1 (show e / 2 < 8 by omega) (by decide)), zg_q (nq_zin1 (show e < 16 by omega) (by decide)), nI_clamp (by omega), nI_clamp (by omega), h.1.at (by omega), ht, h.2.2.2 _ (by omega), F_isIn_nI (show dk (mkG n kd f0 f1 W) (e / 2) < 2 ^ 31 by omega) (show t < 31 by omega), zb_q]
  cases (dk (mkG n kd f0 f1 W) (e / 2)).testBit t <;> rfl
theorem F_retreats_nI (h : MEs τ n W kd f0 f1) (hw : gwf n kd f0 f1) {e t : Nat} (he : mkG n kd f0 f1 W e = some t) (hm : e / 2 ∈ po (mkG n kd f0 f1 W)) : F_X7_retreats τ (nI e) = some (if pl (mkG n kd f0 f1 W) (e / 2) < pl (mkG n kd f0 f1 W) t then 0 else 1) := by
  have h8 := hw.1
  have hg := mkG_ok hw W
  have hlt := mkG_lt hw he
  have hd : nI e / 2 = nI (e / 2) := pk_div (d := 2) (by omega) (by decide) (by decide)
  have ht : tgt f0 f1 e = t := by have := mkG_some (n := n) (W := W) (kd := kd) (f0 := f0) (f1 := f1) (e := e) (by rw [he]; rfl); rw [he] at this; cases this; rfl
  have hmt : t ∈ po (mkG n kd f0 f1 W) := (po_ok hg).2.2.2.2.2 _ hm e t he rfl
  have p1 := pl_lt hg (e / 2)
  have p2 := pl_lt hg t
  unfold F_X7_retreats
  rw [zg_q (nq_zin1 (show e < 16 by omega) (by decide)), zl_q, nI_clamp (show e < 2 ^ 31 by omega), h.1.at (by omega), ht, zg_q (nq_zin1 (show t < 8 by omega) (by decide)), zl_q, hd, zg_q (nq_zin1 (show e / 2 < 8 by omega) (by decide)), nI_clamp (by omega), nI_clamp (by omega), h.2.2.1 _ hm, h.2.2.1 _ hmt]
  by_cases q : pl (mkG n kd f0 f1 W) (e / 2) < pl (mkG n kd f0 f1 W) t
  · rw [if_pos (nI_lt q (by omega)), if_pos q]
  · rw [if_neg q, if_neg (nI_nlt (by omega) (by omega))]
theorem le_step {o a b c d x y : Nat → Int32} {g : Gr} (hgg : mkG n kd f0 f1 W = g) (hw : gwf n kd f0 f1) (hW : W < 2 ^ 16) (hM : MIs o (τ 10) (τ 11) n kd f0 f1 W) (hr : o 22 = nI (rr g)) (hp : ∀ v, v ∈ po g → b v = nI (pl g v)) (hd : ∀ k, k < n → c k = nI (dk g k)) {N e : Nat} (he : e < 2 * n) (z : T6) (hz : z.2.2.2.2.2 < 2 ^ 8) :
    L_X7_layEdges_29 (N + 1) (nI z.2.2.2.2.2) (nI e) (ml τ (o6 o z) a b c d x y) = L_X7_layEdges_29 N (nI (wst g e z).2.2.2.2.2) (nI (e + 1)) (ml τ (o6 o (wst g e z)) a b c d x y) := by
  have h8 := hw.1
  have hg : gok g := by rw [← hgg]; exact mkG_ok hw W
  have hO : ∀ o' : Nat → Int32, o' 18 = o 18 → o' 19 = o 19 → o' 22 = o 22 → MEs (ml τ o' a b c d x y) n W kd f0 f1 := fun o' q1 q2 q3 => by
    subst hgg
    exact ⟨⟨q1.trans hM.1, q2.trans hM.2.1, hM.2.2⟩, q3.trans hr, hp, hd⟩
  have e18 : (2 : Int32) * (o6 o z) 18 = nI (2 * n) := by
    show (2 : Int32) * o 18 = _
    rw [hM.1]; exact pk_mul 2 n
  conv => lhs; unfold L_X7_layEdges_29
  rw [ml_0, e18, if_neg (nI_ge he (by omega)), F_isLive_nI (hO (o6 o z) rfl rfl rfl) hw hW he, zb_q, nI_1, hgg]
  unfold wst
  cases hl : lvE g e with
  | none =>
    rw [if_pos (by rfl), zl_q]
  | some t =>
    have hm : e / 2 ∈ po g := by
      unfold lvE at hl
      split at hl
      · assumption
      · cases hl
    have hge : g e = some t := by
      unfold lvE at hl
      rw [if_pos hm] at hl
      exact hl
    have hlt := mkG_lt hw (hgg.trans rfl ▸ hge : mkG n kd f0 f1 W e = some t)
    have ht : tgt f0 f1 e = t := by have := mkG_some (n := n) (W := W) (kd := kd) (f0 := f0) (f1 := f1) (e := e) (by rw [hgg, hge]; rfl); rw [hgg, hge] at this; cases this; rfl
    have hge' : mkG n kd f0 f1 W e = some t := by rw [hgg]; exact hge
    have hm' : e / 2 ∈ po (mkG n kd f0 f1 W) := by rw [hgg]; exact hm
    have hpl1 := pl_lt hg (e / 2)
    have hpl2 := pl_lt hg t
    have ret : ∀ o' : Nat → Int32, o' 18 = o 18 → o' 19 = o 19 → o' 22 = o 22 → F_X7_retreats (ml τ o' a b c d x y) (nI e) = some (if pl g (e / 2) < pl g t then 0 else 1) := fun o' q1 q2 q3 => by
      rw [F_retreats_nI (hO o' q1 q2 q3) hw hge' hm', hgg]
    have bck : ∀ o' : Nat → Int32, o' 18 = o 18 → o' 19 = o 19 → o' 22 = o 22 → F_X7_isBack (ml τ o' a b c d x y) (nI e) = some (if (dk g (e / 2)).testBit t then 1 else 0) := fun o' q1 q2 q3 => by
      rw [F_isBack_nI (hO o' q1 q2 q3) hw hge', hgg]
    have u28 : upd (o6 o z) 28 (o6 o z 28 + 1) = o6 o (z.1 + 1, z.2) := by
      funext k
      unfold upd o6
      by_cases q : k = 28
      · subst q; simp [nI_1]
      · simp [q]
    have hiff : (if (some t).isSome = true then (1 : Int32) else 0) = 0 ↔ False := by simp
    rw [if_neg (fun q => hiff.mp q), zg_q (nq_zin1 (show e < 16 by omega) (by decide)), zl_q, zl_q, nI_clamp (show e < 2 ^ 31 by omega), ml_11, hM.at he, ht, ml_s0, ml_0, u28, bck (o6 o (z.1 + 1, z.2)) rfl rfl rfl, zb_q]
    cases hbk : (dk g (e / 2)).testBit t with
    | true =>
      have hdm := (dk_iff hg).mp hbk
      have hple := hdm.ple hg
      have hnl : ¬ pl g (e / 2) < pl g t := by omega
      have u29 : upd (o6 o (z.1 + 1, z.2)) 29 (o6 o (z.1 + 1, z.2) 29 + 1) = o6 o (z.1 + 1, z.2.1 + 1, z.2.2) := by
        funext k
        unfold upd o6
        by_cases q : k = 29
        · subst q; simp [nI_1]
        · simp [q]
      have u31 : upd (o6 o (z.1 + 1, z.2.1 + 1, z.2.2)) 31 (o6 o (z.1 + 1, z.2.1 + 1, z.2.2) 31 ||| nI (2 ^ t)) = o6 o (z.1 + 1, z.2.1 + 1, z.2.2.1, z.2.2.2.1 ||| 2 ^ t, z.2.2.2.2) := by
        funext k
        unfold upd o6
        by_cases q : k = 31
        · subst q; simp [fa_or]
        · simp [q]
      rw [if_neg (by simp), zl_q, zl_q, ml_s0, ml_0, u29, ml_s0, nq_1 (show t < 31 by omega), u31, ret (o6 o (z.1 + 1, z.2.1 + 1, z.2.2.1, z.2.2.2.1 ||| 2 ^ t, z.2.2.2.2)) rfl rfl rfl, zb_q, if_neg hnl, if_neg (by decide), zl_q]
      simp only [if_neg hnl, hbk, if_true]
    | false =>
      rw [if_pos (by simp), ret (o6 o (z.1 + 1, z.2)) rfl rfl rfl, zb_q]
      by_cases q : pl g (e / 2) < pl g t
      · rw [if_pos q, if_pos rfl, zb_q, if_pos rfl, F_isIn_nI (show z.2.2.2.2.2 < 2 ^ 31 by omega) (show t < 31 by omega), zb_q, nq_1 (show t < 31 by omega)]
        have uo : ∀ w, upd (o6 o (z.1 + 1, z.2)) 32 (o6 o (z.1 + 1, z.2) 32 ||| nI w) = o6 o (z.1 + 1, z.2.1, z.2.2.1, z.2.2.2.1, z.2.2.2.2.1 ||| w, z.2.2.2.2.2 ||| 2 ^ t) := fun w => by
          funext k
          unfold upd o6
          by_cases q : k = 32
          · subst q; simp [fa_or]
          · simp [q]
        simp only [if_pos q]
        cases hb2 : z.2.2.2.2.2.testBit t with
        | true =>
          rw [if_neg (by simp), zl_q, zl_q, zl_q, ml_s0, uo, fa_or, and_two, hb2]
          rfl
        | false =>
          have e0 : (0 : Int32) = nI 0 := rfl
          rw [if_pos (by simp), zl_q, zl_q, zl_q, ml_s0]
          have := uo 0
          rw [e0, this, fa_or, and_two, hb2]
          rfl
      · rw [if_neg q, if_neg (by decide), zl_q]
        have u30 : upd (o6 o (z.1 + 1, z.2)) 30 (o6 o (z.1 + 1, z.2) 30 + 1) = o6 o (z.1 + 1, z.2.1, z.2.2.1 + 1, z.2.2.2) := by
          funext k
          unfold upd o6
          by_cases q : k = 30
          · subst q; simp [nI_1]
          · simp [q]
        rw [ml_s0, ml_0, u30, ret (o6 o (z.1 + 1, z.2.1, z.2.2.1 + 1, z.2.2.2)) rfl rfl rfl, zb_q, if_neg q, if_neg (by decide), zl_q]
        simp only [if_neg q, hbk, Bool.false_eq_true, if_false]
end ME
theorem wa_end {n W : Nat} {kd f0 f1 : Nat → Nat} (hw : gwf n kd f0 f1) : ∀ m, 2 * n + m = 16 → wa (mkG n kd f0 f1 W) 16 = wa (mkG n kd f0 f1 W) (2 * n) := by
  have key : ∀ m, wa (mkG n kd f0 f1 W) (2 * n + m) = wa (mkG n kd f0 f1 W) (2 * n) := by
    intro m
    induction m with
    | zero => rfl
    | succ m ih =>
      rw [← ih]
      show wst (mkG n kd f0 f1 W) (2 * n + m) _ = _
      have : lvE (mkG n kd f0 f1 W) (2 * n + m) = none := by
        unfold lvE
        split
        · cases h : mkG n kd f0 f1 W (2 * n + m) with
          | none => rfl
          | some t => have := mkG_lt hw h; omega
        · rfl
      unfold wst
      rw [this]
      rfl
  intro m hm
  rw [← hm]
  exact key m
section ME2
variable {τ : SF} {n W : Nat} {kd f0 f1 : Nat → Nat}
theorem le_loop {o a b c d x y : Nat → Int32} {g : Gr} (hgg : mkG n kd f0 f1 W = g) (hw : gwf n kd f0 f1) (hW : W < 2 ^ 16) (hM : MIs o (τ 10) (τ 11) n kd f0 f1 W) (hr : o 22 = nI (rr g)) (hp : ∀ v, v ∈ po g → b v = nI (pl g v)) (hd : ∀ k, k < n → c k = nI (dk g k)) : ∀ (m N e : Nat), e + m = 2 * n → m < N →
    ∃ z1 z2, L_X7_layEdges_29 N (nI (wa g e).2.2.2.2.2) (nI e) (ml τ (o6 o (wa g e)) a b c d x y) = some (z1, z2, ml τ (o6 o (wa g (2 * n))) a b c d x y) := by
  have hg : gok g := by rw [← hgg]; exact mkG_ok hw W
  intro m
  induction m with
  | zero =>
    intro N e he hN
    obtain ⟨N, rfl⟩ : ∃ K, N = K + 1 := ⟨N - 1, by omega⟩
    have : e = 2 * n := by omega
    subst this
    have h8 := hw.1
    unfold L_X7_layEdges_29
    have e18 : (2 : Int32) * (o6 o (wa g (2 * n))) 18 = nI (2 * n) := by
      show (2 : Int32) * o 18 = _
      rw [hM.1]; exact pk_mul 2 n
    rw [ml_0, e18, if_pos (nI_le (Nat.le_refl _) (by omega))]
    exact ⟨_, _, rfl⟩
  | succ m ih =>
    intro N e he hN
    obtain ⟨N, rfl⟩ : ∃ K, N = K + 1 := ⟨N - 1, by omega⟩
    rw [le_step hgg hw hW hM hr hp hd (by omega) _ (wa_lt hg e).2.2]
    exact ih N (e + 1) (by omega) (by omega)
/-- what the reference keeps of a graph that it has laid -/
def LayIs (τ : SF) (n : Nat) (g : Gr) : Prop :=
  τ 0 22 = nI (rr g) ∧ τ 0 23 = nI (po g).length ∧ (∀ i (h : i < (po g).length), τ 12 i = nI ((po g)[(po g).length - 1 - i]'(by omega))) ∧ (∀ v, v ∈ po g → τ 13 v = nI (pl g v)) ∧ (∀ v, v < n → τ 14 v = nI (dk g v)) ∧ (∀ v, v < n → τ 15 v = ld g v) ∧
  τ 0 28 = nI (wa g 16).1 ∧ τ 0 29 = nI (wa g 16).2.1 ∧ τ 0 30 = nI (wa g 16).2.2.1 ∧ τ 0 31 = nI (wa g 16).2.2.2.1 ∧ τ 0 32 = nI (wa g 16).2.2.2.2.1
/-- laying changes these only -/
def layKeep (τ τ' : SF) : Prop := (∀ i, i ≠ 0 → i ≠ 12 → i ≠ 13 → i ≠ 14 → i ≠ 15 → i ≠ 16 → i ≠ 17 → τ' i = τ i) ∧ ∀ k, k ≠ 22 → k ≠ 23 → k ≠ 28 → k ≠ 29 → k ≠ 30 → k ≠ 31 → k ≠ 32 → τ' 0 k = τ 0 k
theorem F_lay_eq (hw : gwf n kd f0 f1) (h0 : 0 < n) (hW : W < 2 ^ 16) (hM : MIs (τ 0) (τ 10) (τ 11) n kd f0 f1 W) : ∃ τ', F_X7_lay τ = some τ' ∧ LayIs τ' n (mkG n kd f0 f1 W) ∧ layKeep τ τ' := by
  obtain ⟨a', b', x', y', h1, h2, h3⟩ := F_layOrder_eq (a := τ 12) (b := τ 13) (c := τ 14) (d := τ 15) (x := τ 16) (y := τ 17) hw h0 hW hM rfl
  rw [ml_self] at h1
  have hM2 : MIs (upd (upd (τ 0) 22 (nI (rr (mkG n kd f0 f1 W)))) 23 (nI (po (mkG n kd f0 f1 W)).length)) (τ 10) (τ 11) n kd f0 f1 W := hM
  obtain ⟨c', d', h4, h5, h6⟩ := F_layLords_eq (a := a') (b := b') (c := τ 14) (d := τ 15) (x := x') (y := y') hw h0 hW hM2 rfl
  have e0 : upd (upd (upd (upd (upd (upd (upd (τ 0) 22 (nI (rr (mkG n kd f0 f1 W)))) 23 (nI (po (mkG n kd f0 f1 W)).length)) 28 0) 29 0) 30 0) 31 0) 32 0 = o6 (upd (upd (τ 0) 22 (nI (rr (mkG n kd f0 f1 W)))) 23 (nI (po (mkG n kd f0 f1 W)).length)) (wa (mkG n kd f0 f1 W) 0) := by
    generalize upd (upd (τ 0) 22 (nI (rr (mkG n kd f0 f1 W)))) 23 (nI (po (mkG n kd f0 f1 W)).length) = o
    funext k
    unfold upd o6 wa
    by_cases h28 : k = 28
    · subst h28; rfl
    · by_cases h29 : k = 29
      · subst h29; rfl
      · by_cases h30 : k = 30
        · subst h30; rfl
        · by_cases h31 : k = 31
          · subst h31; rfl
          · by_cases h32 : k = 32
            · subst h32; rfl
            · simp [h28, h29, h30, h31, h32]
  obtain ⟨z1, z2, h7⟩ := le_loop (τ := τ) (a := a') (b := b') (c := c') (d := d') (x := x') (y := y') rfl hw hW hM2 rfl h3 h5 (2 * n) 100 0 (by omega) (by have := hw.1; omega)
  have h7' : L_X7_layEdges_29 100 0 0 (ml τ (o6 (upd (upd (τ 0) 22 (nI (rr (mkG n kd f0 f1 W)))) 23 (nI (po (mkG n kd f0 f1 W)).length)) (wa (mkG n kd f0 f1 W) 0)) a' b' c' d' x' y') = some (z1, z2, _) := h7
  rw [← wa_end (W := W) hw (16 - 2 * n) (by have := hw.1; omega)] at h7'
  refine ⟨ml τ (o6 (upd (upd (τ 0) 22 (nI (rr (mkG n kd f0 f1 W)))) 23 (nI (po (mkG n kd f0 f1 W)).length)) (wa (mkG n kd f0 f1 W) 16)) a' b' c' d' x' y', ?_, ?_, ?_⟩
  · unfold F_X7_lay
    rw [h1, zb_q, h4, zb_q]
    unfold F_X7_layEdges
    rw [zl_q, zl_q, zl_q, zl_q, zl_q, ml_s0, ml_s0, ml_s0, ml_s0, ml_s0, e0, h7', zb3_q, zb_q]
  · exact ⟨rfl, rfl, h2, h3, h5, h6, rfl, rfl, rfl, rfl, rfl⟩
  · refine ⟨fun i q0 q12 q13 q14 q15 q16 q17 => by unfold ml; simp [q0, q12, q13, q14, q15, q16, q17], fun k q1 q2 q3 q4 q5 q6 q7 => ?_⟩
    rw [ml_0]
    unfold o6 upd
    simp [q1, q2, q3, q4, q5, q6, q7]
end ME2
