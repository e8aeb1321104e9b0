/-! FOLDS: merges, heads, bad edges -/
def fwd (g : Gr) (e t : Nat) : Prop := lvE g e = some t ∧ pl g (e / 2) < pl g t
def bck (g : Gr) (e t : Nat) : Prop := lvE g e = some t ∧ ¬ pl g (e / 2) < pl g t
theorem tb_or2 {M t v : Nat} : (M ||| 2 ^ t).testBit v = true ↔ (M.testBit v = true ∨ t = v) := by
  rw [Nat.testBit_or, nq_two, Bool.or_eq_true, decide_eq_true_eq]
theorem wa_all {g : Gr} : ∀ k, (∀ t, (wa g k).2.2.2.2.2.testBit t = true ↔ ∃ e, e < k ∧ fwd g e t) ∧ (∀ t, (wa g k).2.2.2.2.1.testBit t = true ↔ ∃ e1 e2, e1 < e2 ∧ e2 < k ∧ fwd g e1 t ∧ fwd g e2 t) ∧ (∀ t, (wa g k).2.2.2.1.testBit t = true ↔ ∃ e, e < k ∧ bck g e t ∧ (dk g (e / 2)).testBit t = true) ∧ ((wa g k).2.2.1 = 0 → ∀ e t, e < k → bck g e t → (dk g (e / 2)).testBit t = true) := by
  intro k
  induction k with
  | zero =>
    refine ⟨fun t => ?_, fun t => ?_, fun t => ?_, fun _ e t he => absurd he (by omega)⟩
    · unfold wa; simp
    · unfold wa
      constructor
      · intro h; simp at h
      · rintro ⟨e1, e2, h1, h2, -⟩; omega
    · unfold wa; simp
  | succ k ih =>
    obtain ⟨i1, i2, i3, i4⟩ := ih
    have hs : wa g (k + 1) = wst g k (wa g k) := rfl
    rw [hs]
    unfold wst
    cases hl : lvE g k with
    | none =>
      have n1 : ∀ t, ¬ fwd g k t := fun t h => by rw [h.1] at hl; cases hl
      have n2 : ∀ t, ¬ bck g k t := fun t h => by rw [h.1] at hl; cases hl
      simp only
      refine ⟨fun t => ?_, fun t => ?_, fun t => ?_, fun h e t he hb => ?_⟩
      · rw [i1]
        constructor
        · rintro ⟨e, h1, h2⟩; exact ⟨e, by omega, h2⟩
        · rintro ⟨e, h1, h2⟩
          by_cases q : e = k
          · subst q; exact absurd h2 (n1 t)
          · exact ⟨e, by omega, h2⟩
      · rw [i2]
        constructor
        · rintro ⟨e1, e2, h1, h2, h3⟩; exact ⟨e1, e2, h1, by omega, h3⟩
        · rintro ⟨e1, e2, h1, h2, h3, h4⟩
          by_cases q : e2 = k
          · subst q; exact absurd h4 (n1 t)
          · exact ⟨e1, e2, h1, by omega, h3, h4⟩
      · rw [i3]
        constructor
        · rintro ⟨e, h1, h2⟩; exact ⟨e, by omega, h2⟩
        · rintro ⟨e, h1, h2⟩
          by_cases q : e = k
          · subst q; exact absurd h2.1 (n2 t)
          · exact ⟨e, by omega, h2⟩
      · by_cases q : e = k
        · subst q; exact absurd hb (n2 t)
        · exact i4 h e t (by omega) hb
    | some y =>
      by_cases hp : pl g (k / 2) < pl g y
      · simp only [if_pos hp]
        have f1 : fwd g k y := ⟨hl, hp⟩
        have f2 : ∀ t, fwd g k t → t = y := fun t h => by have := h.1; rw [hl] at this; cases this; rfl
        have n2 : ∀ t, ¬ bck g k t := fun t h => by have := h.1; rw [hl] at this; cases this; exact h.2 hp
        refine ⟨fun t => ?_, fun t => ?_, fun t => ?_, fun h e t he hb => ?_⟩
        · rw [tb_or2, i1]
          constructor
          · rintro (⟨e, h1, h2⟩ | rfl)
            · exact ⟨e, by omega, h2⟩
            · exact ⟨k, by omega, f1⟩
          · rintro ⟨e, h1, h2⟩
            by_cases q : e = k
            · subst q; exact Or.inr (f2 t h2).symm
            · exact Or.inl ⟨e, by omega, h2⟩
        · rw [Nat.testBit_or, Bool.or_eq_true, i2, Nat.testBit_and, Bool.and_eq_true, nq_two, decide_eq_true_eq, i1]
          constructor
          · rintro (⟨e1, e2, h1, h2, h3⟩ | ⟨⟨e, h1, h2⟩, rfl⟩)
            · exact ⟨e1, e2, h1, by omega, h3⟩
            · exact ⟨e, k, h1, by omega, h2, f1⟩
          · rintro ⟨e1, e2, h1, h2, h3, h4⟩
            by_cases q : e2 = k
            · subst q; exact Or.inr ⟨⟨e1, h1, h3⟩, (f2 t h4).symm⟩
            · exact Or.inl ⟨e1, e2, h1, by omega, h3, h4⟩
        · rw [i3]
          constructor
          · rintro ⟨e, h1, h2⟩; exact ⟨e, by omega, h2⟩
          · rintro ⟨e, h1, h2⟩
            by_cases q : e = k
            · subst q; exact absurd h2.1 (n2 t)
            · exact ⟨e, by omega, h2⟩
        · by_cases q : e = k
          · subst q; exact absurd hb (n2 t)
          · exact i4 h e t (by omega) hb
      · simp only [if_neg hp]
        have f1 : bck g k y := ⟨hl, hp⟩
        have f2 : ∀ t, bck g k t → t = y := fun t h => by have := h.1; rw [hl] at this; cases this; rfl
        have n1 : ∀ t, ¬ fwd g k t := fun t h => by have := h.1; rw [hl] at this; cases this; exact hp h.2
        have p1 : ∀ t, (∃ e, e < k ∧ fwd g e t) ↔ ∃ e, e < k + 1 ∧ fwd g e t := fun t => by
          constructor
          · rintro ⟨e, h1, h2⟩; exact ⟨e, by omega, h2⟩
          · rintro ⟨e, h1, h2⟩
            by_cases q : e = k
            · subst q; exact absurd h2 (n1 t)
            · exact ⟨e, by omega, h2⟩
        have p2 : ∀ t, (∃ e1 e2, e1 < e2 ∧ e2 < k ∧ fwd g e1 t ∧ fwd g e2 t) ↔ ∃ e1 e2, e1 < e2 ∧ e2 < k + 1 ∧ fwd g e1 t ∧ fwd g e2 t := fun t => by
          constructor
          · rintro ⟨e1, e2, h1, h2, h3⟩; exact ⟨e1, e2, h1, by omega, h3⟩
          · rintro ⟨e1, e2, h1, h2, h3, h4⟩
            by_cases q : e2 = k
            · subst q; exact absurd h4 (n1 t)
            · exact ⟨e1, e2, h1, by omega, h3, h4⟩
        by_cases hd : (dk g (k / 2)).testBit y = true
        · simp only [if_pos hd]
          refine ⟨fun t => (i1 t).trans (p1 t), fun t => (i2 t).trans (p2 t), fun t => ?_, fun h e t he hb => ?_⟩
          · rw [tb_or2, i3]
            constructor
            · rintro (⟨e, h1, h2⟩ | rfl)
              · exact ⟨e, by omega, h2⟩
              · exact ⟨k, by omega, f1, hd⟩
            · rintro ⟨e, h1, h2⟩
              by_cases q : e = k
              · subst q; exact Or.inr (f2 t h2.1).symm
              · exact Or.inl ⟨e, by omega, h2⟩
          · by_cases q : e = k
            · subst q; rw [f2 t hb]; exact hd
            · exact i4 h e t (by omega) hb
        · simp only [if_neg hd]
          refine ⟨fun t => (i1 t).trans (p1 t), fun t => (i2 t).trans (p2 t), fun t => ?_, fun h => absurd h (by simp)⟩
          rw [i3]
          constructor
          · rintro ⟨e, h1, h2⟩; exact ⟨e, by omega, h2⟩
          · rintro ⟨e, h1, h2⟩
            by_cases q : e = k
            · subst q
              have := f2 t h2.1
              subst this
              exact absurd h2.2 hd
            · exact ⟨e, by omega, h2⟩
theorem mg_iff {g : Gr} {t : Nat} : (mg g).testBit t = true ↔ ∃ e1 e2, e1 < e2 ∧ e2 < 16 ∧ fwd g e1 t ∧ fwd g e2 t := (wa_all 16).2.1 t
theorem hd_iff {g : Gr} {t : Nat} : (hd g).testBit t = true ↔ ∃ e, e < 16 ∧ bck g e t ∧ (dk g (e / 2)).testBit t = true := (wa_all 16).2.2.1 t
theorem lvE_ok {g : Gr} (hg : gok g) {e t : Nat} (h : lvE g e = some t) : e < 16 ∧ t < 8 ∧ e / 2 ∈ po g ∧ t ∈ po g ∧ g e = some t := by
  unfold lvE at h
  split at h
  · rename_i q
    exact ⟨(hg e t h).1, (hg e t h).2, q, (po_ok hg).2.2.2.2.2 _ q e t h rfl, h⟩
  · cases h
theorem bck_dm {g : Gr} (hg : gok g) (hb : bd g = 0) {e t : Nat} (h : bck g e t) : Dm g t (e / 2) := (dk_iff hg).mp ((wa_all 16).2.2.2 hb e t (lvE_ok hg h.1).1 h)
theorem bck_hd {g : Gr} (hg : gok g) (hb : bd g = 0) {e t : Nat} (h : bck g e t) : (hd g).testBit t = true := hd_iff.mpr ⟨e, (lvE_ok hg h.1).1, h, (wa_all 16).2.2.2 hb e t (lvE_ok hg h.1).1 h⟩
theorem fwd_ne0 {g : Gr} (hg : gok g) {e t : Nat} (h : fwd g e t) : t ≠ 0 := fun z => by
  have h1 := (lvE_ok hg h.1).2.2.1
  have := (Dm.zero ((mem_po hg).mp h1)).ple hg
  have := h.2
  rw [z] at this
  omega
/-- a node that one edge leads forward to has that edge's node for its lord -/
theorem fwd_lord {g : Gr} (hg : gok g) (hb : bd g = 0) {e t : Nat} (h : fwd g e t) (hm : (mg g).testBit t = false) : Lrd g (e / 2) t := by
  obtain ⟨l1, l2, l3, l4, l5⟩ := lvE_ok hg h.1
  have hr := (mem_po hg).mp l3
  have hrt := (mem_po hg).mp l4
  refine ⟨fun z => by have := h.2; rw [z] at this; omega, ⟨hr, hrt, fun q => ?_⟩, fun x hx hxt => hx.pred hxt l5 hr⟩
  have := q.ind (fun v => Rch g t v) (fun _ => Rch.zero (fwd_ne0 hg h)) (fun e' t' he' hx' hs' ht' => by
    by_cases q2 : t' = t
    · subst q2
      exfalso
      have hrs := hx'.all hg
      have hlv : lvE g e' = some t' := by unfold lvE; rw [if_pos ((mem_po hg).mpr hrs)]; exact he'
      by_cases q3 : pl g (e' / 2) < pl g t'
      · have hne : e' ≠ e := fun z => hx'.ne (by rw [z])
        have : (mg g).testBit t' = true := mg_iff.mpr (by
          rcases Nat.lt_or_ge e' e with q4 | q4
          · exact ⟨e', e, q4, l1, ⟨hlv, q3⟩, h⟩
          · exact ⟨e, e', by omega, (hg e' t' he').1, h, ⟨hlv, q3⟩⟩)
        rw [this] at hm; cases hm
      · exact (bck_dm hg hb ⟨hlv, q3⟩).2.2 hs'
    · exact Rch.step he' hs' q2)
  exact this.ne rfl
theorem Lrd_pc {g : Gr} (hg : gok g) {x t : Nat} (h : Lrd g x t) : pc (dk g x) + 1 = pc (dk g t) := ((Lrd_model hg).mpr h).2.2
/-- sets of nodes that two children of a node rule are apart -/
theorem Lrd_apart {g : Gr} (hg : gok g) {x a b v : Nat} (ha : Lrd g x a) (hb : Lrd g x b) (hab : a ≠ b) (h1 : Dm g a v) (h2 : Dm g b v) : False := by
  rcases Dm.chain h1 h2 hg with q | q
  · exact ha.1 (Dm.anti hg ha.2.1 (hb.2.2 a q hab))
  · exact hb.1 (Dm.anti hg hb.2.1 (ha.2.2 b q (Ne.symm hab)))
/-! events -/
abbrev Ev : Type := Nat × Nat × Nat
abbrev St : Type := List Nat × Nat × Nat × Nat × List Nat
def ix : List Nat → Nat → Nat
  | [], _ => 0
  | a :: l, k => if a = k then 0 else ix l k + 1
def ex1 (e : Ev) (t : St) : St :=
  if e.1 = 0 then (e.2.1 :: t.1, t.2)
  else if e.1 = 1 then (e.2.1 :: t.1, t.2.1, t.2.2.1, max t.2.2.2.1 (t.2.2.2.2.length + 1), e.2.1 :: t.2.2.2.2)
  else if e.1 = 2 then (e.2.1 :: t.1, t.2.1, t.2.2.1, t.2.2.2.1, t.2.2.2.2.tail)
  else ((e.2.1 + ix t.2.2.2.2 e.2.2) :: t.1, t.2.1 + 1, t.2.2.1 + ix t.2.2.2.2 e.2.2, t.2.2.2.1, t.2.2.2.2)
def ex : List Ev → St → St
  | [], t => t
  | e :: l, t => ex l (ex1 e t)
theorem ex_app : ∀ (a b : List Ev) (t : St), ex (a ++ b) t = ex b (ex a t)
  | [], _, _ => rfl
  | e :: a, b, t => ex_app a b (ex1 e t)
def fit1 (e : Ev) (t : St) : Prop := (e.1 = 2 → t.2.2.2.2 ≠ []) ∧ (e.1 = 3 → e.2.2 ∈ t.2.2.2.2)
def fit : List Ev → St → Prop
  | [], _ => True
  | e :: l, t => fit1 e t ∧ fit l (ex1 e t)
theorem fit_app : ∀ (a b : List Ev) (t : St), fit (a ++ b) t ↔ (fit a t ∧ fit b (ex a t))
  | [], b, t => by simp [fit, ex]
  | e :: a, b, t => by
    show (fit1 e t ∧ fit (a ++ b) (ex1 e t)) ↔ _
    rw [fit_app a b]
    show _ ↔ ((fit1 e t ∧ fit a (ex1 e t)) ∧ fit b (ex a (ex1 e t)))
    exact ⟨fun h => ⟨⟨h.1, h.2.1⟩, h.2.2⟩, fun h => ⟨h.1.1, h.1.2, h.2⟩⟩
def ops (l : List Ev) : Nat := (l.filter (fun e => e.1 == 1)).length
theorem ops_app (a b : List Ev) : ops (a ++ b) = ops a + ops b := by unfold ops; rw [List.filter_append, List.length_append]
theorem ex_sg : ∀ (l : List Ev) (t : St), (ex l t).1.length = t.1.length + l.length
  | [], t => rfl
  | e :: l, t => by
    show (ex l (ex1 e t)).1.length = _
    rw [ex_sg l]
    have : (ex1 e t).1.length = t.1.length + 1 := by
      unfold ex1
      repeat' split
      all_goals rfl
    rw [this, List.length_cons]; omega
/-! the tree of a node -/
def nd (g : Gr) (i : Nat) : Nat := (po g).getD ((po g).length - 1 - i) 0
noncomputable def blk (g : Gr) (x v : Nat) : Bool := (mg g).testBit v && decide (ld g v = nI x)
noncomputable def opB (g : Gr) (x : Nat) : Nat → List Ev
  | 0 => []
  | i + 1 => (if blk g x (nd g (i + 1)) then [(1, 200 + nd g (i + 1), 0)] else []) ++ opB g x i
noncomputable def clB (f : Nat → List Ev) (g : Gr) (x : Nat) : Nat → List Ev
  | 0 => []
  | i + 1 => clB f g x i ++ (if blk g x (nd g (i + 1)) then (2, 301, 0) :: f (nd g (i + 1)) else [])
noncomputable def br (f : Nat → List Ev) (g : Gr) (e : Nat) : List Ev := match lvE g e with
  | none => []
  | some t => if pl g (e / 2) < pl g t then (if (mg g).testBit t then [(3, 600, 200 + t)] else f t) else [(3, 500, 100 + t)]
noncomputable def ens (f : Nat → List Ev) (g : Gr) (m x : Nat) : List Ev := if m = 0 then [] else br f g (2 * x) ++ (if m = 2 then (0, 400, 0) :: (br f g (2 * x + 1) ++ [(0, 401, 0)]) else [])
noncomputable def wi (f : Nat → List Ev) (g : Gr) (m x : Nat) : List Ev := opB g x ((po g).length - 1) ++ ((0, x, 0) :: (ens f g m x ++ clB f g x ((po g).length - 1)))
noncomputable def tr (g : Gr) (kd : Nat → Nat) : Nat → Nat → List Ev
  | 0, _ => []
  | d + 1, x => (if (hd g).testBit x then [(1, 100 + x, 0)] else []) ++ (wi (tr g kd d) g (en (kd x)) x ++ (if (hd g).testBit x then [(2, 300, 0)] else []))
