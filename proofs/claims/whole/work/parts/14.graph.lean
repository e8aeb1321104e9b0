/-! GRAPHS: an edge's number (twice its node, and which end) to where it leads -/
abbrev Gr : Type := Nat → Option Nat
def gok (g : Gr) : Prop := ∀ e t, g e = some t → e < 16 ∧ t < 8
/-- reached from node 0 without coming to a (a = 99: no node is left out) -/
def Rch (g : Gr) (a v : Nat) : Prop := ∀ S : Nat → Prop, (a ≠ 0 → S 0) → (∀ e t, g e = some t → S (e / 2) → t ≠ a → S t) → S v
theorem Rch.zero {g : Gr} {a : Nat} (h : a ≠ 0) : Rch g a 0 := fun _ h0 _ => h0 h
theorem Rch.step {g : Gr} {a e t : Nat} (he : g e = some t) (h : Rch g a (e / 2)) (ht : t ≠ a) : Rch g a t := fun S h0 hs => hs e t he (h S h0 hs) ht
/-- induction along the way, with the way so far -/
theorem Rch.ind {g : Gr} {a v : Nat} (h : Rch g a v) (S : Nat → Prop) (h0 : a ≠ 0 → S 0) (hs : ∀ e t, g e = some t → Rch g a (e / 2) → S (e / 2) → t ≠ a → S t) : S v :=
  (h (fun v => Rch g a v ∧ S v) (fun z => ⟨Rch.zero z, h0 z⟩) (fun e t he hv ht => ⟨Rch.step he hv.1 ht, hs e t he hv.1 hv.2 ht⟩)).2
theorem Rch.ne {g : Gr} {a v : Nat} (h : Rch g a v) : v ≠ a := h (fun v => v ≠ a) (fun z q => z q.symm) (fun _ _ _ _ ht => ht)
theorem Rch.all {g : Gr} (hg : gok g) {a v : Nat} (h : Rch g a v) : Rch g 99 v := h.ind (fun v => Rch g 99 v) (fun _ => Rch.zero (by decide)) (fun e t he _ hv _ => Rch.step he hv (by have := (hg e t he).2; omega))
theorem Rch.lt {g : Gr} (hg : gok g) {a v : Nat} (h : Rch g a v) : v < 8 := h.ind (fun v => v < 8) (fun _ => by decide) (fun e t he _ _ _ => (hg e t he).2)
/-- a lies on all ways to v -/
def Dm (g : Gr) (a v : Nat) : Prop := Rch g 99 a ∧ Rch g 99 v ∧ ¬ Rch g a v
theorem Dm.refl {g : Gr} {v : Nat} (h : Rch g 99 v) : Dm g v v := ⟨h, h, fun q => q.ne rfl⟩
theorem Dm.zero {g : Gr} {v : Nat} (h : Rch g 99 v) : Dm g 0 v := by
  refine ⟨Rch.zero (by decide), h, fun q => ?_⟩
  exact (q (fun _ => False) (fun z => absurd rfl z) (fun _ _ _ h _ => h))
theorem Dm.trans {g : Gr} (hg : gok g) {x a b : Nat} (h1 : Dm g x a) (h2 : Dm g a b) : Dm g x b := by
  refine ⟨h1.1, h2.2.1, fun q => ?_⟩
  have key : Rch g x a ∨ Rch g a b := q.ind (fun v => Rch g x a ∨ Rch g a v) (fun z => by
      by_cases h : a = 0
      · left; rw [h]; exact Rch.zero z
      · right; exact Rch.zero h) (fun e t he hx hv ht => by
      rcases hv with hv | hv
      · exact Or.inl hv
      · by_cases h : t = a
        · left; rw [← h]; exact Rch.step he hx ht
        · right; exact Rch.step he hv h)
  exact key.elim h1.2.2 h2.2.2
/-- of two that lie on all ways to v one lies on all ways to the other -/
theorem Dm.chain {g : Gr} {a b v : Nat} (ha : Dm g a v) (hb : Dm g b v) (hg : gok g) : Dm g a b ∨ Dm g b a := by
  by_cases hab : a = b
  · subst hab; exact Or.inl (Dm.refl ha.1)
  · by_cases h1 : Rch g b a
    · by_cases h2 : Rch g a b
      · exfalso
        have key : Rch g a v ∨ Rch g b v := ha.2.1.ind (fun v => Rch g a v ∨ Rch g b v) (fun _ => by
            by_cases h : a = 0
            · right; exact Rch.zero (fun q => hab (h.trans q.symm))
            · left; exact Rch.zero h) (fun e t he _ hv _ => by
            rcases hv with hv | hv
            · by_cases h : t = a
              · right; rw [h]; exact h1
              · left; exact Rch.step he hv h
            · by_cases h : t = b
              · left; rw [h]; exact h2
              · right; exact Rch.step he hv h)
        exact key.elim ha.2.2 hb.2.2
      · exact Or.inl ⟨ha.1, hb.1, h2⟩
    · exact Or.inr ⟨hb.1, ha.1, h1⟩
/-- who lies on all ways to t, and isn't t, lies on all ways to each node that leads there -/
theorem Dm.pred {g : Gr} {a e t : Nat} (h : Dm g a t) (hne : a ≠ t) (he : g e = some t) (hr : Rch g 99 (e / 2)) : Dm g a (e / 2) :=
  ⟨h.1, hr, fun q => h.2.2 (Rch.step he q (Ne.symm hne))⟩
/-! THE ORDER: to do a node -/
abbrev Ds : Type := Nat × List Nat
def stp (f : Nat → Ds → Ds) (g : Gr) (e : Nat) (s : Ds) : Ds := match g e with
  | none => s
  | some t => if s.1.testBit t then s else f t s
def dfs (g : Gr) : Nat → Nat → Ds → Ds
  | 0, _, s => s
  | d + 1, v, s => ((stp (dfs g d) g (2 * v + 1) (stp (dfs g d) g (2 * v) (s.1 ||| 2 ^ v, s.2))).1, (stp (dfs g d) g (2 * v + 1) (stp (dfs g d) g (2 * v) (s.1 ||| 2 ^ v, s.2))).2 ++ [v])
/-- nodes done before v don't lie on all ways to it -/
def Qd (g : Gr) (P : List Nat) : Prop := ∀ P1 v P2, P = P1 ++ v :: P2 → ∀ a ∈ P1, Rch g a v
/-- how many are not begun -/
def ub (R : Nat) : Nat := fb_ct (fun i => !R.testBit i) 8
theorem ub_or {R v : Nat} (hv : v < 8) (h : R.testBit v = false) : ub (R ||| 2 ^ v) + 1 = ub R := by
  unfold ub
  have e := fb_ct_upd (fun i => !R.testBit i) false (i := v) (n := 8) hv
  have c : fb_ct (fun k => if k = v then false else !R.testBit k) 8 = fb_ct (fun i => !(R ||| 2 ^ v).testBit i) 8 := fb_ct_cong (fun k _ => by
    rw [Nat.testBit_or, nq_two]
    by_cases q : k = v
    · simp [q]
    · simp [q, Ne.symm q])
  rw [c] at e
  change _ + (if (!R.testBit v) = true then 1 else 0) = _ + (if false = true then 1 else 0) at e
  rw [h] at e
  simp only [Bool.not_false, if_true, Bool.false_eq_true, if_false] at e
  omega
theorem ub_mono {R R' : Nat} (h : ∀ i, R.testBit i = true → R'.testBit i = true) : ub R' ≤ ub R := fb_ct_sub (fun k _ hk => by
  cases hr : R.testBit k with
  | false => rfl
  | true => rw [h k hr] at hk; simp at hk)
theorem ub_le (R : Nat) : ub R ≤ 8 := fb_ct_le _ _
/-- what doing some nodes comes to: N are new, in this order -/
def dpost (g : Gr) (R : Nat) (P : List Nat) (s : Ds) (N : List Nat) : Prop :=
  s.2 = P ++ N ∧ (∀ x, s.1.testBit x = (R.testBit x || decide (x ∈ N))) ∧ (∀ x ∈ N, R.testBit x = false ∧ x < 8 ∧ Rch g 99 x) ∧ N.Nodup ∧ Qd g (P ++ N) ∧ ∀ x ∈ N, ∀ e t, g e = some t → e / 2 = x → s.1.testBit t = true
/-- what holds before a node v is done; K: those begun on the way to it -/
def dpre (g : Gr) (K : Nat → Prop) (R : Nat) (P : List Nat) : Prop :=
  R < 2 ^ 8 ∧ (∀ x, K x → R.testBit x = true) ∧ (∀ x ∈ P, R.testBit x = true ∧ ¬ K x) ∧ Qd g P
theorem Qd_app {g : Gr} {P : List Nat} {v : Nat} (h : Qd g P) (hv : ∀ a ∈ P, Rch g a v) : Qd g (P ++ [v]) := by
  intro P1 x P2 e a ha
  rcases List.append_eq_append_iff.mp e with ⟨l, h1, h2⟩ | ⟨l, h1, h2⟩
  · -- P1 = P ++ l, [v] = l ++ x :: P2
    cases l with
    | nil =>
      simp at h2
      obtain ⟨rfl, rfl⟩ := h2
      simp at h1
      subst h1
      exact hv a ha
    | cons y l => simp at h2
  · -- P = P1 ++ l, x :: P2 = l ++ [v]
    cases l with
    | nil =>
      simp at h2
      obtain ⟨rfl, rfl⟩ := h2
      simp at h1
      subst h1
      exact hv a ha
    | cons y l =>
      simp at h2
      obtain ⟨rfl, h3⟩ := h2
      exact h P1 x l h1 a ha
theorem dfs_lt {R R' : Nat} {N : List Nat} (hR : R < 2 ^ 8) (h : ∀ x, R'.testBit x = (R.testBit x || decide (x ∈ N))) (hN : ∀ x ∈ N, x < 8) : R' < 2 ^ 8 := by
  apply Nat.lt_pow_two_of_testBit
  intro i hi
  rw [h, nq_tb hR hi]
  have : i ∉ N := fun q => by have := hN i q; omega
  simp [this]
theorem stp_ok {g : Gr} (hg : gok g) {d : Nat} (ih : ∀ (v : Nat) (K : Nat → Prop) (R : Nat) (P : List Nat), v < 8 → R.testBit v = false → ub R ≤ d → dpre g K R P → (∀ a, ¬ K a → a ≠ v → Rch g a v) → ∃ N, v ∈ N ∧ dpost g R P (dfs g d v (R, P)) N)
    {v e : Nat} (hev : e / 2 = v) {K : Nat → Prop} {R : Nat} {P : List Nat} (hu : ub R ≤ d) (hp : dpre g K R P) (hKv : ∀ a, ¬ K a → Rch g a v) : ∃ N, dpost g R P (stp (dfs g d) g e (R, P)) N ∧ ∀ t, g e = some t → (stp (dfs g d) g e (R, P)).1.testBit t = true := by
  unfold stp
  cases he : g e with
  | none =>
    refine ⟨[], ⟨by simp, by simp, by simp, by simp, by simpa using hp.2.2.2, by simp⟩, by simp⟩
  | some t =>
    by_cases ht : R.testBit t = true
    · simp only [ht, if_true]
      exact ⟨[], ⟨by simp, by simp, by simp, by simp, by simpa using hp.2.2.2, by simp⟩, fun t' h' => by cases h'; exact ht⟩
    · have ht' : R.testBit t = false := by simpa using ht
      simp only [ht', if_false, Bool.false_eq_true]
      obtain ⟨N, hN, hd⟩ := ih t K R P (hg e t he).2 ht' hu hp (fun a ha hat => Rch.step he (by rw [hev]; exact hKv a ha) (Ne.symm hat))
      refine ⟨N, hd, fun t' h' => ?_⟩
      cases h'
      rw [hd.2.1]
      simp [hN]
theorem dpost_trans {g : Gr} {K : Nat → Prop} {R : Nat} {P : List Nat} {s1 s2 : Ds} {N1 N2 : List Nat} (hp : dpre g K R P) (h1 : dpost g R P s1 N1) (h2 : dpost g s1.1 s1.2 s2 N2) : dpost g R P s2 (N1 ++ N2) := by
  obtain ⟨a1, a2, a3, a4, a5, a6⟩ := h1
  obtain ⟨b1, b2, b3, b4, b5, b6⟩ := h2
  have hmono : ∀ x, s1.1.testBit x = true → s2.1.testBit x = true := fun x hx => by rw [b2, hx]; rfl
  refine ⟨by rw [b1, a1, List.append_assoc], fun x => ?_, fun x hx => ?_, ?_, by rw [← List.append_assoc, ← a1]; exact b5, fun x hx e t he hex => ?_⟩
  · rw [b2, a2]
    simp [List.mem_append, Bool.or_assoc]
  · rcases List.mem_append.mp hx with h | h
    · exact a3 x h
    · obtain ⟨c1, c2⟩ := b3 x h
      rw [a2] at c1
      simp at c1
      exact ⟨c1.1, c2⟩
  · rw [List.nodup_append]
    refine ⟨a4, b4, fun x hx y hy hxy => ?_⟩
    subst hxy
    have := (b3 x hy).1
    rw [a2] at this
    simp [hx] at this
  · rcases List.mem_append.mp hx with h | h
    · exact hmono t (a6 x h e t he hex)
    · exact b6 x h e t he hex
theorem dpre_next {g : Gr} {K : Nat → Prop} {R : Nat} {P : List Nat} {s1 : Ds} {N1 : List Nat} (hp : dpre g K R P) (h1 : dpost g R P s1 N1) : dpre g K s1.1 s1.2 := by
  obtain ⟨a1, a2, a3, a4, a5, a6⟩ := h1
  refine ⟨dfs_lt hp.1 a2 (fun x hx => (a3 x hx).2.1), fun x hx => by rw [a2, hp.2.1 x hx]; rfl, fun x hx => ?_, by rw [a1]; exact a5⟩
  rw [a1] at hx
  rcases List.mem_append.mp hx with h | h
  · exact ⟨by rw [a2, (hp.2.2.1 x h).1]; rfl, (hp.2.2.1 x h).2⟩
  · exact ⟨by rw [a2]; simp [h], fun hk => by have := hp.2.1 x hk; rw [(a3 x h).1] at this; cases this⟩
theorem dfs_ok {g : Gr} (hg : gok g) : ∀ (d v : Nat) (K : Nat → Prop) (R : Nat) (P : List Nat), v < 8 → R.testBit v = false → ub R ≤ d → dpre g K R P → (∀ a, ¬ K a → a ≠ v → Rch g a v) → ∃ N, v ∈ N ∧ dpost g R P (dfs g d v (R, P)) N := by
  intro d
  induction d with
  | zero =>
    intro v K R P hv hR hu
    have := ub_or hv hR
    omega
  | succ d ih =>
    intro v K R P hv hR hu hp hSP
    have hub := ub_or hv hR
    -- v is begun
    have hR1 : R ||| 2 ^ v < 2 ^ 8 := nq_or hp.1 (nq_pow hv)
    have hb1 : ∀ x, (R ||| 2 ^ v).testBit x = (R.testBit x || decide (v = x)) := fun x => by rw [Nat.testBit_or, nq_two]
    have hvP : v ∉ P := fun h => by have := (hp.2.2.1 v h).1; rw [hR] at this; cases this
    have hp1 : dpre g (fun x => K x ∨ x = v) (R ||| 2 ^ v) P := by
      refine ⟨hR1, fun x hx => ?_, fun x hx => ⟨by rw [hb1, (hp.2.2.1 x hx).1]; rfl, fun hk => ?_⟩, hp.2.2.2⟩
      · rcases hx with hx | rfl
        · rw [hb1, hp.2.1 x hx]; rfl
        · rw [hb1]; simp
      · rcases hk with hk | rfl
        · exact (hp.2.2.1 x hx).2 hk
        · exact hvP hx
    have hKv : ∀ a, ¬ (K a ∨ a = v) → Rch g a v := fun a ha => hSP a (fun q => ha (Or.inl q)) (fun q => ha (Or.inr q))
    obtain ⟨N1, d1, t1⟩ := stp_ok hg ih (v := v) (e := 2 * v) (by omega) (R := R ||| 2 ^ v) (P := P) (by omega) hp1 hKv
    have hp2 := dpre_next hp1 d1
    have hu2 : ub (stp (dfs g d) g (2 * v) (R ||| 2 ^ v, P)).1 ≤ d := by
      have := ub_mono (R := R ||| 2 ^ v) (R' := (stp (dfs g d) g (2 * v) (R ||| 2 ^ v, P)).1) (fun i hi => by rw [d1.2.1, hi]; rfl)
      omega
    obtain ⟨N2, d2, t2⟩ := stp_ok hg ih (v := v) (e := 2 * v + 1) (by omega) (R := (stp (dfs g d) g (2 * v) (R ||| 2 ^ v, P)).1) (P := (stp (dfs g d) g (2 * v) (R ||| 2 ^ v, P)).2) hu2 hp2 hKv
    have d12 := dpost_trans hp1 d1 d2
    obtain ⟨a1, a2, a3, a4, a5, a6⟩ := d12
    refine ⟨N1 ++ N2 ++ [v], by simp, ?_⟩
    unfold dfs
    have hvN : v ∉ N1 ++ N2 := fun h => by have := (a3 v h).1; rw [hb1] at this; simp at this
    refine ⟨by simp [a1], fun x => ?_, fun x hx => ?_, ?_, ?_, fun x hx e t he hex => ?_⟩
    · show (stp (dfs g d) g (2 * v + 1) (stp (dfs g d) g (2 * v) (R ||| 2 ^ v, P))).1.testBit x = _
      rw [show (stp (dfs g d) g (2 * v + 1) (stp (dfs g d) g (2 * v) (R ||| 2 ^ v, P))).1.testBit x = ((R ||| 2 ^ v).testBit x || decide (x ∈ N1 ++ N2)) from a2 x, hb1]
      by_cases h : v = x
      · simp [h]
      · simp [h, Ne.symm h]
    · rcases List.mem_append.mp hx with h | h
      · obtain ⟨c1, c2⟩ := a3 x h
        rw [hb1] at c1
        simp at c1
        exact ⟨c1.1, c2⟩
      · rw [List.mem_singleton] at h
        subst h
        refine ⟨hR, hv, ?_⟩
        refine hSP 99 (fun q => ?_) (by omega)
        have := hp.2.1 99 q
        rw [nq_tb hp.1 (by decide)] at this
        cases this
    · rw [List.nodup_append]
      exact ⟨a4, by simp, fun x hx y hy hxy => by rw [List.mem_singleton] at hy; subst hy; subst hxy; exact hvN hx⟩
    · rw [← List.append_assoc]
      refine Qd_app a5 (fun a ha => ?_)
      rcases List.mem_append.mp ha with h | h
      · exact hSP a (hp.2.2.1 a h).2 (fun q => hvP (q ▸ h))
      · refine hSP a (fun q => ?_) (fun q => hvN (q ▸ h))
        have c1 := (a3 a h).1
        rw [hb1, hp.2.1 a q] at c1
        simp at c1
    · show (stp (dfs g d) g (2 * v + 1) (stp (dfs g d) g (2 * v) (R ||| 2 ^ v, P))).1.testBit t = true
      rcases List.mem_append.mp hx with h | h
      · exact a6 x h e t he hex
      · rw [List.mem_singleton] at h
        subst h
        have : e = 2 * x ∨ e = 2 * x + 1 := by omega
        rcases this with rfl | rfl
        · have := t1 t he
          rw [d2.2.1, this]; rfl
        · exact t2 t he
/-- the order of a graph: those that are reached, in the order in which they are done -/
def rr (g : Gr) : Nat := (dfs g 8 0 (0, [])).1
def po (g : Gr) : List Nat := (dfs g 8 0 (0, [])).2
theorem po_ok {g : Gr} (hg : gok g) : (∀ x, (rr g).testBit x = decide (x ∈ po g)) ∧ (∀ x ∈ po g, x < 8 ∧ Rch g 99 x) ∧ (po g).Nodup ∧ Qd g (po g) ∧ 0 ∈ po g ∧ ∀ x ∈ po g, ∀ e t, g e = some t → e / 2 = x → t ∈ po g := by
  obtain ⟨N, h0, h1, h2, h3, h4, h5, h6⟩ := dfs_ok hg 8 0 (fun _ => False) 0 [] (by decide) (by simp) (ub_le _) ⟨by decide, fun _ h => h.elim, fun x h => by simp at h, fun P1 v P2 e => by simp at e⟩ (fun a _ h => Rch.zero h)
  have e : po g = N := by unfold po; rw [h1]; rfl
  have er : ∀ x, (rr g).testBit x = decide (x ∈ po g) := fun x => by unfold rr; rw [h2, e]; simp
  refine ⟨er, ?_, by rw [e]; exact h4, by rw [e]; simpa using h5, by rw [e]; exact h0, fun x hx e1 t he hex => ?_⟩
  · rw [e]; exact fun x hx => (h3 x hx).2
  · have := h6 x (by rw [← e]; exact hx) e1 t he hex
    have z := er t
    unfold rr at z
    rw [this] at z
    simpa using z.symm
theorem mem_po {g : Gr} (hg : gok g) {x : Nat} : x ∈ po g ↔ Rch g 99 x := by
  obtain ⟨h1, h2, h3, h4, h5, h6⟩ := po_ok hg
  exact ⟨fun h => (h2 x h).2, fun h => h.ind (fun v => v ∈ po g) (fun _ => h5) (fun e t he _ hv _ => h6 _ hv e t he rfl)⟩
theorem rr_lt {g : Gr} (hg : gok g) : rr g < 2 ^ 8 := by
  apply Nat.lt_pow_two_of_testBit
  intro i hi
  rw [(po_ok hg).1]
  have : i ∉ po g := fun h => by have := ((po_ok hg).2.1 i h).1; omega
  simp [this]
theorem po_len {g : Gr} (hg : gok g) : (po g).length ≤ 8 := by
  have h : ∀ (l : List Nat), l.Nodup → (∀ x ∈ l, x < 8) → l.length ≤ 8 := by
    intro l hn hl
    refine fb_holes 8 l.length (fun i => l.getD i 0) (fun i hi => ?_) (fun i j hij hj h => ?_)
    · have : l.getD i 0 = l[i] := by simp [hi]
      rw [this]; exact hl _ (List.getElem_mem hi)
    · have h1 : i < l.length := by omega
      simp [h1, hj] at h
      have := (List.getElem_inj hn).mp h
      omega
  exact h _ (po_ok hg).2.2.1 (fun x hx => ((po_ok hg).2.1 x hx).1)
/-- the place in the order -/
def pl (g : Gr) (v : Nat) : Nat := (po g).length - 1 - (po g).idxOf v
theorem pl_Qd {g : Gr} {P : List Nat} (h : Qd g P) {a v : Nat} (hv : v ∈ P) (hlt : P.idxOf a < P.idxOf v) : Rch g a v := by
  have hvl : P.idxOf v < P.length := List.idxOf_lt_length_of_mem hv
  have e : P = P.take (P.idxOf v) ++ v :: P.drop (P.idxOf v + 1) := by
    conv => lhs; rw [← List.take_append_drop (P.idxOf v) P]
    rw [List.drop_eq_getElem_cons hvl, List.getElem_idxOf]
  refine h _ v _ e a ?_
  have hal : P.idxOf a < P.length := by omega
  have : P[P.idxOf a] = a := List.getElem_idxOf hal
  exact List.mem_iff_getElem.mpr ⟨P.idxOf a, by simp; omega, by simpa using this⟩
theorem Dm.idx {g : Gr} (hg : gok g) {a v : Nat} (h : Dm g a v) : (po g).idxOf v ≤ (po g).idxOf a := by
  rcases Nat.lt_or_ge ((po g).idxOf a) ((po g).idxOf v) with q | q
  · exact absurd (pl_Qd (po_ok hg).2.2.2.1 ((mem_po hg).mpr h.2.1) q) h.2.2
  · exact q
theorem Dm.ple {g : Gr} (hg : gok g) {a v : Nat} (h : Dm g a v) : pl g a ≤ pl g v := by
  have := h.idx hg
  unfold pl
  omega
theorem pl_inj {g : Gr} (hg : gok g) {a v : Nat} (ha : a ∈ po g) (hv : v ∈ po g) (h : pl g a = pl g v) : a = v := by
  have h1 : (po g).idxOf a < (po g).length := List.idxOf_lt_length_of_mem ha
  have h2 : (po g).idxOf v < (po g).length := List.idxOf_lt_length_of_mem hv
  unfold pl at h
  have : (po g).idxOf a = (po g).idxOf v := by omega
  have e1 : (po g)[(po g).idxOf a] = a := List.getElem_idxOf h1
  have e2 : (po g)[(po g).idxOf v] = v := List.getElem_idxOf h2
  rw [← e1, ← e2]
  simp [this]
theorem Dm.anti {g : Gr} (hg : gok g) {a v : Nat} (h1 : Dm g a v) (h2 : Dm g v a) : a = v := by
  have := h1.ple hg
  have := h2.ple hg
  exact pl_inj hg ((mem_po hg).mpr h1.1) ((mem_po hg).mpr h1.2.1) (by omega)
