theorem zsr_zsr (σ : SF) (q : Nat) (a b : Nat → Int32) : zsr (zsr σ q a) q b = zsr σ q b := by
  funext c; unfold zsr; split <;> rfl
theorem zsr_self (σ : SF) (q : Nat) (a : Nat → Int32) : zsr σ q a q = a := by simp [zsr]
theorem zsr_id (σ : SF) (q : Nat) : zsr σ q (σ q) = σ := by
  funext c; unfold zsr; split
  · rename_i h; rw [h]
  · rfl
theorem fill_loop {q nn : Nat} {v : Int32} (hn : nn < 2 ^ 31) : ∀ (m N i : Nat) (σ : SF), i + m = nn → m < N → L_J7_fill_53178_5 q nn v (nI nn) N (nI i) σ = some (nI nn, zsr σ q (rfrom (fun _ => v) (σ q) i nn)) := by
  intro m
  induction m with
  | zero =>
    intro N i σ hi hN
    obtain ⟨N, rfl⟩ : ∃ K, N = K + 1 := ⟨N - 1, by omega⟩
    have : i = nn := by omega
    subst this
    unfold L_J7_fill_53178_5
    rw [if_pos (nI_le (Nat.le_refl _) hn), rfrom_end (Nat.le_refl _), zsr_id]
  | succ m ih =>
    intro N i σ hi hN
    obtain ⟨N, rfl⟩ : ∃ K, N = K + 1 := ⟨N - 1, by omega⟩
    unfold L_J7_fill_53178_5
    rw [if_neg (nI_ge (by omega) hn)]
    simp only [zg, nq_zin1 (show i < nn by omega) hn, if_true, zl, nI_1, nI_clamp (show i < 2 ^ 31 by omega)]
    rw [ih N (i + 1) _ (by omega) (by omega)]
    unfold zst
    rw [zsr_zsr, zsr_self, rfrom_step (f := fun _ => v) (by omega)]
theorem F_fill_eq {q nn : Nat} {v : Int32} (hn : nn < 100) (σ : SF) : F_J7_fill_53178 σ q nn v = some (zsr σ q (rfrom (fun _ => v) (σ q) 0 nn)) := by
  unfold F_J7_fill_53178
  simp only [zl]
  rw [nl_0, fill_loop (by omega) nn 100 0 σ (by omega) hn]
  rfl
section FL2
variable {σ : SF} {j : Nat} {o t s d p r x : Nat → Int32}
theorem fl_r8 : zsr (fl σ j o t s d p r) (j + 8) x = fl σ j o t s d x r := by
  funext c; simp only [zsr, fl]; by_cases h : c = j + 8
  · simp [h]
  · simp [h]
theorem fl_r9 : zsr (fl σ j o t s d p r) (j + 9) x = fl σ j o t s d p x := by
  funext c; simp only [zsr, fl]; by_cases h : c = j + 9
  · simp [h]
  · simp [h]
end FL2
/-! places -/
def pfrom (P : List Nat) (p : Nat → Int32) (i : Nat) : Nat → Int32 := fun v => if v ∈ P.drop i then nI (P.length - 1 - P.idxOf v) else p v
theorem nd_drop {P : List Nat} (hn : P.Nodup) {i : Nat} (h : i < P.length) : P[i] ∉ P.drop (i + 1) ∧ P.idxOf P[i] = i := by
  have hm : P.idxOf P[i] < P.length := List.idxOf_lt_length_of_mem (List.getElem_mem h)
  refine ⟨fun q => ?_, (List.getElem_inj hn).mp (List.getElem_idxOf hm)⟩
  obtain ⟨k, hk, e⟩ := List.mem_iff_getElem.mp q
  rw [List.getElem_drop] at e
  have := (List.getElem_inj hn).mp e
  omega
theorem pfrom_step {P : List Nat} (hn : P.Nodup) {i : Nat} (h : i < P.length) (p : Nat → Int32) : pfrom P (upd p P[i] (nI (P.length - 1 - i))) (i + 1) = pfrom P p i := by
  obtain ⟨h1, h2⟩ := nd_drop hn h
  funext v
  unfold pfrom upd
  by_cases q : v = P[i]
  · subst q
    rw [if_neg h1, if_pos rfl, if_pos (by rw [List.drop_eq_getElem_cons h]; exact List.mem_cons_self), h2]
  · by_cases q2 : v ∈ P.drop (i + 1)
    · rw [if_pos q2, if_pos (by rw [List.drop_eq_getElem_cons h]; exact List.mem_cons_of_mem _ q2)]
    · rw [if_neg q2, if_neg q, if_neg (fun z => by rw [List.drop_eq_getElem_cons h] at z; exact (List.mem_cons.mp z).elim q q2)]
section PL
variable {σ : SF} {j : Nat} {o t s d0 r : Nat → Int32} {R : Nat} {P : List Nat}
theorem pl_loop (hn : P.Nodup) (h8 : P.length ≤ 8) (hx : ∀ v ∈ P, v < 8) : ∀ (m N i : Nat) (p : Nat → Int32), i + m = P.length → m < N →
    L_X0_look_31 j N (nI i) (fl σ j (o2 o R P.length) t s (lrow P d0) p r) = some (nI P.length, fl σ j (o2 o R P.length) t s (lrow P d0) (pfrom P p i) r) := by
  intro m
  induction m with
  | zero =>
    intro N i p hi hN
    obtain ⟨N, rfl⟩ : ∃ K, N = K + 1 := ⟨N - 1, by omega⟩
    have : i = P.length := by omega
    subst this
    unfold L_X0_look_31
    rw [fl_4, o2_6, if_pos (nI_le (Nat.le_refl _) (by omega))]
    have : pfrom P p P.length = p := by funext v; simp [pfrom]
    rw [this]
  | succ m ih =>
    intro N i p hi hN
    obtain ⟨N, rfl⟩ : ∃ K, N = K + 1 := ⟨N - 1, by omega⟩
    have hil : i < P.length := by omega
    have hv := hx _ (List.getElem_mem hil)
    unfold L_X0_look_31
    rw [fl_4, o2_6, if_neg (nI_ge hil (by omega))]
    simp only [zg, nq_zin1 (show i < 8 by omega) (by decide), if_true, zl, nI_1, nI_clamp (show i < 2 ^ 31 by omega), fl_7, lrow_at hil, nq_zin1 hv (by decide), nI_clamp (show P[i] < 2 ^ 31 by omega), fl_s8]
    have e1 : nI P.length - 1 - nI i = nI (P.length - 1 - i) := by rw [nl_1, pk_sub (by omega), pk_sub (by omega)]
    rw [e1, ih N (i + 1) _ (by omega) (by omega), pfrom_step hn hil]
end PL
/-! who dominates, as the class finds it -/
def dupd (D : Nat → Nat) (v x : Nat) : Nat → Nat := fun k => if k = v then x else D k
def drow (D : Nat → Nat) (r0 : Nat → Int32) : Nat → Int32 := fun k => if k < 8 then nI (D k) else r0 k
theorem drow_at {D : Nat → Nat} {r0 : Nat → Int32} {k : Nat} (h : k < 8) : drow D r0 k = nI (D k) := by simp [drow, h]
theorem drow_upd {D : Nat → Nat} {r0 : Nat → Int32} {v x : Nat} (h : v < 8) : upd (drow D r0) v (nI x) = drow (dupd D v x) r0 := by
  funext k
  unfold upd drow dupd
  by_cases q : k = v
  · subst q; simp [h]
  · simp [q]
def sval (g : Gr) (e : Nat) (D : Nat → Nat) (t : Nat) : Nat := D t &&& (D (e / 2) ||| 2 ^ t)
def strk (g : Gr) (e : Nat) (D : Nat → Nat) : Nat → Nat := match g e with
  | none => D
  | some t => dupd D t (sval g e D t)
def schg (g : Gr) (e : Nat) (D : Nat → Nat) : Bool := match g e with
  | none => false
  | some t => !decide (sval g e D t = D t)
def dok (D : Nat → Nat) : Prop := ∀ v, v < 8 → D v < 2 ^ 8
theorem dok_strk {g : Gr} {e : Nat} {D : Nat → Nat} (h : dok D) : dok (strk g e D) := by
  intro v hv
  unfold strk
  cases g e with
  | none => exact h v hv
  | some t =>
    show dupd D t (sval g e D t) v < 2 ^ 8
    unfold dupd
    split
    · rename_i q
      subst q
      exact Nat.lt_of_le_of_lt Nat.and_le_left (h v hv)
    · exact h v hv
section ST
variable {σ : SF} {j : Nat} {o t s d p r0 : Nat → Int32}
theorem strike_eq {g : Gr} (hg : gok g) (ht : ∀ e, e < 16 → t e = tv g e) {D : Nat → Nat} (hD : dok D) {v w : Nat} (hv : v < 8) (hw : w < 2) :
    F_X0_strikeBehind (fl σ j o t s d p (drow D r0)) j (nI v) (nI w) = some (if schg g (2 * v + w) D then 1 else 0, fl σ j o t s d p (drow (strk g (2 * v + w) D) r0)) := by
  unfold F_X0_strikeBehind
  have e1 : (2 : Int32) * nI v + nI w = nI (2 * v + w) := by rw [nl_2, pk_mul, nI_add]
  have h16 : 2 * v + w < 16 := by omega
  have hdv : (2 * v + w) / 2 = v := by omega
  simp only [zl, e1, zg, nq_zin1 h16 (by decide), if_true, nI_clamp (show 2 * v + w < 2 ^ 31 by omega), fl_5, ht _ h16]
  unfold tv schg strk
  cases hge : g (2 * v + w) with
  | none => simp
  | some x =>
    have hx8 := (hg _ _ hge).2
    simp only [nI_m1 (show x < 2 ^ 31 by omega), if_false, nq_zin1 hx8 (by decide), nq_zin1 hv (by decide), if_true, fl_9, nI_clamp (show x < 2 ^ 31 by omega), nI_clamp (show v < 2 ^ 31 by omega), drow_at hx8, drow_at hv]
    rw [nq_1 (show x < 31 by omega), fa_or, fa_and]
    have hs : D x &&& (D v ||| 2 ^ x) = sval g (2 * v + w) D x := by unfold sval; rw [hdv]
    have hl : sval g (2 * v + w) D x < 2 ^ 8 := Nat.lt_of_le_of_lt Nat.and_le_left (hD x hx8)
    rw [hs]
    have hDx := hD x hx8
    simp only [nI_eq (show sval g (2 * v + w) D x < 2 ^ 31 by omega) (show D x < 2 ^ 31 by omega), fl_s9, drow_upd hx8]
    by_cases q : sval g (2 * v + w) D x = D x
    · simp [q]
    · simp [q]
end ST
/-- some nodes' ends struck, from the k-th back -/
def rs (g : Gr) (P : List Nat) : Nat → Bool × (Nat → Nat) → Bool × (Nat → Nat)
  | 0, x => x
  | k + 1, x => rs g P k ((x.1 || schg g (2 * P.getD k 0) x.2) || schg g (2 * P.getD k 0 + 1) (strk g (2 * P.getD k 0) x.2), strk g (2 * P.getD k 0 + 1) (strk g (2 * P.getD k 0) x.2))
def ym : Nat → Int32
  | 0 => -1
  | k + 1 => nI k
def bI (b : Bool) : Int32 := if b then 1 else 0
theorem bI_or (a b : Bool) : bI a ||| (if b then 1 else 0) = bI (a || b) := by cases a <;> cases b <;> decide
theorem ym_dec (k : Nat) : nI k + (-1) = ym k := by
  cases k with
  | zero => decide
  | succ k => exact pk_m1 k
section RU
variable {σ : SF} {j : Nat} {o t s d0 p r0 : Nat → Int32} {R : Nat} {P : List Nat}
theorem rs_loop {g : Gr} (hg : gok g) (ht : ∀ e, e < 16 → t e = tv g e) (hx : ∀ v ∈ P, v < 8) (h8 : P.length ≤ 8) (y2 : Int32) : ∀ (k N : Nat) (x : Bool × (Nat → Nat)), k < N → k ≤ P.length → dok x.2 →
    L_X0_findRulers_75 j y2 N (bI x.1) (ym k) (fl σ j (o2 o R P.length) t s (lrow P d0) p (drow x.2 r0)) = some (bI (rs g P k x).1, -1, fl σ j (o2 o R P.length) t s (lrow P d0) p (drow (rs g P k x).2 r0)) ∧ dok (rs g P k x).2 := by
  intro k
  induction k with
  | zero =>
    intro N x hN hk hD
    obtain ⟨N, rfl⟩ : ∃ K, N = K + 1 := ⟨N - 1, by omega⟩
    unfold L_X0_findRulers_75
    rw [if_pos (by decide)]
    exact ⟨rfl, hD⟩
  | succ k ih =>
    intro N x hN hk hD
    obtain ⟨N, rfl⟩ : ∃ K, N = K + 1 := ⟨N - 1, by omega⟩
    have hkl : k < P.length := by omega
    have hv := hx _ (List.getElem_mem hkl)
    have hgd : P.getD k 0 = P[k] := by simp [hkl]
    have hD1 : dok (strk g (2 * P[k]) x.2) := dok_strk hD
    have hD2 : dok (strk g (2 * P[k] + 1) (strk g (2 * P[k]) x.2)) := dok_strk hD1
    have := ih N ((x.1 || schg g (2 * P[k]) x.2) || schg g (2 * P[k] + 1) (strk g (2 * P[k]) x.2), strk g (2 * P[k] + 1) (strk g (2 * P[k]) x.2)) (by omega) (by omega) hD2
    unfold rs
    rw [hgd]
    refine ⟨?_, this.2⟩
    rw [← this.1]
    conv => lhs; unfold L_X0_findRulers_75
    rw [show ym (k + 1) = nI k from rfl, if_neg (nI_pos (by omega))]
    simp only [zg, nq_zin1 (show k < 8 by omega) (by decide), if_true, fl_7, nI_clamp (show k < 2 ^ 31 by omega), lrow_at hkl]
    rw [nl_0, strike_eq hg ht hD hv (by decide)]
    simp only [zb2, zl, fl_7, lrow_at hkl]
    rw [nl_1, strike_eq hg ht (by simpa using hD1) hv (by decide)]
    simp only [Nat.add_zero]
    rw [← nl_1, bI_or, bI_or, ym_dec]
end RU
/-- how many bits are left -/
def mu (D : Nat → Nat) : Nat := fb_sm (fun v => pc (D v)) 8
theorem pc_and_le (a b : Nat) : pc (a &&& b) ≤ pc a := fb_ct_sub (fun k _ h => by rw [Nat.testBit_and, Bool.and_eq_true] at h; exact h.1)
theorem pc_and_lt {a b : Nat} (ha : a < 2 ^ 16) (h : a &&& b ≠ a) : pc (a &&& b) < pc a := by
  rcases Nat.lt_or_ge (pc (a &&& b)) (pc a) with q | q
  · exact q
  · exact absurd (pc_sub_eq (Nat.lt_of_le_of_lt Nat.and_le_left ha) ha (fun i hi => by rw [Nat.testBit_and, Bool.and_eq_true] at hi; exact hi.1) (Nat.le_antisymm (pc_and_le a b) q)) h
theorem mu_strk {g : Gr} (hg : gok g) {e : Nat} {D : Nat → Nat} (hD : dok D) : (schg g e D = false ∧ strk g e D = D) ∨ (schg g e D = true ∧ mu (strk g e D) < mu D) := by
  unfold schg strk
  cases hge : g e with
  | none => left; exact ⟨rfl, rfl⟩
  | some t =>
    have ht8 := (hg e t hge).2
    by_cases q : sval g e D t = D t
    · left
      refine ⟨by simp [q], ?_⟩
      funext k
      simp only [dupd]
      split
      · rename_i h; rw [h]; exact q
      · rfl
    · right
      refine ⟨by simp [q], ?_⟩
      unfold mu
      have e1 := fb_sm_upd (fun v => pc (D v)) (pc (sval g e D t)) (i := t) (n := 8) ht8
      have e2 : fb_sm (fun k => if k = t then pc (sval g e D t) else pc (D k)) 8 = fb_sm (fun v => pc (dupd D t (sval g e D t) v)) 8 := fb_sm_cong (fun k _ => by unfold dupd; split <;> rfl)
      rw [e2] at e1
      have hlt : pc (sval g e D t) < pc (D t) := pc_and_lt (lt816 (hD t ht8)) q
      change fb_sm (fun v => pc (dupd D t (sval g e D t) v)) 8 + pc (D t) = fb_sm (fun v => pc (D v)) 8 + pc (sval g e D t) at e1
      show fb_sm (fun v => pc (dupd D t (sval g e D t) v)) 8 < fb_sm (fun v => pc (D v)) 8
      omega
/-- an end that strikes nothing -/
def stl (g : Gr) (e : Nat) (D : Nat → Nat) : Prop := ∀ t, g e = some t → sval g e D t = D t
theorem schg_stl {g : Gr} {e : Nat} {D : Nat → Nat} (h : schg g e D = false) : stl g e D := by
  intro t ht
  unfold schg at h
  rw [ht] at h
  simpa using h
theorem rs_mu {g : Gr} (hg : gok g) (P : List Nat) : ∀ (k : Nat) (x : Bool × (Nat → Nat)), dok x.2 → k ≤ P.length →
    ((rs g P k x).1 = false → x.1 = false ∧ (rs g P k x).2 = x.2 ∧ ∀ i, i < k → stl g (2 * P.getD i 0) x.2 ∧ stl g (2 * P.getD i 0 + 1) x.2) ∧ mu (rs g P k x).2 ≤ mu x.2 ∧ ((rs g P k x).1 = true → x.1 = true ∨ mu (rs g P k x).2 < mu x.2) := by
  intro k
  induction k with
  | zero => intro x _ _; exact ⟨fun h => ⟨h, rfl, fun i hi => absurd hi (by omega)⟩, Nat.le_refl _, fun h => Or.inl h⟩
  | succ k ih =>
    intro x hD hk
    have hD1 : dok (strk g (2 * P.getD k 0) x.2) := dok_strk hD
    have hD2 : dok (strk g (2 * P.getD k 0 + 1) (strk g (2 * P.getD k 0) x.2)) := dok_strk hD1
    obtain ⟨i1, i2, i3⟩ := ih ((x.1 || schg g (2 * P.getD k 0) x.2) || schg g (2 * P.getD k 0 + 1) (strk g (2 * P.getD k 0) x.2), strk g (2 * P.getD k 0 + 1) (strk g (2 * P.getD k 0) x.2)) hD2 (by omega)
    unfold rs
    have m1 := mu_strk hg (e := 2 * P.getD k 0) hD
    have m2 := mu_strk hg (e := 2 * P.getD k 0 + 1) hD1
    simp only at i1 i2 i3
    have h1 : mu (strk g (2 * P.getD k 0) x.2) ≤ mu x.2 := m1.elim (fun z => by rw [z.2]; exact Nat.le_refl _) (fun z => Nat.le_of_lt z.2)
    have h2 : mu (strk g (2 * P.getD k 0 + 1) (strk g (2 * P.getD k 0) x.2)) ≤ mu (strk g (2 * P.getD k 0) x.2) := m2.elim (fun z => by rw [z.2]; exact Nat.le_refl _) (fun z => Nat.le_of_lt z.2)
    refine ⟨fun h => ?_, ?_, fun h => ?_⟩
    · obtain ⟨a1, a2, a3⟩ := i1 h
      simp only [Bool.or_eq_false_iff] at a1
      obtain ⟨⟨b1, b2⟩, b3⟩ := a1
      have c1 : strk g (2 * P.getD k 0) x.2 = x.2 := m1.elim (fun z => z.2) (fun z => by rw [b2] at z; cases z.1)
      have c2 : strk g (2 * P.getD k 0 + 1) (strk g (2 * P.getD k 0) x.2) = strk g (2 * P.getD k 0) x.2 := m2.elim (fun z => z.2) (fun z => by rw [b3] at z; cases z.1)
      refine ⟨b1, by rw [a2, c2, c1], fun i hi => ?_⟩
      by_cases q : i = k
      · subst q
        refine ⟨schg_stl b2, ?_⟩
        rw [c1] at b3
        exact schg_stl b3
      · have := a3 i (by omega)
        rw [c2, c1] at this
        exact this
    · omega
    · rcases i3 h with q | q
      · simp only [Bool.or_eq_true] at q
        rcases q with (q | q) | q
        · exact Or.inl q
        · right
          have hz : mu (strk g (2 * P.getD k 0) x.2) < mu x.2 := m1.elim (fun z => by rw [q] at z; cases z.1) (fun z => z.2)
          omega
        · right
          have hy : mu (strk g (2 * P.getD k 0 + 1) (strk g (2 * P.getD k 0) x.2)) < mu (strk g (2 * P.getD k 0) x.2) := m2.elim (fun z => by rw [q] at z; cases z.1) (fun z => z.2)
          omega
      · right; omega
