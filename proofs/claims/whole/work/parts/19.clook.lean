def dini (P : List Nat) (R : Nat) (D : Nat → Nat) (i : Nat) : Nat → Nat := fun v => if v ∈ P.drop i then (if v = 0 then 1 else R) else D v
theorem dini_step {P : List Nat} (hn : P.Nodup) {i : Nat} (h : i < P.length) (R : Nat) (D : Nat → Nat) : dini P R (dupd D P[i] (if P[i] = 0 then 1 else R)) (i + 1) = dini P R D i := by
  obtain ⟨h1, h2⟩ := nd_drop hn h
  funext v
  unfold dini dupd
  by_cases q : v = P[i]
  · subst q
    have hm : P[i] ∈ P.drop i := by rw [List.drop_eq_getElem_cons h]; exact List.mem_cons_self
    simp only [if_neg h1, if_pos hm, if_true]
  · by_cases q2 : v ∈ P.drop (i + 1)
    · have hm : v ∈ P.drop i := by rw [List.drop_eq_getElem_cons h]; exact List.mem_cons_of_mem _ q2
      simp only [if_pos q2, if_pos hm]
    · rw [if_neg q2, if_neg q, if_neg (fun z => by rw [List.drop_eq_getElem_cons h] at z; exact (List.mem_cons.mp z).elim q q2)]
section RI
variable {σ : SF} {j : Nat} {o t s d0 p r0 : Nat → Int32} {R : Nat} {P : List Nat}
theorem ri_loop (hn : P.Nodup) (h8 : P.length ≤ 8) (hx : ∀ v ∈ P, v < 8) : ∀ (m N i : Nat) (D : Nat → Nat), i + m = P.length → m < N →
    L_X0_findRulers_10 j N (nI i) (fl σ j (o2 o R P.length) t s (lrow P d0) p (drow D r0)) = some (nI P.length, fl σ j (o2 o R P.length) t s (lrow P d0) p (drow (dini P R D i) r0)) := by
  intro m
  induction m with
  | zero =>
    intro N i D hi hN
    obtain ⟨N, rfl⟩ : ∃ K, N = K + 1 := ⟨N - 1, by omega⟩
    have : i = P.length := by omega
    subst this
    unfold L_X0_findRulers_10
    rw [fl_4, o2_6, if_pos (nI_le (Nat.le_refl _) (by omega))]
    have : dini P R D P.length = D := by funext v; simp [dini]
    rw [this]
  | succ m ih =>
    intro N i D hi hN
    obtain ⟨N, rfl⟩ : ∃ K, N = K + 1 := ⟨N - 1, by omega⟩
    have hil : i < P.length := by omega
    have hv := hx _ (List.getElem_mem hil)
    unfold L_X0_findRulers_10
    rw [fl_4, o2_6, if_neg (nI_ge hil (by omega))]
    simp only [zg, nq_zin1 (show i < 8 by omega) (by decide), if_true, zl, nI_1, nI_clamp (show i < 2 ^ 31 by omega), fl_7, lrow_at hil, nq_zin1 hv (by decide), nI_clamp (show P[i] < 2 ^ 31 by omega), fl_s9, o2_7]
    by_cases q : P[i] = 0
    · rw [if_pos (by rw [q]; rfl), nl_1, drow_upd hv, ih N (i + 1) _ (by omega) (by omega)]
      rw [← dini_step hn hil R D, if_pos q]
    · rw [if_neg (show ¬ nI P[i] = 0 from fun z => q ((nI_eq (b := 0) (by omega) (by decide)).mp z)), drow_upd hv, ih N (i + 1) _ (by omega) (by omega)]
      rw [← dini_step hn hil R D, if_neg q]
end RI
/-- what holds while bits are struck -/
def dinv (g : Gr) (D : Nat → Nat) : Prop := D 0 = 1 ∧ (∀ v a, Dm g a v → (D v).testBit a = true) ∧ ∀ v a, v < 8 → (D v).testBit a = true → Rch g 99 a ∧ Rch g 99 v
theorem sval_tb (g : Gr) (e : Nat) (D : Nat → Nat) (t a : Nat) : (sval g e D t).testBit a = ((D t).testBit a && ((D (e / 2)).testBit a || decide (t = a))) := by
  unfold sval
  rw [Nat.testBit_and, Nat.testBit_or, nq_two]
theorem dinv_strk {g : Gr} (hg : gok g) {e : Nat} {D : Nat → Nat} (h : dinv g D) (he : Rch g 99 (e / 2)) : dinv g (strk g e D) := by
  unfold strk
  cases hge : g e with
  | none => exact h
  | some t =>
    obtain ⟨h1, h2, h3⟩ := h
    refine ⟨?_, fun v a hv => ?_, fun v a hv ha => ?_⟩
    · show dupd D t (sval g e D t) 0 = 1
      unfold dupd
      split
      · rename_i q
        subst q
        apply Nat.eq_of_testBit_eq
        intro i
        rw [sval_tb, h1]
        have : (1 : Nat).testBit i = decide (0 = i) := nq_two 0 i
        rw [this]
        cases decide (0 = i) <;> simp
      · exact h1
    · show (dupd D t (sval g e D t) v).testBit a = true
      unfold dupd
      split
      · rename_i q
        subst q
        rw [sval_tb, h2 v a hv]
        by_cases q : v = a
        · simp [q]
        · have := h2 _ _ (Dm.pred hv (Ne.symm q) hge he)
          simp [this]
      · exact h2 v a hv
    · have ha : (dupd D t (sval g e D t) v).testBit a = true := ha
      unfold dupd at ha
      split at ha
      · rename_i q
        subst q
        rw [sval_tb, Bool.and_eq_true] at ha
        exact h3 v a hv ha.1
      · exact h3 v a hv ha
theorem dinv_rs {g : Gr} (hg : gok g) {P : List Nat} (hP : ∀ v ∈ P, Rch g 99 v) : ∀ (k : Nat) (x : Bool × (Nat → Nat)), k ≤ P.length → dinv g x.2 → dinv g (rs g P k x).2 := by
  intro k
  induction k with
  | zero => intro x _ h; exact h
  | succ k ih =>
    intro x hk h
    have hkl : k < P.length := by omega
    have hgd : P.getD k 0 = P[k] := by simp [hkl]
    have hr := hP _ (List.getElem_mem hkl)
    unfold rs
    refine ih _ (by omega) ?_
    rw [hgd]
    exact dinv_strk hg (dinv_strk hg h (by rw [show 2 * P[k] / 2 = P[k] by omega]; exact hr)) (by rw [show (2 * P[k] + 1) / 2 = P[k] by omega]; exact hr)
theorem pc_le8 {M : Nat} (h : M < 2 ^ 8) : pc M ≤ 8 := by
  unfold pc
  have e := fb_ct_split (fun i => M.testBit i) 8 8
  have z : fb_ct (fun k => M.testBit (8 + k)) 8 = 0 := fb_ct_zero.mpr (fun k _ => nq_tb h (by omega))
  have l := fb_ct_le (fun i => M.testBit i) 8
  have e' : fb_ct (fun i => M.testBit i) 16 = fb_ct (fun i => M.testBit i) 8 + fb_ct (fun k => M.testBit (8 + k)) 8 := e
  omega
theorem mu_le {D : Nat → Nat} (h : dok D) : mu D ≤ 64 := fb_sm_bound (c := 8) (fun k hk => pc_le8 (h k hk))
section RO
variable {σ : SF} {j : Nat} {o t s d0 p r0 : Nat → Int32} {R : Nat} {P : List Nat}
theorem ym_len (h : 0 < P.length) : nI P.length - 1 = ym P.length := by
  obtain ⟨k, hk⟩ : ∃ k, P.length = k + 1 := ⟨P.length - 1, by omega⟩
  rw [hk]; exact nI_pred k
theorem ro_loop {g : Gr} (hg : gok g) (ht : ∀ e, e < 16 → t e = tv g e) (hx : ∀ v ∈ P, v < 8 ∧ Rch g 99 v) (h8 : P.length ≤ 8) (h0 : 0 < P.length) : ∀ (m N rd : Nat) (D : Nat → Nat), mu D ≤ m → rd + mu D ≤ 64 → m + 2 ≤ N → dok D → dinv g D →
    ∃ (D' : Nat → Nat) (y1 y2 : Int32), L_X0_findRulers_56 j N 1 (nI rd) (fl σ j (o2 o R P.length) t s (lrow P d0) p (drow D r0)) = some (y1, y2, fl σ j (o2 o R P.length) t s (lrow P d0) p (drow D' r0)) ∧ dok D' ∧ dinv g D' ∧ ∀ i, i < P.length → stl g (2 * P.getD i 0) D' ∧ stl g (2 * P.getD i 0 + 1) D' := by
  intro m
  induction m with
  | zero =>
    intro N rd D hm hr hN hD hi
    obtain ⟨N, rfl⟩ : ∃ K, N = K + 2 := ⟨N - 2, by omega⟩
    have hl := rs_loop (σ := σ) (j := j) (o := o) (s := s) (d0 := d0) (p := p) (r0 := r0) (R := R) (P := P) hg ht (fun v hv => (hx v hv).1) h8 (nI rd) P.length 100 (false, D) (by omega) (Nat.le_refl _) hD
    have hmu := rs_mu hg P P.length (false, D) hD (Nat.le_refl _)
    have hb : (rs g P P.length (false, D)).1 = false := by
      cases hq : (rs g P P.length (false, D)).1 with
      | false => rfl
      | true =>
        rcases hmu.2.2 hq with z | z
        · cases z
        · simp only at z; omega
    obtain ⟨-, e2, e3⟩ := hmu.1 hb
    refine ⟨D, 0, nI (rd + 1), ?_, hD, hi, e3⟩
    unfold L_X0_findRulers_56
    rw [if_neg (by decide), if_neg (by rw [show (64 : Int32) = nI 64 from rfl]; exact nI_nlt (by omega) (by decide))]
    simp only [zl, fl_4, o2_6]
    rw [ym_len h0, show (0 : Int32) = bI false from rfl, hl.1]
    simp only [zb3, nI_1]
    rw [hb, e2]
    unfold L_X0_findRulers_56
    rw [if_pos (by rfl)]
  | succ m ih =>
    intro N rd D hm hr hN hD hi
    obtain ⟨N, rfl⟩ : ∃ K, N = K + 2 := ⟨N - 2, by omega⟩
    have hl := rs_loop (σ := σ) (j := j) (o := o) (s := s) (d0 := d0) (p := p) (r0 := r0) (R := R) (P := P) hg ht (fun v hv => (hx v hv).1) h8 (nI rd) P.length 100 (false, D) (by omega) (Nat.le_refl _) hD
    have hmu := rs_mu hg P P.length (false, D) hD (Nat.le_refl _)
    have hiv := dinv_rs hg (fun v hv => (hx v hv).2) P.length (false, D) (Nat.le_refl _) hi
    unfold L_X0_findRulers_56
    rw [if_neg (by decide), if_neg (by rw [show (64 : Int32) = nI 64 from rfl]; exact nI_nlt (by omega) (by decide))]
    simp only [zl, fl_4, o2_6]
    rw [ym_len h0, show (0 : Int32) = bI false from rfl, hl.1]
    simp only [zb3, nI_1]
    cases hb : (rs g P P.length (false, D)).1 with
    | false =>
      obtain ⟨-, e2, e3⟩ := hmu.1 hb
      refine ⟨D, 0, nI (rd + 1), ?_, hD, hi, e3⟩
      rw [e2]
      unfold L_X0_findRulers_56
      rw [if_pos (by rfl)]
      rfl
    | true =>
      have hlt : mu (rs g P P.length (false, D)).2 < mu D := (hmu.2.2 hb).elim (fun z => by cases z) id
      obtain ⟨D', y1, y2, a1, a2⟩ := ih (N + 1) (rd + 1) (rs g P P.length (false, D)).2 (by omega) (by omega) (by omega) hl.2 hiv
      exact ⟨D', y1, y2, a1, a2⟩
end RO
theorem dk_of {g : Gr} (hg : gok g) {D : Nat → Nat} (hD : dok D) (hi : dinv g D) (hs : ∀ e t, g e = some t → Rch g 99 (e / 2) → sval g e D t = D t) : ∀ v, v < 8 → D v = dk g v := by
  intro v hv
  refine dk_uniq hg (hD v hv) (fun a _ => ⟨fun h => ?_, fun h => hi.2.1 v a h⟩)
  obtain ⟨h1, h2⟩ := hi.2.2 v a hv h
  refine ⟨h1, h2, fun q => ?_⟩
  have : (D v).testBit a = false := q.ind (fun v => (D v).testBit a = false) (fun z => by
      rw [hi.1]
      have : (1 : Nat).testBit a = decide (0 = a) := nq_two 0 a
      rw [this]; simp [Ne.symm z]) (fun e t he hr hv ht => by
      have e1 := hs e t he (hr.all hg)
      rw [← e1, sval_tb, hv]
      simp [ht])
  rw [this] at h
  cases h
/-! the edges -/
/-- a live edge, and where it leads -/
def lvE (g : Gr) (e : Nat) : Option Nat := if e / 2 ∈ po g then g e else none
abbrev T6 : Type := Nat × Nat × Nat × Nat × Nat × Nat
noncomputable def wst (g : Gr) (e : Nat) (x : T6) : T6 := match lvE g e with
  | none => x
  | some t => if pl g (e / 2) < pl g t then (x.1 + 1, x.2.1, x.2.2.1, x.2.2.2.1, x.2.2.2.2.1 ||| (x.2.2.2.2.2 &&& 2 ^ t), x.2.2.2.2.2 ||| 2 ^ t)
    else if (dk g (e / 2)).testBit t = true then (x.1 + 1, x.2.1 + 1, x.2.2.1, x.2.2.2.1 ||| 2 ^ t, x.2.2.2.2.1, x.2.2.2.2.2)
    else (x.1 + 1, x.2.1, x.2.2.1 + 1, x.2.2.2.1, x.2.2.2.2.1, x.2.2.2.2.2)
/-- of the first k edges: how many, BACK, BAD; heads, merges, led to -/
noncomputable def wa (g : Gr) : Nat → T6
  | 0 => (0, 0, 0, 0, 0, 0)
  | k + 1 => wst g k (wa g k)
/-- an edge's state, as it is told -/
noncomputable def sv (g : Gr) (e : Nat) : Int32 := match lvE g e with
  | none => -1
  | some t => if pl g (e / 2) < pl g t then 0 else if (dk g (e / 2)).testBit t = true then 1 else 2
def o5 (o : Nat → Int32) (x : T6) : Nat → Int32 := fun k => if k = 8 then nI x.1 else if k = 9 then nI x.2.1 else if k = 10 then nI x.2.2.1 else if k = 11 then nI x.2.2.2.1 else if k = 12 then nI x.2.2.2.2.1 else o k
theorem o5_7 (o : Nat → Int32) (x : T6) : o5 o x 7 = o 7 := rfl
theorem o5_6 (o : Nat → Int32) (x : T6) : o5 o x 6 = o 6 := rfl
section WE
variable {σ : SF} {j : Nat} {o t s d p r : Nat → Int32}
theorem we_step {g : Gr} (hg : gok g) (ht : ∀ e, e < 16 → t e = tv g e) (hr : o 7 = nI (rr g)) (hp : ∀ v, v < 8 → v ∈ po g → p v = nI (pl g v)) (hd : ∀ v, v < 8 → r v = nI (dk g v)) {N e : Nat} (he : e < 16) (x : T6) :
    L_X0_weighEdges_29 j (N + 1) (nI x.2.2.2.2.2) (nI e) (fl σ j (o5 o x) t s d p r) = L_X0_weighEdges_29 j N (nI (wst g e x).2.2.2.2.2) (nI (e + 1)) (fl σ j (o5 o (wst g e x)) t (upd s e (sv g e)) d p r) := by
  conv => lhs; unfold L_X0_weighEdges_29
  rw [if_neg (by rw [nl_16]; exact nI_ge he (by decide))]
  have hdv : nI e / 2 = nI (e / 2) := pk_div (d := 2) (by omega) (by decide) (by decide)
  have hmem : (rr g).testBit (e / 2) = decide (e / 2 ∈ po g) := (po_ok hg).1 _
  have hrr := rr_lt hg
  simp only [zl, hdv, zg, nq_zin1 he (by decide), if_true, nI_clamp (show e < 2 ^ 31 by omega), fl_5, ht e he, fl_s6, fl_4, o5_7, hr, nI_1]
  unfold tv wst sv lvE
  cases hge : g e with
  | none => simp
  | some y =>
    have hy8 := (hg e y hge).2
    have he8 : e / 2 < 8 := by omega
    simp only [nI_m1 (show y < 2 ^ 31 by omega), if_false, nq_bit0 (show rr g < 2 ^ 31 by omega) (show e / 2 < 31 by omega), hmem]
    by_cases hm : e / 2 ∈ po g
    · have hym : y ∈ po g := (po_ok hg).2.2.2.2.2 _ hm e y hge rfl
      have hpl1 : pl g y < 2 ^ 31 := by unfold pl; have := po_len hg; omega
      have hpl2 : pl g (e / 2) < 2 ^ 31 := by unfold pl; have := po_len hg; omega
      have hdk := dk_lt g (e / 2)
      simp only [hm, decide_true, Bool.true_eq_false, if_false, if_true, fl_s4, fl_8, fl_9, fl_4, nq_zin1 hy8 (by decide), nq_zin1 he8 (by decide), nI_clamp (show y < 2 ^ 31 by omega), nI_clamp (show e / 2 < 2 ^ 31 by omega), hp y hy8 hym, hp _ he8 hm, hd _ he8, nq_1 (show y < 31 by omega)]
      by_cases q : pl g (e / 2) < pl g y
      · rw [if_neg (nI_ge q hpl1)]
        simp only [if_pos q, fl_s6, fl_s4, fl_4]
        have e1 : upd (upd s e (-1)) e 0 = upd s e 0 := fa_upd_twice _ _ _ _
        rw [fa_and, fa_or, e1]
        congr 2
        funext k
        unfold upd o5
        by_cases h8 : k = 8
        · subst h8; simp [nI_1]
        · by_cases h12 : k = 12
          · subst h12; simp [fa_or]
          · simp [h8, h12]
      · rw [if_pos (nI_le (by omega) hpl2)]
        simp only [if_neg q, fa_bit (show y < 31 by omega)]
        by_cases q2 : (dk g (e / 2)).testBit y = true
        · simp only [q2, Bool.true_eq_false, if_false, if_true, fl_s6, fl_s4, fl_4]
          have e1 : upd (upd s e (-1)) e 1 = upd s e 1 := fa_upd_twice _ _ _ _
          rw [e1]
          congr 2
          funext k
          unfold upd o5
          by_cases h8 : k = 8
          · subst h8; simp [nI_1]
          · by_cases h9 : k = 9
            · subst h9; simp [nI_1]
            · by_cases h11 : k = 11
              · subst h11; simp [fa_or]
              · simp [h8, h9, h11]
        · have q3 : (dk g (e / 2)).testBit y = false := by simpa using q2
          simp only [q3, Bool.false_eq_true, if_false, if_true, fl_s6, fl_s4, fl_4]
          have e1 : upd (upd s e (-1)) e 2 = upd s e 2 := fa_upd_twice _ _ _ _
          rw [e1]
          congr 2
          funext k
          unfold upd o5
          by_cases h8 : k = 8
          · subst h8; simp [nI_1]
          · by_cases h10 : k = 10
            · subst h10; simp [nI_1]
            · simp [h8, h10]
    · simp [hm]
theorem we_loop {g : Gr} (hg : gok g) (ht : ∀ e, e < 16 → t e = tv g e) (hr : o 7 = nI (rr g)) (hp : ∀ v, v < 8 → v ∈ po g → p v = nI (pl g v)) (hd : ∀ v, v < 8 → r v = nI (dk g v)) : ∀ (m N e : Nat) (s : Nat → Int32), e + m = 16 → m < N →
    L_X0_weighEdges_29 j N (nI (wa g e).2.2.2.2.2) (nI e) (fl σ j (o5 o (wa g e)) t s d p r) = some (nI (wa g 16).2.2.2.2.2, nI 16, fl σ j (o5 o (wa g 16)) t (rfrom (sv g) s e 16) d p r) := by
  intro m
  induction m with
  | zero =>
    intro N e s he hN
    obtain ⟨N, rfl⟩ : ∃ K, N = K + 1 := ⟨N - 1, by omega⟩
    have : e = 16 := by omega
    subst this
    unfold L_X0_weighEdges_29
    rw [if_pos (by decide), rfrom_end (Nat.le_refl _)]
  | succ m ih =>
    intro N e s he hN
    obtain ⟨N, rfl⟩ : ∃ K, N = K + 1 := ⟨N - 1, by omega⟩
    rw [we_step hg ht hr hp hd (by omega), ← rfrom_step (f := sv g) (t := s) (show e < 16 by omega)]
    exact ih N (e + 1) _ (by omega) (by omega)
end WE
/-- what the class keeps of a graph that it has looked at -/
def FlowIs (σ : SF) (j : Nat) (g : Gr) : Prop :=
  (∀ e, e < 16 → σ (j + 6) e = sv g e) ∧ σ (j + 4) 6 = nI (po g).length ∧ (∀ i (h : i < (po g).length), σ (j + 7) i = nI (po g)[i]) ∧ (∀ v, v < 8 → σ (j + 8) v = if v ∈ po g then nI (pl g v) else -1) ∧ (∀ v, v < 8 → σ (j + 9) v = nI (dk g v)) ∧
  σ (j + 4) 8 = nI (wa g 16).1 ∧ σ (j + 4) 9 = nI (wa g 16).2.1 ∧ σ (j + 4) 10 = nI (wa g 16).2.2.1 ∧ σ (j + 4) 11 = nI (wa g 16).2.2.2.1 ∧ σ (j + 4) 12 = nI (wa g 16).2.2.2.2.1
theorem look_ok {σ : SF} {j n W : Nat} {kd f0 f1 : Nat → Nat} (hJ : JIs σ j n kd f0 f1) (hw : gwf n kd f0 f1) (h0 : 0 < n) (hW : W < 2 ^ 16) :
    ∃ o t s d p r, F_X0_look σ j (nI W) = some (fl σ j o t s d p r) ∧ FlowIs (fl σ j o t s d p r) j (mkG n kd f0 f1 W) := by
  have hg := mkG_ok hw W
  have hgn : ∀ e w, mkG n kd f0 f1 W e = some w → w < n := by
    intro e t he
    unfold mkG at he
    split at he
    · rename_i q
      cases he
      have h1 := hw.2 _ q.1
      unfold tgt
      split <;> omega
    · cases he
  have hn := hw.1
  obtain ⟨p1, p2, p3, p4, p5, p6⟩ := po_ok hg
  have hlen := po_len hg
  have hpos : 0 < (po (mkG n kd f0 f1 W)).length := List.length_pos_of_mem p5
  have ht : ∀ t0 : Nat → Int32, ∀ e, e < 16 → rfrom (tv (mkG n kd f0 f1 W)) t0 0 16 e = tv (mkG n kd f0 f1 W) e := fun t0 e he => by unfold rfrom; rw [if_pos ⟨Nat.zero_le _, he⟩]
  generalize hgg : mkG n kd f0 f1 W = g at *
  have hpo : (dfs g 8 0 (0, [])).2 = po g := rfl
  have hrr : (dfs g 8 0 (0, [])).1 = rr g := rfl
  -- the rounds
  have hD0 : dok (dini (po g) (rr g) (fun _ => 0) 0) := by
    intro v hv
    unfold dini
    have := rr_lt hg
    split
    · split <;> omega
    · exact Nat.two_pow_pos 8
  have hi0 : dinv g (dini (po g) (rr g) (fun _ => 0) 0) := by
    refine ⟨?_, fun v a hva => ?_, fun v a hv ha => ?_⟩
    · unfold dini; simp [p5]
    · unfold dini
      have hv : v ∈ po g := (mem_po hg).mpr hva.2.1
      simp only [List.drop_zero, if_pos hv]
      by_cases q : v = 0
      · subst q
        have := Dm.anti hg hva (Dm.zero hva.1)
        subst this
        simp
      · rw [if_neg q, p1]
        simpa using (mem_po hg).mpr hva.1
    · unfold dini at ha
      simp only [List.drop_zero] at ha
      split at ha
      · rename_i hm
        refine ⟨?_, (p2 v hm).2⟩
        split at ha
        · have : (1 : Nat).testBit a = decide (0 = a) := nq_two 0 a
          rw [this] at ha
          have : 0 = a := by simpa using ha
          subst this
          exact Rch.zero (by decide)
        · rw [p1] at ha
          exact (mem_po hg).mp (by simpa using ha)
      · simp at ha
  have hmu := mu_le hD0
  obtain ⟨D', y1, y2, ho, hD', hi', hs'⟩ := ro_loop (σ := σ) (j := j) (o := σ (j + 4)) (t := rfrom (tv g) (σ (j + 5)) 0 16) (s := σ (j + 6)) (d0 := σ (j + 7)) (p := pfrom (po g) (rfrom (fun _ => -1) (σ (j + 8)) 0 8) 0) (r0 := σ (j + 9)) (R := rr g) (P := po g) hg (ht _) p2 hlen hpos 64 100 0 _ hmu (by omega) (by decide) hD0 hi0
  have hdk : ∀ v, v < 8 → D' v = dk g v := dk_of hg hD' hi' (fun e t he hr => by
    obtain ⟨i, hi, e1⟩ := List.mem_iff_getElem.mp ((mem_po hg).mpr hr)
    have hgd : (po g).getD i 0 = e / 2 := by simp [hi, e1]
    have := hs' i hi
    rw [hgd] at this
    have : e = 2 * (e / 2) ∨ e = 2 * (e / 2) + 1 := by omega
    rename_i h12
    rcases this with q | q
    · rw [q]; exact h12.1 t (by rw [← q]; exact he)
    · have h2 := h12.2 t (by rw [← q]; exact he)
      rw [← q] at h2; exact h2)
  have hp : ∀ v, v < 8 → v ∈ po g → pfrom (po g) (rfrom (fun _ => -1) (σ (j + 8)) 0 8) 0 v = nI (pl g v) := fun v _ hm => by
    unfold pfrom
    rw [List.drop_zero, if_pos hm]
    rfl
  have hd : ∀ v, v < 8 → drow D' (σ (j + 9)) v = nI (dk g v) := fun v hv => by rw [drow_at hv, hdk v hv]
  have hwl := we_loop (σ := σ) (j := j) (o := o2 (σ (j + 4)) (rr g) (po g).length) (t := rfrom (tv g) (σ (j + 5)) 0 16) (d := lrow (po g) (σ (j + 7))) (p := pfrom (po g) (rfrom (fun _ => -1) (σ (j + 8)) 0 8) 0) (r := drow D' (σ (j + 9))) hg (ht _) rfl hp hd 16 100 0 (σ (j + 6)) (by omega) (by decide)
  refine ⟨o5 (o2 (σ (j + 4)) (rr g) (po g).length) (wa g 16), rfrom (tv g) (σ (j + 5)) 0 16, rfrom (sv g) (σ (j + 6)) 0 16, lrow (po g) (σ (j + 7)), pfrom (po g) (rfrom (fun _ => -1) (σ (j + 8)) 0 8) 0, drow D' (σ (j + 9)), ?_, ?_⟩
  · unfold F_X0_look
    rw [show F_X0_findTargets σ j (nI W) = some (fl σ j (σ (j + 4)) (rfrom (tv g) (σ (j + 5)) 0 16) (σ (j + 6)) (σ (j + 7)) (σ (j + 8)) (σ (j + 9))) from by
      rw [← hgg, ← F_findTargets_eq hJ hw hW, fl_self]]
    simp only [zb, zl, fl_s4]
    rw [show fl σ j (upd (upd (σ (j + 4)) 7 0) 6 0) (rfrom (tv g) (σ (j + 5)) 0 16) (σ (j + 6)) (σ (j + 7)) (σ (j + 8)) (σ (j + 9)) = dst σ j (σ (j + 4)) (rfrom (tv g) (σ (j + 5)) 0 16) (σ (j + 6)) (σ (j + 7)) (σ (j + 8)) (σ (j + 9)) (0, []) from by unfold dst; rw [lrow_nil]; rfl]
    have hdn := dn_ok (σ := σ) (j := j) (o := σ (j + 4)) (s := σ (j + 6)) (d0 := σ (j + 7)) (p := σ (j + 8)) (r := σ (j + 9)) hg hJ.1 hn hgn (ht (σ (j + 5))) 8 9 0 0 (0, []) (by decide) h0 (by simp) (by decide) (ub_le _) (by have := ub_le 0; simpa using this) (by have := ub_le 0; simpa using this)
    rw [show (0 : Int32) = nI 0 from rfl, hdn]
    simp only [zb]
    rw [F_fill_eq (by decide)]
    simp only [zb]
    unfold dst
    rw [fl_8, fl_r8, hpo, hrr, pl_loop p3 hlen (fun v hv => (p2 v hv).1) (po g).length 100 0 _ (by omega) (by omega)]
    simp only [zb2]
    unfold F_X0_findRulers
    rw [F_fill_eq (by decide)]
    simp only [zb]
    rw [fl_9, fl_r9, show rfrom (fun _ => (0 : Int32)) (σ (j + 9)) 0 8 = drow (fun _ => 0) (σ (j + 9)) from by funext k; simp [rfrom, drow, nI_0]]
    rw [show L_X0_findRulers_10 j 100 0 = L_X0_findRulers_10 j 100 (nI 0) from rfl, ri_loop p3 hlen (fun v hv => (p2 v hv).1) (po g).length 100 0 _ (by omega) (by omega)]
    simp only [zb2]
    rw [show L_X0_findRulers_56 j 100 1 0 = L_X0_findRulers_56 j 100 1 (nI 0) from rfl, ho]
    simp only [zb3]
    unfold F_X0_weighEdges
    simp only [zl, fl_s4]
    rw [show upd (upd (upd (upd (upd (o2 (σ (j + 4)) (rr g) (po g).length) 8 0) 9 0) 10 0) 11 0) 12 0 = o5 (o2 (σ (j + 4)) (rr g) (po g).length) (wa g 0) from by
      funext k
      unfold upd o5 wa
      by_cases h12 : k = 12
      · subst h12; rfl
      · by_cases h11 : k = 11
        · subst h11; rfl
        · by_cases h10 : k = 10
          · subst h10; rfl
          · by_cases h9 : k = 9
            · subst h9; rfl
            · by_cases h8 : k = 8
              · subst h8; rfl
              · simp [h8, h9, h10, h11, h12]]
    rw [show (L_X0_weighEdges_29 j 100 0 0 = L_X0_weighEdges_29 j 100 (nI (wa g 0).2.2.2.2.2) (nI 0)) from rfl, hwl]
    rfl
  · refine ⟨fun e he => ?_, ?_, fun i h => ?_, fun v hv => ?_, fun v hv => ?_, ?_, ?_, ?_, ?_, ?_⟩
    · rw [fl_6]; unfold rfrom; rw [if_pos ⟨Nat.zero_le _, he⟩]
    · rw [fl_4]; rfl
    · rw [fl_7, lrow_at h]
    · rw [fl_8]
      by_cases hm : v ∈ po g
      · rw [hp v hv hm, if_pos hm]
      · rw [if_neg hm]; unfold pfrom; rw [List.drop_zero, if_neg hm]; unfold rfrom; rw [if_pos ⟨Nat.zero_le _, hv⟩]
    · rw [fl_9]; exact hd v hv
    · rw [fl_4]; rfl
    · rw [fl_4]; rfl
    · rw [fl_4]; rfl
    · rw [fl_4]; rfl
    · rw [fl_4]; rfl
