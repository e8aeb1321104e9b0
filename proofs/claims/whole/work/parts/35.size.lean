/-! what is open comes back -/
theorem ex_tell (s : Nat) (t : St) : (ex1 (0, s, 0) t).2.2.2.2 = t.2.2.2.2 := rfl
theorem ex_opn (s : Nat) (t : St) : (ex1 (1, s, 0) t).2.2.2.2 = s :: t.2.2.2.2 := rfl
theorem ex_cls (s : Nat) (t : St) : (ex1 (2, s, 0) t).2.2.2.2 = t.2.2.2.2.tail := rfl
theorem ex_way (b k : Nat) (t : St) : (ex1 (3, b, k) t).2.2.2.2 = t.2.2.2.2 := rfl
noncomputable def bc (g : Gr) (x : Nat) : Nat → List Nat
  | 0 => []
  | i + 1 => bc g x i ++ (if blk g x (nd g (i + 1)) then [200 + nd g (i + 1)] else [])
theorem opB_op (g : Gr) (x : Nat) : ∀ (i : Nat) (t : St), (ex (opB g x i) t).2.2.2.2 = bc g x i ++ t.2.2.2.2
  | 0, t => rfl
  | i + 1, t => by
    show (ex (_ ++ opB g x i) t).2.2.2.2 = _
    rw [ex_app, opB_op g x i]
    show _ = (bc g x i ++ (if blk g x (nd g (i + 1)) then [200 + nd g (i + 1)] else [])) ++ _
    rw [List.append_assoc]
    congr 1
    cases blk g x (nd g (i + 1)) <;> rfl
theorem clB_op {f : Nat → List Ev} (hf : ∀ v t, (ex (f v) t).2.2.2.2 = t.2.2.2.2) (g : Gr) (x : Nat) : ∀ (i : Nat) (P : List Nat) (t : St), t.2.2.2.2 = bc g x i ++ P → (ex (clB f g x i) t).2.2.2.2 = P
  | 0, P, t, h => h
  | i + 1, P, t, h => by
    have hb : bc g x (i + 1) = bc g x i ++ (if blk g x (nd g (i + 1)) then [200 + nd g (i + 1)] else []) := rfl
    rw [hb, List.append_assoc] at h
    have := clB_op hf g x i _ t h
    show (ex (clB f g x i ++ _) t).2.2.2.2 = P
    rw [ex_app]
    cases hk : blk g x (nd g (i + 1)) with
    | false =>
      rw [hk] at this
      exact this
    | true =>
      rw [hk] at this
      show (ex (f (nd g (i + 1))) (ex1 (2, 301, 0) (ex (clB f g x i) t))).2.2.2.2 = P
      rw [hf, ex_cls, this]
      rfl
theorem br_op {f : Nat → List Ev} (hf : ∀ v t, (ex (f v) t).2.2.2.2 = t.2.2.2.2) (g : Gr) (e : Nat) (t : St) : (ex (br f g e) t).2.2.2.2 = t.2.2.2.2 := by
  unfold br
  cases lvE g e with
  | none => rfl
  | some y =>
    simp only
    split
    · split
      · rfl
      · exact hf y t
    · rfl
theorem ens_op {f : Nat → List Ev} (hf : ∀ v t, (ex (f v) t).2.2.2.2 = t.2.2.2.2) (g : Gr) (m x : Nat) (t : St) : (ex (ens f g m x) t).2.2.2.2 = t.2.2.2.2 := by
  unfold ens
  split
  · rfl
  · rw [ex_app]
    split
    · show (ex (br f g (2 * x + 1) ++ [(0, 401, 0)]) (ex1 (0, 400, 0) (ex (br f g (2 * x)) t))).2.2.2.2 = _
      rw [ex_app]
      show (ex1 (0, 401, 0) _).2.2.2.2 = _
      rw [ex_tell, br_op hf, ex_tell, br_op hf]
    · exact br_op hf g _ t
theorem wi_op {f : Nat → List Ev} (hf : ∀ v t, (ex (f v) t).2.2.2.2 = t.2.2.2.2) (g : Gr) (m x : Nat) (t : St) : (ex (wi f g m x) t).2.2.2.2 = t.2.2.2.2 := by
  unfold wi
  rw [ex_app]
  show (ex (ens f g m x ++ clB f g x ((po g).length - 1)) (ex1 (0, x, 0) _)).2.2.2.2 = _
  rw [ex_app]
  refine clB_op hf g x _ _ _ ?_
  rw [ens_op hf, ex_tell, opB_op]
theorem tr_op (g : Gr) (kd : Nat → Nat) : ∀ (d x : Nat) (t : St), (ex (tr g kd d x) t).2.2.2.2 = t.2.2.2.2
  | 0, _, _ => rfl
  | d + 1, x, t => by
    unfold tr
    rw [ex_app, ex_app]
    cases (hd g).testBit x with
    | false => exact wi_op (tr_op g kd d) g _ x t
    | true =>
      show (ex1 (2, 300, 0) (ex (wi (tr g kd d) g (en (kd x)) x) (ex1 (1, 100 + x, 0) t))).2.2.2.2 = _
      rw [ex_cls, wi_op (tr_op g kd d), ex_opn]
      rfl
/-! the nodes that a tree comes to -/
noncomputable def brc (g : Gr) (e : Nat) : List Nat := match lvE g e with
  | none => []
  | some t => if pl g (e / 2) < pl g t then (if (mg g).testBit t then [] else [t]) else []
noncomputable def blc (g : Gr) (x : Nat) : Nat → List Nat
  | 0 => []
  | i + 1 => blc g x i ++ (if blk g x (nd g (i + 1)) then [nd g (i + 1)] else [])
noncomputable def chs (g : Gr) (x : Nat) : List Nat := (brc g (2 * x) ++ brc g (2 * x + 1)) ++ blc g x ((po g).length - 1)
noncomputable def vs (g : Gr) : Nat → Nat → List Nat
  | 0, x => [x]
  | d + 1, x => x :: (chs g x).flatMap (vs g d)
theorem brc_mem {g : Gr} {e v : Nat} (h : v ∈ brc g e) : fwd g e v ∧ (mg g).testBit v = false := by
  unfold brc at h
  cases hl : lvE g e with
  | none => rw [hl] at h; simp at h
  | some t =>
    rw [hl] at h
    simp only at h
    split at h
    · rename_i hp
      split at h
      · simp at h
      · rename_i hm
        have : v = t := by simpa using h
        subst this
        exact ⟨⟨hl, hp⟩, by simpa using hm⟩
    · simp at h
theorem nd_mem {g : Gr} {i : Nat} (hi : i < (po g).length) : nd g i ∈ po g := by
  unfold nd
  have : (po g).length - 1 - i < (po g).length := by omega
  simp [this]
theorem nd_inj {g : Gr} (hg : gok g) {i j : Nat} (hi : i < (po g).length) (hj : j < (po g).length) (h : nd g i = nd g j) : i = j := by
  unfold nd at h
  have h1 : (po g).length - 1 - i < (po g).length := by omega
  have h2 : (po g).length - 1 - j < (po g).length := by omega
  simp [h1, h2] at h
  have := (List.getElem_inj (po_ok hg).2.2.1).mp h
  omega
theorem nd_pl {g : Gr} (hg : gok g) {i : Nat} (hi : i < (po g).length) : pl g (nd g i) = i := by
  unfold pl nd
  have h1 : (po g).length - 1 - i < (po g).length := by omega
  have e : (po g).getD ((po g).length - 1 - i) 0 = (po g)[(po g).length - 1 - i] := by simp [h1]
  rw [e, (nd_drop (po_ok hg).2.2.1 h1).2]
  omega
theorem blc_mem {g : Gr} {x v : Nat} : ∀ i, v ∈ blc g x i → blk g x v = true ∧ ∃ j, 1 ≤ j ∧ j ≤ i ∧ v = nd g j
  | 0, h => by unfold blc at h; simp at h
  | i + 1, h => by
    unfold blc at h
    rcases List.mem_append.mp h with q | q
    · obtain ⟨h1, j, h2, h3, h4⟩ := blc_mem i q
      exact ⟨h1, j, h2, by omega, h4⟩
    · cases hk : blk g x (nd g (i + 1)) with
      | false => rw [hk] at q; simp at q
      | true =>
        rw [hk] at q
        have : v = nd g (i + 1) := by simpa using q
        subst this
        exact ⟨hk, i + 1, by omega, by omega, rfl⟩
theorem blc_nodup {g : Gr} (hg : gok g) (x : Nat) : ∀ i, i < (po g).length → (blc g x i).Nodup
  | 0, _ => by unfold blc; simp
  | i + 1, hi => by
    unfold blc
    rw [List.nodup_append]
    refine ⟨blc_nodup hg x i (by omega), by split <;> simp, fun a ha b hb => ?_⟩
    obtain ⟨-, j, j1, j2, rfl⟩ := blc_mem i ha
    split at hb
    · have : b = nd g (i + 1) := by simpa using hb
      subst this
      intro z
      have := nd_inj hg (by omega) hi z
      omega
    · simp at hb
theorem blk_lord {g : Gr} (hg : gok g) {x v : Nat} (hx : x < 8) (h : blk g x v = true) : Lrd g x v ∧ (mg g).testBit v = true := by
  unfold blk at h
  rw [Bool.and_eq_true, decide_eq_true_eq] at h
  refine ⟨?_, h.1⟩
  by_cases hex : ∃ a, Lrd g a v
  · obtain ⟨a, ha⟩ := hex
    have e := ld_some hg ha
    rw [h.2] at e
    have ha8 := (Rch.lt hg ha.2.1.1)
    have := (nI_eq (by omega) (by omega)).mp e
    rw [this]; exact ha
  · have e := ld_none (fun a ha => hex ⟨a, ha⟩)
    rw [h.2] at e
    exact ((nI_m1 (by omega)).mp e).elim
theorem chs_lord {g : Gr} (hg : gok g) (hb : bd g = 0) {x v : Nat} (hx : x < 8) (h : v ∈ chs g x) : Lrd g x v := by
  unfold chs at h
  rcases List.mem_append.mp h with h | h
  · rcases List.mem_append.mp h with h | h
    · have := brc_mem h
      have q := fwd_lord hg hb this.1 this.2
      rw [show 2 * x / 2 = x by omega] at q; exact q
    · have := brc_mem h
      have q := fwd_lord hg hb this.1 this.2
      rw [show (2 * x + 1) / 2 = x by omega] at q; exact q
  · exact (blk_lord hg hx (blc_mem _ h).1).1
theorem brc_nodup (g : Gr) (e : Nat) : (brc g e).Nodup := by
  unfold brc
  cases lvE g e with
  | none => simp
  | some t =>
    simp only
    split
    · split <;> simp
    · simp
theorem chs_nodup {g : Gr} (hg : gok g) (x : Nat) (hx : x < 8) : (chs g x).Nodup := by
  have hpos : 0 < (po g).length := List.length_pos_of_mem (po_ok hg).2.2.2.2.1
  unfold chs
  rw [List.nodup_append, List.nodup_append]
  refine ⟨⟨brc_nodup g _, brc_nodup g _, fun a ha b hb z => ?_⟩, blc_nodup hg x _ (by omega), fun a ha b hb z => ?_⟩
  · subst z
    have h1 := brc_mem ha
    have h2 := brc_mem hb
    have : (mg g).testBit a = true := mg_iff.mpr ⟨2 * x, 2 * x + 1, by omega, by omega, h1.1, h2.1⟩
    rw [this] at h1
    cases h1.2
  · subst z
    have h2 := (blk_lord hg hx (blc_mem _ hb).1).2
    rcases List.mem_append.mp ha with h | h
    · rw [(brc_mem h).2] at h2; cases h2
    · rw [(brc_mem h).2] at h2; cases h2
theorem nodup_flat {f : Nat → List Nat} : ∀ (l : List Nat), l.Nodup → (∀ c ∈ l, (f c).Nodup) → (∀ c ∈ l, ∀ c' ∈ l, c ≠ c' → ∀ y ∈ f c, y ∉ f c') → (l.flatMap f).Nodup
  | [], _, _, _ => by simp
  | a :: l, h1, h2, h3 => by
    rw [List.flatMap_cons, List.nodup_append]
    rw [List.nodup_cons] at h1
    refine ⟨h2 a (by simp), nodup_flat l h1.2 (fun c hc => h2 c (by simp [hc])) (fun c hc c' hc' => h3 c (by simp [hc]) c' (by simp [hc'])), fun y hy z hz e => ?_⟩
    subst e
    obtain ⟨c, hc, hyc⟩ := List.mem_flatMap.mp hz
    exact h3 a (by simp) c (by simp [hc]) (fun q => h1.1 (q ▸ hc)) y hy hyc
theorem vs_dm {g : Gr} (hg : gok g) (hb : bd g = 0) : ∀ (d x y : Nat), x ∈ po g → y ∈ vs g d x → Dm g x y
  | 0, x, y, hx, h => by
    unfold vs at h
    have : y = x := by simpa using h
    subst this
    exact Dm.refl ((mem_po hg).mp hx)
  | d + 1, x, y, hx, h => by
    unfold vs at h
    rcases List.mem_cons.mp h with rfl | h
    · exact Dm.refl ((mem_po hg).mp hx)
    · obtain ⟨c, hc, hy⟩ := List.mem_flatMap.mp h
      have hl := chs_lord hg hb ((po_ok hg).2.1 x hx).1 hc
      exact hl.2.1.trans hg (vs_dm hg hb d c y ((mem_po hg).mpr hl.2.1.2.1) hy)
theorem vs_nodup {g : Gr} (hg : gok g) (hb : bd g = 0) : ∀ (d x : Nat), x ∈ po g → (vs g d x).Nodup
  | 0, x, _ => by unfold vs; simp
  | d + 1, x, hx => by
    have hx8 := ((po_ok hg).2.1 x hx).1
    have hcp : ∀ c ∈ chs g x, c ∈ po g := fun c hc => (mem_po hg).mpr (chs_lord hg hb hx8 hc).2.1.2.1
    unfold vs
    rw [List.nodup_cons]
    refine ⟨fun h => ?_, nodup_flat _ (chs_nodup hg x hx8) (fun c hc => vs_nodup hg hb d c (hcp c hc)) (fun c hc c' hc' hne y hy hy' => ?_)⟩
    · obtain ⟨c, hc, hy⟩ := List.mem_flatMap.mp h
      have hl := chs_lord hg hb hx8 hc
      have := vs_dm hg hb d c x (hcp c hc) hy
      exact hl.1 (Dm.anti hg hl.2.1 this)
    · exact Lrd_apart hg (chs_lord hg hb hx8 hc) (chs_lord hg hb hx8 hc') hne (vs_dm hg hb d c y (hcp c hc) hy) (vs_dm hg hb d c' y (hcp c' hc') hy')
theorem nodup8 : ∀ (l : List Nat), l.Nodup → (∀ x ∈ l, x < 8) → l.length ≤ 8 := by
  intro l hn hl
  refine fb_holes 8 l.length (fun i => l.getD i 0) (fun i hi => ?_) (fun i j hij hj h => ?_)
  · have : l.getD i 0 = l[i] := by simp [hi]
    rw [this]; exact hl _ (List.getElem_mem hi)
  · have h1 : i < l.length := by omega
    simp [h1, hj] at h
    have := (List.getElem_inj hn).mp h
    omega
theorem vs_len {g : Gr} (hg : gok g) (hb : bd g = 0) (d x : Nat) (hx : x ∈ po g) : (vs g d x).length ≤ 8 := nodup8 _ (vs_nodup hg hb d x hx) (fun y hy => (vs_dm hg hb d x y hx hy).2.1.lt hg)
/-! how many signs, how many open -/
theorem br_len {f : Nat → List Ev} {q : Nat → List Nat} (hf : ∀ v, (f v).length + 2 ≤ 9 * (q v).length ∧ ops (f v) + 1 ≤ 2 * (q v).length) (g : Gr) (e : Nat) : (br f g e).length ≤ 1 + 9 * ((brc g e).flatMap q).length ∧ ops (br f g e) ≤ 2 * ((brc g e).flatMap q).length := by
  unfold br brc
  cases lvE g e with
  | none => simp [ops]
  | some t =>
    simp only
    split
    · split
      · simp [ops]
      · have := hf t
        simp only [List.flatMap_cons, List.flatMap_nil, List.append_nil]
        omega
    · simp [ops]
theorem blc_len {f : Nat → List Ev} {q : Nat → List Nat} (hf : ∀ v, (f v).length + 2 ≤ 9 * (q v).length ∧ ops (f v) + 1 ≤ 2 * (q v).length) (g : Gr) (x : Nat) : ∀ i, (opB g x i).length + (clB f g x i).length ≤ 9 * ((blc g x i).flatMap q).length ∧ ops (opB g x i) + ops (clB f g x i) ≤ 2 * ((blc g x i).flatMap q).length
  | 0 => by simp [opB, clB, blc, ops]
  | i + 1 => by
    have ih := blc_len hf g x i
    have h := hf (nd g (i + 1))
    unfold opB clB blc
    rw [List.length_append, List.length_append, ops_app, ops_app, List.flatMap_append, List.length_append]
    cases blk g x (nd g (i + 1)) with
    | false => simpa [ops] using ih
    | true =>
      have e1 : ops ((2, 301, 0) :: f (nd g (i + 1))) = ops (f (nd g (i + 1))) := by unfold ops; rw [List.filter_cons]; rfl
      have e2 : ops [(1, 200 + nd g (i + 1), 0)] = 1 := rfl
      simp only [if_true, e1, e2, List.length_cons, List.length_nil, List.flatMap_cons, List.flatMap_nil, List.append_nil]
      omega
theorem tr_len (g : Gr) (kd : Nat → Nat) : ∀ (d x : Nat), (tr g kd d x).length + 2 ≤ 9 * (vs g d x).length ∧ ops (tr g kd d x) + 1 ≤ 2 * (vs g d x).length
  | 0, x => by simp [tr, vs, ops]
  | d + 1, x => by
    have h0 := br_len (tr_len g kd d) g (2 * x)
    have h1 := br_len (tr_len g kd d) g (2 * x + 1)
    have h2 := blc_len (tr_len g kd d) g x ((po g).length - 1)
    have he : (ens (tr g kd d) g (en (kd x)) x).length ≤ 4 + 9 * (((brc g (2 * x)).flatMap (vs g d)).length + ((brc g (2 * x + 1)).flatMap (vs g d)).length) ∧ ops (ens (tr g kd d) g (en (kd x)) x) ≤ 2 * (((brc g (2 * x)).flatMap (vs g d)).length + ((brc g (2 * x + 1)).flatMap (vs g d)).length) := by
      unfold ens
      split
      · simp [ops]
      · split
        · have e1 : ∀ l, ops ((0, 400, 0) :: l) = ops l := fun l => by unfold ops; rw [List.filter_cons]; rfl
          have e2 : ops [(0, 401, 0)] = 0 := rfl
          rw [List.length_append, ops_app, List.length_cons, List.length_append, e1, ops_app, e2, List.length_singleton]
          omega
        · rw [List.append_nil]
          omega
    have hv : (vs g (d + 1) x).length = 1 + (((brc g (2 * x)).flatMap (vs g d)).length + ((brc g (2 * x + 1)).flatMap (vs g d)).length) + ((blc g x ((po g).length - 1)).flatMap (vs g d)).length := by
      unfold vs chs
      rw [List.length_cons, List.flatMap_append, List.flatMap_append, List.length_append, List.length_append]
      omega
    have e3 : ∀ l, ops ((0, x, 0) :: l) = ops l := fun l => by unfold ops; rw [List.filter_cons]; rfl
    have hh : ((if (hd g).testBit x then [((1 : Nat), 100 + x, (0 : Nat))] else []) : List Ev).length ≤ 1 ∧ ops (if (hd g).testBit x then [(1, 100 + x, 0)] else []) ≤ 1 := by split <;> simp [ops]
    have hc : ((if (hd g).testBit x then [((2 : Nat), (300 : Nat), (0 : Nat))] else []) : List Ev).length ≤ 1 ∧ ops (if (hd g).testBit x then [(2, 300, 0)] else []) = 0 := by split <;> simp [ops]
    unfold tr wi
    rw [List.length_append, List.length_append, List.length_append, List.length_cons, List.length_append, ops_app, ops_app, ops_app, e3, ops_app, hv]
    omega
