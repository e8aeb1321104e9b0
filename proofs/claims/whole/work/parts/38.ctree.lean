def Rm (t : St) (E : List Ev) : Prop := t.1.length + E.length ≤ 72 ∧ t.2.2.2.2.length + ops E ≤ 16
theorem Rm.app {t : St} {A B : List Ev} (h : Rm t (A ++ B)) : Rm t A ∧ Rm (ex A t) B := by
  obtain ⟨h1, h2⟩ := h
  rw [List.length_append] at h1
  rw [ops_app] at h2
  have := ex_oplen A t
  refine ⟨⟨by omega, by omega⟩, ?_, by omega⟩
  rw [ex_sg]; omega
theorem Rm.cons {t : St} {e : Ev} {B : List Ev} (h : Rm t (e :: B)) : t.1.length < 72 ∧ Rm (ex1 e t) B := by
  have := Rm.app (A := [e]) (B := B) h
  refine ⟨?_, this.2⟩
  have := this.1.1
  simp at this
  omega
theorem Rm.mono {t : St} {A B : List Ev} (h : Rm t (A ++ B)) : Rm t A := h.app.1
section CT
variable {n : Nat} {kd f0 f1 : Nat → Nat} {σ0 : SF}
theorem CS.J {t : St} {σ : SF} (h : CS σ0 t σ) (hJ : JIs σ0 3 n kd f0 f1) : JIs σ 3 n kd f0 f1 := hJ.eqv (h.1 _ (by decide) (by decide) (by decide)) (h.1 _ (by decide) (by decide) (by decide)) (h.1 _ (by decide) (by decide) (by decide)) (h.1 _ (by decide) (by decide) (by decide))
theorem CS.F {t : St} {σ : SF} {g : Gr} (h : CS σ0 t σ) (hF : FlowIs σ0 3 g) : FlowIs σ 3 g := hF.eqv (h.1 _ (by decide) (by decide) (by decide)) (h.1 _ (by decide) (by decide) (by decide)) (h.1 _ (by decide) (by decide) (by decide)) (h.1 _ (by decide) (by decide) (by decide)) (h.1 _ (by decide) (by decide) (by decide))
theorem q_blk {σ : SF} {g : Gr} (hg : gok g) (hJ : JIs σ 3 n kd f0 f1) (hn : n ≤ 8) (hF : FlowIs σ 3 g) (hgn : ∀ a, Rch g 99 a → a < n) {x v : Nat} (hv : v < n) : F_X4_isBlockIn σ (nI x) (nI v) = some (if blk g x v then 1 else 0) := by
  unfold F_X4_isBlockIn blk
  rw [q_merge hg hJ hn hF hv, zb_q]
  cases (mg g).testBit v with
  | false => rfl
  | true =>
    rw [if_neg (by simp), q_lord hg hJ hn hF hgn hv, zb_q]
    by_cases q : ld g v = nI x
    · rw [if_pos q]; simp [q]
    · rw [if_neg q]; simp [q]
theorem nd_eq {g : Gr} {i : Nat} (h : i < (po g).length) : (po g)[(po g).length - 1 - i]'(by omega) = nd g i := by
  unfold nd
  have : (po g).length - 1 - i < (po g).length := by omega
  simp [this]
theorem ct10 {g : Gr} (hg : gok g) (hn : n ≤ 8) (hJ : JIs σ0 3 n kd f0 f1) (hF : FlowIs σ0 3 g) (hgn : ∀ a, Rch g 99 a → a < n) {x : Nat} {rec : SF → Int32 → Int32 → Option SF} {y2 : Int32} : ∀ (i N : Nat) (σ : SF) (t : St), i < (po g).length → i < N → CS σ0 t σ → Rm t (opB g x i) → ∃ z σ', L_X4_putWithin_10 rec (nI x) y2 N (nI i) σ = some (z, σ') ∧ CS σ0 (ex (opB g x i) t) σ' := by
  have hlen := po_len hg
  intro i
  induction i with
  | zero =>
    intro N σ t hi hN hC hR
    obtain ⟨N, rfl⟩ : ∃ K, N = K + 1 := ⟨N - 1, by omega⟩
    refine ⟨nI 0, σ, ?_, hC⟩
    unfold L_X4_putWithin_10
    rw [if_pos (by decide)]
  | succ i ih =>
    intro N σ t hi hN hC hR
    obtain ⟨N, rfl⟩ : ∃ K, N = K + 1 := ⟨N - 1, by omega⟩
    have hv : nd g (i + 1) < n := hgn _ ((mem_po hg).mp (nd_mem hi))
    have hna : F_X0_nodeAt σ 3 (nI (i + 1)) = some (nI (nd g (i + 1))) := by rw [q_nodeAt hg (hC.F hF) hi, nd_eq hi]
    have e200 : (200 : Int32) + nI (nd g (i + 1)) = nI (200 + nd g (i + 1)) := nI_add 200 _
    unfold opB at hR
    unfold L_X4_putWithin_10
    rw [if_neg (nI_nle (by omega) (by omega)), hna, zb_q, q_blk hg (hC.J hJ) hn (hC.F hF) hgn hv, zb_q, zb_q, pk_m1, e200]
    unfold opB
    cases hk : blk g x (nd g (i + 1)) with
    | false =>
      rw [hk] at hR
      rw [if_pos (by simp), zl_q]
      exact ih N σ t (by omega) (by omega) hC hR
    | true =>
      rw [hk] at hR
      have hR2 : Rm t ((1, 200 + nd g (i + 1), 0) :: opB g x i) := hR
      have hc := hR2.cons
      have ho : t.2.2.2.2.length < 16 := by
        have := hR2.2
        have e : ops ((1, 200 + nd g (i + 1), 0) :: opB g x i) = 1 + ops (opB g x i) := by unfold ops; rw [List.filter_cons]; simp; omega
        omega
      obtain ⟨σ1, h1, h2⟩ := c_open hC hc.1 ho (show 200 + nd g (i + 1) < 256 by omega)
      rw [if_neg (by simp), h1, zb_q, zl_q]
      exact ih N σ1 _ (by omega) (by omega) h2 hc.2
/-- what the recursion gives -/
def Crec (σ0 : SF) (g : Gr) (kd : Nat → Nat) (D lev : Nat) (rec : SF → Int32 → Int32 → Option SF) : Prop := ∀ (v : Nat) (σ : SF) (t : St), v ∈ po g → pc (dk g v) = lev + 2 → CS σ0 t σ → Rm t (tr g kd D v) → ∃ σ', rec σ (nI v) (nI (lev + 1)) = some σ' ∧ CS σ0 (ex (tr g kd D v) t) σ'
theorem cbr (hw : gwf n kd f0 f1) (hJ : JIs σ0 3 n kd f0 f1) (hF : FlowIs σ0 3 (mkG n kd f0 f1 0)) (hb : bd (mkG n kd f0 f1 0) = 0) {D lev : Nat} {rec : SF → Int32 → Int32 → Option SF} (hrec : Crec σ0 (mkG n kd f0 f1 0) kd D lev rec) {x w : Nat} (hx : x ∈ po (mkG n kd f0 f1 0)) (hxn : x < n) (hw2 : w < en (kd x)) (hlev : pc (dk (mkG n kd f0 f1 0) x) = lev + 1) {σ : SF} {t : St} (hC : CS σ0 t σ) (hR : Rm t (br (tr (mkG n kd f0 f1 0) kd D) (mkG n kd f0 f1 0) (2 * x + w))) : ∃ σ', F_X4_putBranch rec σ (nI x) (nI w) (nI lev) = some σ' ∧ CS σ0 (ex (br (tr (mkG n kd f0 f1 0) kd D) (mkG n kd f0 f1 0) (2 * x + w)) t) σ' := by
  have hg := mkG_ok hw 0
  have hn := hw.1
  have hen := en_le (kd x)
  have hgx := hw.2 x hxn
  generalize hgg : mkG n kd f0 f1 0 = g at *
  have h1 : (2 * x + w) / 2 = x := by omega
  have h2 : (2 * x + w) % 2 = w := by omega
  have hge : g (2 * x + w) = some (tgv f0 f1 x w) := by
    rw [← hgg]
    unfold mkG
    rw [h1, h2, if_pos ⟨hxn, hw2, by simp⟩]
    unfold tgt tgv
    rw [h1, h2]
  have hlv : lvE g (2 * x + w) = some (tgv f0 f1 x w) := by unfold lvE; rw [h1, if_pos hx]; exact hge
  have hyn : tgv f0 f1 x w < n := by unfold tgv; split <;> omega
  obtain ⟨l1, l2, l3, l4, l5⟩ := lvE_ok hg hlv
  have ht : F_X1_target σ 3 (nI x) (nI w) = some (nI (tgv f0 f1 x w)) := by
    rw [F_target_nI (hC.J hJ) hn (by omega) (by omega), if_pos hxn]; rfl
  have ho : t.2.2.2.2.length ≤ 16 := by have := hR.2; omega
  have e2 : (200 : Int32) + nI (tgv f0 f1 x w) = nI (200 + tgv f0 f1 x w) := nI_add 200 _
  have e1 : (100 : Int32) + nI (tgv f0 f1 x w) = nI (100 + tgv f0 f1 x w) := nI_add 100 _
  have e6 : (600 : Int32) = nI 600 := rfl
  have e5 : (500 : Int32) = nI 500 := rfl
  unfold br at hR ⊢
  rw [hlv] at hR ⊢
  simp only at hR ⊢
  unfold F_X4_putBranch
  rw [ht, zb_q, q_state (hC.J hJ) hn (hC.F hF) hxn (by omega), zb_q]
  by_cases hp : pl g ((2 * x + w) / 2) < pl g (tgv f0 f1 x w)
  · rw [if_pos hp] at hR ⊢
    have hsv : sv g (2 * x + w) = 0 := by unfold sv; rw [hlv]; exact if_pos hp
    rw [hsv, if_pos rfl, q_merge hg (hC.J hJ) hn (hC.F hF) hyn, zb_q]
    cases hm : (mg g).testBit (tgv f0 f1 x w) with
    | true =>
      rw [hm, if_pos rfl] at hR
      rw [if_neg (by simp), if_pos rfl, e2, c_depth hC ho (by omega), zb_q, e6]
      obtain ⟨σ1, k1, k2⟩ := c_way hC hR.cons.1 600 (200 + tgv f0 f1 x w)
      exact ⟨σ1, by rw [k1, zb_q], k2⟩
    | false =>
      rw [hm, if_neg (by simp)] at hR
      rw [if_pos (by simp), if_neg (by simp), nI_1]
      have hl := fwd_lord hg hb ⟨hlv, hp⟩ hm
      rw [h1] at hl
      have hpc := Lrd_pc hg hl
      obtain ⟨σ1, k1, k2⟩ := hrec _ σ t l4 (by omega) hC hR
      exact ⟨σ1, by rw [k1, zb_q], k2⟩
  · rw [if_neg hp] at hR ⊢
    have hdk : (dk g ((2 * x + w) / 2)).testBit (tgv f0 f1 x w) = true := (dk_iff hg).mpr (bck_dm hg hb ⟨hlv, hp⟩)
    have hsv : sv g (2 * x + w) = 1 := by
      unfold sv
      rw [hlv]
      simp only
      rw [if_neg hp, if_pos hdk]
    rw [hsv, if_neg i10, e1, c_depth hC ho (by omega), zb_q, e5]
    obtain ⟨σ1, k1, k2⟩ := c_way hC hR.cons.1 500 (100 + tgv f0 f1 x w)
    exact ⟨σ1, by rw [k1, zb_q], k2⟩
theorem clB_mono {f : Nat → List Ev} {g : Gr} {x : Nat} : ∀ (m i : Nat), ∃ B, clB f g x (i + m) = clB f g x i ++ B
  | 0, i => ⟨[], by simp⟩
  | m + 1, i => by
    obtain ⟨B, h⟩ := clB_mono (f := f) (g := g) (x := x) m i
    refine ⟨B ++ (if blk g x (nd g (i + m + 1)) then (2, 301, 0) :: f (nd g (i + m + 1)) else []), ?_⟩
    rw [← List.append_assoc, ← h]
    rfl
theorem ct111 {g : Gr} (hg : gok g) (hn : n ≤ 8) (hJ : JIs σ0 3 n kd f0 f1) (hF : FlowIs σ0 3 g) (hgn : ∀ a, Rch g 99 a → a < n) {D lev x : Nat} (hx : x < 8) (hlev : pc (dk g x) = lev + 1) {rec : SF → Int32 → Int32 → Option SF} (hrec : Crec σ0 g kd D lev rec) (t0 : St) (hR : Rm t0 (clB (tr g kd D) g x ((po g).length - 1))) : ∀ (m N i : Nat) (σ : SF), i + m = (po g).length - 1 → m < N → CS σ0 (ex (clB (tr g kd D) g x i) t0) σ → ∃ z σ', L_X4_putWithin_111 rec (nI x) (nI lev) N (nI (i + 1)) σ = some (z, σ') ∧ CS σ0 (ex (clB (tr g kd D) g x ((po g).length - 1)) t0) σ' := by
  have hlen := po_len hg
  have hpos : 0 < (po g).length := List.length_pos_of_mem (po_ok hg).2.2.2.2.1
  intro m
  induction m with
  | zero =>
    intro N i σ hi hN hC
    obtain ⟨N, rfl⟩ : ∃ K, N = K + 1 := ⟨N - 1, by omega⟩
    have : i = (po g).length - 1 := by omega
    subst this
    have e : σ (3 + 4) 6 = nI (po g).length := (hC.F hF).2.1
    refine ⟨nI ((po g).length - 1 + 1), σ, ?_, hC⟩
    unfold L_X4_putWithin_111
    rw [e, if_pos (nI_le (by omega) (by omega))]
  | succ m ih =>
    intro N i σ hi hN hC
    obtain ⟨N, rfl⟩ : ∃ K, N = K + 1 := ⟨N - 1, by omega⟩
    have e : σ (3 + 4) 6 = nI (po g).length := (hC.F hF).2.1
    have hi1 : i + 1 < (po g).length := by omega
    have hv : nd g (i + 1) < n := hgn _ ((mem_po hg).mp (nd_mem hi1))
    have hna : ∀ σ' t', CS σ0 t' σ' → F_X0_nodeAt σ' 3 (nI (i + 1)) = some (nI (nd g (i + 1))) := fun σ' t' hC' => by rw [q_nodeAt hg (hC'.F hF) hi1, nd_eq hi1]
    have hstep : clB (tr g kd D) g x (i + 1) = clB (tr g kd D) g x i ++ (if blk g x (nd g (i + 1)) then (2, 301, 0) :: tr g kd D (nd g (i + 1)) else []) := rfl
    have hR1 : Rm t0 (clB (tr g kd D) g x (i + 1)) := by
      obtain ⟨B, hB⟩ := clB_mono (f := tr g kd D) (g := g) (x := x) m (i + 1)
      rw [show i + 1 + m = (po g).length - 1 by omega] at hB
      rw [hB] at hR
      exact hR.mono
    rw [hstep] at hR1
    have hR2 := hR1.app.2
    have nxt : ∀ σ', CS σ0 (ex (clB (tr g kd D) g x (i + 1)) t0) σ' → _ := fun σ' hC' => ih N (i + 1) σ' (by omega) (by omega) hC'
    rw [hstep, ex_app] at nxt
    unfold L_X4_putWithin_111
    rw [e, if_neg (nI_ge hi1 (by omega)), hna σ _ hC, zb_q, q_blk hg (hC.J hJ) hn (hC.F hF) hgn hv, zb_q, nI_1]
    cases hk : blk g x (nd g (i + 1)) with
    | false =>
      rw [hk] at nxt
      rw [if_pos (by simp), zl_q]
      exact nxt σ hC
    | true =>
      rw [hk] at nxt hR2
      have hR3 : Rm (ex (clB (tr g kd D) g x i) t0) ((2, 301, 0) :: tr g kd D (nd g (i + 1))) := hR2
      have hc := hR3.cons
      have ho : (ex (clB (tr g kd D) g x i) t0).2.2.2.2.length ≤ 16 := by have := hR3.2; omega
      have e301 : (301 : Int32) = nI 301 := rfl
      obtain ⟨σ1, k1, k2⟩ := c_close hC hc.1 ho 301
      have hl := (blk_lord hg hx hk).1
      have hpc := Lrd_pc hg hl
      obtain ⟨σ2, k3, k4⟩ := hrec _ σ1 _ (nd_mem hi1) (by omega) k2 hc.2
      rw [if_neg (by simp), e301, k1, zb_q, hna σ1 _ k2, zb_q, nI_1, k3, zb_q, zl_q]
      exact nxt σ2 k4
theorem cwi (hw : gwf n kd f0 f1) (h0 : 0 < n) (hJ : JIs σ0 3 n kd f0 f1) (hF : FlowIs σ0 3 (mkG n kd f0 f1 0)) (hb : bd (mkG n kd f0 f1 0) = 0) {D lev : Nat} {rec : SF → Int32 → Int32 → Option SF} (hrec : Crec σ0 (mkG n kd f0 f1 0) kd D lev rec) {x : Nat} (hx : x ∈ po (mkG n kd f0 f1 0)) (hlev : pc (dk (mkG n kd f0 f1 0) x) = lev + 1) {σ : SF} {t : St} (hC : CS σ0 t σ) (hR : Rm t (wi (tr (mkG n kd f0 f1 0) kd D) (mkG n kd f0 f1 0) (en (kd x)) x)) : ∃ σ', F_X4_putWithin rec σ (nI x) (nI lev) = some σ' ∧ CS σ0 (ex (wi (tr (mkG n kd f0 f1 0) kd D) (mkG n kd f0 f1 0) (en (kd x)) x) t) σ' := by
  have hg := mkG_ok hw 0
  have hn := hw.1
  have hgn : ∀ a, Rch (mkG n kd f0 f1 0) 99 a → a < n := fun a h => Rch_n hw h0 h
  have hxn := hgn x ((mem_po hg).mp hx)
  have hen := en_le (kd x)
  have hlen := po_len hg
  have hpos : 0 < (po (mkG n kd f0 f1 0)).length := List.length_pos_of_mem hx
  unfold wi at hR ⊢
  obtain ⟨hR1, hR2⟩ := hR.app
  obtain ⟨z1, σ1, k1, k2⟩ := ct10 (rec := rec) (y2 := nI lev) hg hn hJ hF hgn ((po (mkG n kd f0 f1 0)).length - 1) 100 σ t (by omega) (by omega) hC hR1
  have hc := hR2.cons
  obtain ⟨σ2, k3, k4⟩ := c_put k2 hc.1 x
  have k4' : CS σ0 (ex1 (0, x, 0) (ex (opB (mkG n kd f0 f1 0) x ((po (mkG n kd f0 f1 0)).length - 1)) t)) σ2 := k4
  rw [ex_app]
  show ∃ σ', _ ∧ CS σ0 (ex (ens (tr (mkG n kd f0 f1 0) kd D) (mkG n kd f0 f1 0) (en (kd x)) x ++ clB (tr (mkG n kd f0 f1 0) kd D) (mkG n kd f0 f1 0) x ((po (mkG n kd f0 f1 0)).length - 1)) (ex1 (0, x, 0) (ex (opB (mkG n kd f0 f1 0) x ((po (mkG n kd f0 f1 0)).length - 1)) t))) σ'
  obtain ⟨hR3, hR4⟩ := hc.2.app
  rw [ex_app]
  have e7 : σ (3 + 4) 6 - 1 = nI ((po (mkG n kd f0 f1 0)).length - 1) := by
    have : σ (3 + 4) 6 = nI (po (mkG n kd f0 f1 0)).length := (hC.F hF).2.1
    rw [this, nl_1, pk_sub (by omega)]
  have hz := nq_zin1 (show x < 8 by omega) (by decide)
  have ek : σ2 (3 + 1) x = nI (kd x) := ((k4'.J hJ).2 x hxn).1
  have h5 := (hw.2 x hxn).1
  generalize ex1 (0, x, 0) (ex (opB (mkG n kd f0 f1 0) x ((po (mkG n kd f0 f1 0)).length - 1)) t) = t2 at *
  have fin : ∀ σ3, CS σ0 (ex (ens (tr (mkG n kd f0 f1 0) kd D) (mkG n kd f0 f1 0) (en (kd x)) x) t2) σ3 → ∃ z σ', L_X4_putWithin_111 rec (nI x) (nI lev) 100 1 σ3 = some (z, σ') ∧ CS σ0 (ex (clB (tr (mkG n kd f0 f1 0) kd D) (mkG n kd f0 f1 0) x ((po (mkG n kd f0 f1 0)).length - 1)) (ex (ens (tr (mkG n kd f0 f1 0) kd D) (mkG n kd f0 f1 0) (en (kd x)) x) t2)) σ' := fun σ3 hC3 =>
    ct111 hg hn hJ hF hgn (show x < 8 by omega) hlev hrec _ hR4 ((po (mkG n kd f0 f1 0)).length - 1) 100 0 σ3 (by omega) (by omega) hC3
  unfold F_X4_putWithin
  rw [zl_q, e7, k1, zb2_q, k3, zb_q, zg_q hz, nI_clamp (by omega), ek, F_ends_nI h5, zb_q]
  unfold ens at hR3 fin ⊢
  rcases (show en (kd x) = 0 ∨ en (kd x) = 1 ∨ en (kd x) = 2 by omega) with he | he | he
  · rw [he] at hR3 fin ⊢
    obtain ⟨z, σ4, m1, m2⟩ := fin σ2 k4'
    rw [if_pos (show nI 0 < 1 by decide), if_neg (show ¬ nI 0 = 2 by decide), m1, zb2_q]
    exact ⟨σ4, rfl, m2⟩
  · rw [he, if_neg (show ¬ (1 : Nat) = 0 by decide), if_neg (show ¬ (1 : Nat) = 2 by decide)] at hR3 fin
    rw [he, if_neg (show ¬ (1 : Nat) = 0 by decide), if_neg (show ¬ (1 : Nat) = 2 by decide)]
    rw [List.append_nil] at hR3 fin ⊢
    obtain ⟨σ3, m1, m2⟩ := cbr hw hJ hF hb hrec hx hxn (w := 0) (by omega) hlev k4' hR3
    have m1' : F_X4_putBranch rec σ2 (nI x) 0 (nI lev) = some σ3 := m1
    obtain ⟨z, σ4, m3, m4⟩ := fin σ3 m2
    rw [if_neg (show ¬ nI 1 < 1 by decide), m1', zb_q, if_neg (show ¬ nI 1 = 2 by decide), m3, zb2_q]
    exact ⟨σ4, rfl, m4⟩
  · rw [he, if_neg (show ¬ (2 : Nat) = 0 by decide), if_pos rfl] at hR3 fin
    rw [he, if_neg (show ¬ (2 : Nat) = 0 by decide), if_pos rfl]
    obtain ⟨hA, hB⟩ := hR3.app
    obtain ⟨σ3, m1, m2⟩ := cbr hw hJ hF hb hrec hx hxn (w := 0) (by omega) hlev k4' hA
    have m1' : F_X4_putBranch rec σ2 (nI x) 0 (nI lev) = some σ3 := m1
    have hB2 := hB.cons
    obtain ⟨σ4, m3, m4⟩ := c_put m2 hB2.1 400
    obtain ⟨hD1, hD2⟩ := hB2.2.app
    have m4' : CS σ0 (ex1 (0, 400, 0) (ex (br (tr (mkG n kd f0 f1 0) kd D) (mkG n kd f0 f1 0) (2 * x)) t2)) σ4 := m4
    obtain ⟨σ5, m5, m6⟩ := cbr hw hJ hF hb hrec hx hxn (w := 1) (by omega) hlev m4' hD1
    have m5' : F_X4_putBranch rec σ4 (nI x) 1 (nI lev) = some σ5 := m5
    obtain ⟨σ6, m7, m8⟩ := c_put m6 hD2.cons.1 401
    have e400 : (400 : Int32) = nI 400 := rfl
    have e401 : (401 : Int32) = nI 401 := rfl
    obtain ⟨z, σ7, m9, m10⟩ := fin σ6 (by
      rw [ex_app]
      show CS σ0 (ex (br (tr (mkG n kd f0 f1 0) kd D) (mkG n kd f0 f1 0) (2 * x + 1) ++ [(0, 401, 0)]) (ex1 (0, 400, 0) (ex (br (tr (mkG n kd f0 f1 0) kd D) (mkG n kd f0 f1 0) (2 * x)) t2))) σ6
      rw [ex_app]
      exact m8)
    rw [if_neg (show ¬ nI 2 < 1 by decide), m1', zb_q, if_pos (show nI 2 = 2 from rfl), e400, m3, zb_q, m5', zb_q, e401, m7, zb_q, m9, zb2_q]
    exact ⟨σ7, rfl, m10⟩
theorem ctr (hw : gwf n kd f0 f1) (h0 : 0 < n) (hJ : JIs σ0 3 n kd f0 f1) (hF : FlowIs σ0 3 (mkG n kd f0 f1 0)) (hb : bd (mkG n kd f0 f1 0) = 0) : ∀ (D x : Nat) (σ : SF) (t : St), x ∈ po (mkG n kd f0 f1 0) → pc (dk (mkG n kd f0 f1 0) x) + D = 9 → CS σ0 t σ → Rm t (tr (mkG n kd f0 f1 0) kd D x) → ∃ σ', F_X4_putTree (D + 1) σ (nI x) (nI (8 - D)) = some σ' ∧ CS σ0 (ex (tr (mkG n kd f0 f1 0) kd D x) t) σ' := by
  have hg := mkG_ok hw 0
  have hn := hw.1
  intro D
  induction D with
  | zero =>
    intro x σ t hx hp
    have := pc_le8 (dk_lt (mkG n kd f0 f1 0) x)
    omega
  | succ D ih =>
    intro x σ t hx hp hC hR
    have hxn := Rch_n hw h0 ((mem_po hg).mp hx)
    have hpos : 0 < pc (dk (mkG n kd f0 f1 0) x) := by
      have h1 : (dk (mkG n kd f0 f1 0) x).testBit x = true := (dk_iff hg).mpr (Dm.refl ((mem_po hg).mp hx))
      have := pc_clr (show x < 16 by omega) h1
      omega
    have hrec : Crec σ0 (mkG n kd f0 f1 0) kd D (8 - (D + 1)) (fun σ x1 x2 => F_X4_putTree (D + 1) σ x1 x2) := by
      intro v σ t hv hpv hCv hRv
      have := ih v σ t hv (by omega) hCv hRv
      rw [show 8 - (D + 1) + 1 = 8 - D by omega]
      exact this
    have hlev : pc (dk (mkG n kd f0 f1 0) x) = 8 - (D + 1) + 1 := by omega
    have e300 : (300 : Int32) = nI 300 := rfl
    have e100 : (100 : Int32) + nI x = nI (100 + x) := nI_add 100 x
    unfold tr at hR ⊢
    unfold F_X4_putTree B_X4_putTree
    rw [has1 (hC.J hJ) hn hxn, zb_q, if_neg i10, if_pos (show nI (8 - (D + 1)) < 8 from nI_lt (b := 8) (by omega) (by decide)), q_head hg (hC.J hJ) hn (hC.F hF) hxn, zb_q]
    cases hh : (hd (mkG n kd f0 f1 0)).testBit x with
    | false =>
      rw [hh] at hR
      have hR' : Rm t (wi (tr (mkG n kd f0 f1 0) kd D) (mkG n kd f0 f1 0) (en (kd x)) x ++ []) := hR
      rw [List.append_nil] at hR'
      obtain ⟨σ1, k1, k2⟩ := cwi hw h0 hJ hF hb hrec hx hlev hC hR'
      rw [if_pos (by simp), k1, zb_q, if_pos (by simp)]
      refine ⟨σ1, rfl, ?_⟩
      show CS σ0 (ex (wi (tr (mkG n kd f0 f1 0) kd D) (mkG n kd f0 f1 0) (en (kd x)) x ++ []) t) σ1
      rw [List.append_nil]; exact k2
    | true =>
      rw [hh] at hR
      have hR' : Rm t ((1, 100 + x, 0) :: (wi (tr (mkG n kd f0 f1 0) kd D) (mkG n kd f0 f1 0) (en (kd x)) x ++ [(2, 300, 0)])) := hR
      have hc := hR'.cons
      have ho : t.2.2.2.2.length < 16 := by
        have := hR'.2
        have e : ops ((1, 100 + x, 0) :: (wi (tr (mkG n kd f0 f1 0) kd D) (mkG n kd f0 f1 0) (en (kd x)) x ++ [(2, 300, 0)])) = 1 + ops (wi (tr (mkG n kd f0 f1 0) kd D) (mkG n kd f0 f1 0) (en (kd x)) x ++ [(2, 300, 0)]) := by unfold ops; rw [List.filter_cons]; simp; omega
        omega
      obtain ⟨σ1, k1, k2⟩ := c_open hC hc.1 ho (show 100 + x < 256 by omega)
      obtain ⟨hA, hB⟩ := hc.2.app
      obtain ⟨σ2, k3, k4⟩ := cwi hw h0 hJ hF hb hrec hx hlev k2 hA
      obtain ⟨σ3, k5, k6⟩ := c_close k4 hB.cons.1 (by have := hB.2; omega) 300
      rw [if_neg (by simp), e100, k1, zb_q, k3, zb_q, if_neg (by simp), e300, k5, zb_q]
      refine ⟨σ3, rfl, ?_⟩
      show CS σ0 (ex (wi (tr (mkG n kd f0 f1 0) kd D) (mkG n kd f0 f1 0) (en (kd x)) x ++ [(2, 300, 0)]) (ex1 (1, 100 + x, 0) t)) σ3
      rw [ex_app]
      exact k6
end CT
