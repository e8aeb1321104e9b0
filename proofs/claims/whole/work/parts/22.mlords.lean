/-! lords -/
theorem or0 (a : Nat) : nI a ||| 0 = nI a := by rw [nl_0, fa_or]; simp
theorem rfrom_in {f t : Nat → Int32} {e m k : Nat} (h : e ≤ k) (h2 : k < m) : rfrom f t e m k = f k := by unfold rfrom; rw [if_pos ⟨h, h2⟩]
theorem rfrom_out {f t : Nat → Int32} {e m k : Nat} (h : k < e ∨ m ≤ k) : rfrom f t e m k = t k := by unfold rfrom; rw [if_neg (by omega)]
section LO
variable {τ : SF} {o a b x y : Nat → Int32} {n : Nat}
theorem lo2_loop (ho : o 18 = nI n) (hn : n ≤ 8) : ∀ (m N i : Nat) (c d : Nat → Int32), i + m = n → m < N → L_X7_layLords_2 N (nI i) (ml τ o a b c d x y) = some (nI n, ml τ o a b (rfrom (fun _ => 0) c i n) (rfrom (fun _ => -1) d i n) x y) := by
  intro m
  induction m with
  | zero =>
    intro N i c d hi hN
    obtain ⟨N, rfl⟩ : ∃ K, N = K + 1 := ⟨N - 1, by omega⟩
    have : i = n := by omega
    subst this
    unfold L_X7_layLords_2
    rw [ml_0, ho, if_pos (nI_le (Nat.le_refl _) (by omega)), rfrom_end (Nat.le_refl _), rfrom_end (Nat.le_refl _)]
  | succ m ih =>
    intro N i c d hi hN
    obtain ⟨N, rfl⟩ : ∃ K, N = K + 1 := ⟨N - 1, by omega⟩
    have hz := nq_zin1 (show i < 8 by omega) (by decide)
    unfold L_X7_layLords_2
    rw [ml_0, ho, if_neg (nI_ge (by omega) (by omega)), zg_q hz, zl_q, zg_q hz, zl_q, zl_q, nI_clamp (by omega), ml_s14, ml_s15, nI_1, ih N (i + 1) _ _ (by omega) (by omega), rfrom_step (f := fun _ => (0 : Int32)) (by omega), rfrom_step (f := fun _ => (-1 : Int32)) (by omega)]
theorem lo70_loop (ho : o 18 = nI n) (hn : n ≤ 8) {A lf : Nat} (hA : A < 8) (hlf : lf < 2 ^ 8) {d c0 : Nat → Int32} : ∀ (m N i : Nat) (c : Nat → Int32), i + m = n → m < N → (∀ k, i ≤ k → c k = c0 k) → L_X7_layLords_70 (nI A) (nI lf) N (nI i) (ml τ o a b c d x y) = some (nI n, ml τ o a b (rfrom (fun k => c0 k ||| nI (if lf.testBit k then 2 ^ A else 0)) c i n) d x y) := by
  intro m
  induction m with
  | zero =>
    intro N i c hi hN hc
    obtain ⟨N, rfl⟩ : ∃ K, N = K + 1 := ⟨N - 1, by omega⟩
    have : i = n := by omega
    subst this
    unfold L_X7_layLords_70
    rw [ml_0, ho, if_pos (nI_le (Nat.le_refl _) (by omega)), rfrom_end (Nat.le_refl _)]
  | succ m ih =>
    intro N i c hi hN hc
    obtain ⟨N, rfl⟩ : ∃ K, N = K + 1 := ⟨N - 1, by omega⟩
    have hz := nq_zin1 (show i < 8 by omega) (by decide)
    unfold L_X7_layLords_70
    rw [ml_0, ho, if_neg (nI_ge (by omega) (by omega)), zg_q hz, F_isIn_nI (show lf < 2 ^ 31 by omega) (show i < 31 by omega), zb_q]
    have key : ∀ v : Int32, v = c0 i ||| nI (if lf.testBit i then 2 ^ A else 0) → L_X7_layLords_70 (nI A) (nI lf) N (nI (i + 1)) (ml τ o a b (upd c i v) d x y) = some (nI n, ml τ o a b (rfrom (fun k => c0 k ||| nI (if lf.testBit k then 2 ^ A else 0)) c i n) d x y) := by
      intro v hv
      rw [ih N (i + 1) _ (by omega) (by omega) (fun k hk => by unfold upd; rw [if_neg (by omega)]; exact hc k (by omega)), hv, rfrom_step (f := fun k => c0 k ||| nI (if lf.testBit k then 2 ^ A else 0)) (by omega)]
    cases hb : lf.testBit i
    · rw [if_pos (by decide), zg_q hz, zl_q, zl_q, nI_clamp (by omega), ml_14, ml_s14, nI_1]
      refine key _ ?_
      rw [hc i (Nat.le_refl _), hb]
      simp [nI_0]
    · rw [if_neg (by decide), zg_q hz, zl_q, zl_q, nI_clamp (by omega), ml_14, ml_s14, nI_1, nq_1 (show A < 31 by omega)]
      refine key _ ?_
      rw [hc i (Nat.le_refl _), hb]
      simp
end LO
section LO2
variable {τ : SF} {o a b x y d : Nat → Int32} {n W : Nat} {kd f0 f1 : Nat → Nat}
/-- after the nodes before A: of each node those before A that lie on all ways to it -/
def abIs (g : Gr) (n A : Nat) (c : Nat → Int32) : Prop := ∀ k, k < n → ∃ M, c k = nI M ∧ M < 2 ^ 8 ∧ ∀ v, M.testBit v = true ↔ (v < A ∧ Dm g v k)
theorem lo32_loop (hw : gwf n kd f0 f1) (h0 : 0 < n) (hW : W < 2 ^ 16) (hM : MIs o (τ 10) (τ 11) n kd f0 f1 W) (hr : o 22 = nI (rr (mkG n kd f0 f1 W))) : ∀ (m N A : Nat) (c : Nat → Int32), A + m = n → m < N → abIs (mkG n kd f0 f1 W) n A c → ∃ c' z, L_X7_layLords_32 N (nI A) (ml τ o a b c d x y) = some (z, ml τ o a b c' d x y) ∧ abIs (mkG n kd f0 f1 W) n n c' := by
  have hn8 := hw.1
  have hg := mkG_ok hw W
  have hrl := rr_lt hg
  have p1 := (po_ok hg).1
  intro m
  induction m with
  | zero =>
    intro N A c hi hN hc
    obtain ⟨N, rfl⟩ : ∃ K, N = K + 1 := ⟨N - 1, by omega⟩
    have : A = n := by omega
    subst this
    unfold L_X7_layLords_32
    rw [ml_0, hM.1, if_pos (nI_le (Nat.le_refl _) (by omega))]
    exact ⟨c, _, rfl, hc⟩
  | succ m ih =>
    intro N A c hi hN hc
    obtain ⟨N, rfl⟩ : ∃ K, N = K + 1 := ⟨N - 1, by omega⟩
    have key : ∀ lf : Nat, lf < 2 ^ 8 → (∀ k, k < n → (lf.testBit k = true ↔ Dm (mkG n kd f0 f1 W) A k)) → ∃ c' z, L_X7_layLords_32 N (nI (A + 1)) (ml τ o a b (rfrom (fun k => c k ||| nI (if lf.testBit k then 2 ^ A else 0)) c 0 n) d x y) = some (z, ml τ o a b c' d x y) ∧ abIs (mkG n kd f0 f1 W) n n c' := by
      intro lf hlf hlk
      refine ih N (A + 1) _ (by omega) (by omega) (fun k hk => ?_)
      obtain ⟨M, hM1, hM2, hM3⟩ := hc k hk
      rw [rfrom_in (Nat.zero_le _) hk, hM1, fa_or]
      refine ⟨_, rfl, nq_or hM2 (by split; exact nq_pow (by omega); decide), fun v => ?_⟩
      rw [Nat.testBit_or, Bool.or_eq_true, hM3]
      cases hb : lf.testBit k with
      | true =>
        have hd := (hlk k hk).mp hb
        simp only [if_true, nq_two, decide_eq_true_eq]
        constructor
        · rintro (⟨q1, q2⟩ | rfl)
          · exact ⟨by omega, q2⟩
          · exact ⟨by omega, hd⟩
        · rintro ⟨q1, q2⟩
          by_cases e : v = A
          · exact Or.inr e.symm
          · exact Or.inl ⟨by omega, q2⟩
      | false =>
        simp only [Bool.false_eq_true, if_false, Nat.zero_testBit, or_false]
        constructor
        · rintro ⟨q1, q2⟩; exact ⟨by omega, q2⟩
        · rintro ⟨q1, q2⟩
          by_cases e : v = A
          · subst e
            have := (hlk k hk).mpr q2
            rw [hb] at this; cases this
          · exact ⟨by omega, q2⟩
    unfold L_X7_layLords_32
    rw [ml_0, hM.1, if_neg (nI_ge (by omega) (by omega)), hr, F_isIn_nI (show rr (mkG n kd f0 f1 W) < 2 ^ 31 by omega) (show A < 31 by omega), zb_q]
    cases hb : (rr (mkG n kd f0 f1 W)).testBit A
    · rw [if_pos (by decide)]
      have e1 : L_X7_layLords_70 (nI A) 0 100 0 (ml τ o a b c d x y) = some (nI n, ml τ o a b (rfrom (fun k => c k ||| nI (if (0 : Nat).testBit k then 2 ^ A else 0)) c 0 n) d x y) := lo70_loop (lf := 0) hM.1 hn8 (by omega) (by decide) n 100 0 c (by omega) (by omega) (fun _ _ => rfl)
      rw [e1, zb2_q, zl_q, nI_1]
      refine key 0 (by decide) (fun k hk => ⟨fun h => by simp at h, fun h => ?_⟩)
      have := (mem_po hg).mpr h.1
      rw [p1] at hb
      simp [this] at hb
    · rw [if_neg (by decide)]
      obtain ⟨M, hM1, hM2, hM3⟩ := F_without_nI (τ := ml τ o a b c d x y) (a := A) hw hW hM (by omega)
      rw [hM1, zb_q, zl_q, nq_andnot]
      have hlf : (rr (mkG n kd f0 f1 W) ^^^ (rr (mkG n kd f0 f1 W) &&& M)) < 2 ^ 8 := by
        apply Nat.lt_pow_two_of_testBit
        intro i hi
        rw [Nat.testBit_xor, Nat.testBit_and, nq_tb hrl hi]; rfl
      have e1 : L_X7_layLords_70 (nI A) (nI (rr (mkG n kd f0 f1 W) ^^^ (rr (mkG n kd f0 f1 W) &&& M))) 100 0 (ml τ o a b c d x y) = some (nI n, ml τ o a b (rfrom (fun k => c k ||| nI (if (rr (mkG n kd f0 f1 W) ^^^ (rr (mkG n kd f0 f1 W) &&& M)).testBit k then 2 ^ A else 0)) c 0 n) d x y) := lo70_loop hM.1 hn8 (by omega) hlf n 100 0 c (by omega) (by omega) (fun _ _ => rfl)
      rw [e1, zb2_q, zl_q, nI_1]
      refine key _ hlf (fun k hk => ?_)
      rw [p1] at hb
      have hA : Rch (mkG n kd f0 f1 W) 99 A := (mem_po hg).mp (by simpa using hb)
      rw [Nat.testBit_xor, Nat.testBit_and, p1]
      by_cases hkm : k ∈ po (mkG n kd f0 f1 W)
      · simp only [hkm, decide_true, Bool.true_and, Bool.true_bne, Bool.not_eq_true']
        constructor
        · intro h
          refine ⟨hA, (mem_po hg).mp hkm, fun q => ?_⟩
          rw [(hM3 k).mpr q] at h; cases h
        · intro h
          cases hmb : M.testBit k with
          | false => rfl
          | true => exact absurd ((hM3 k).mp hmb) h.2.2
      · simp only [hkm, decide_false, Bool.false_and]
        constructor
        · intro h; cases h
        · intro h; exact absurd ((mem_po hg).mpr h.2.1) hkm
end LO2
theorem F_size_loop {M : Nat} (hM : M < 2 ^ 16) : ∀ (m N i : Nat), i + m = 16 → m < N → L_X7_size_4 (nI M) N (nI (fb_ct (fun k => M.testBit k) i)) (nI i) = some (nI (pc M), nI 16) := by
  intro m
  induction m with
  | zero =>
    intro N i hi hN
    obtain ⟨N, rfl⟩ : ∃ K, N = K + 1 := ⟨N - 1, by omega⟩
    have : i = 16 := by omega
    subst this
    unfold L_X7_size_4
    rw [if_pos (by decide)]
    rfl
  | succ m ih =>
    intro N i hi hN
    obtain ⟨N, rfl⟩ : ∃ K, N = K + 1 := ⟨N - 1, by omega⟩
    unfold L_X7_size_4
    rw [if_neg (by rw [nl_16]; exact nI_ge (by omega) (by decide)), zl_q, zl_q, nq_bit (by omega) (by omega), nI_add, nI_1, ← fb_ct_succ]
    exact ih N (i + 1) (by omega) (by omega)
theorem F_size_nI {M : Nat} (hM : M < 2 ^ 16) : F_X7_size (nI M) = some (nI (pc M)) := by
  unfold F_X7_size
  have e : L_X7_size_4 (nI M) 100 0 0 = some (nI (pc M), nI 16) := F_size_loop hM 16 100 0 (by omega) (by decide)
  rw [e, zb2_q]
/-- a node's lord, as it is told -/
noncomputable def ld (g : Gr) (v : Nat) : Int32 := @dite _ (∃ a, Lrd g a v) (Classical.propDecidable _) (fun h => nI (Classical.choose h)) (fun _ => -1)
theorem ld_some {g : Gr} (hg : gok g) {a v : Nat} (h : Lrd g a v) : ld g v = nI a := by
  have hx : ∃ a, Lrd g a v := ⟨a, h⟩
  unfold ld
  rw [dif_pos hx]
  exact congrArg nI (Lrd.uniq hg (Classical.choose_spec hx) h)
theorem ld_none {g : Gr} {v : Nat} (h : ∀ a, ¬ Lrd g a v) : ld g v = -1 := by
  unfold ld
  rw [dif_neg (fun ⟨a, q⟩ => h a q)]
/-- the lord among those before i -/
def LV (g : Gr) (v i : Nat) (z : Int32) : Prop := (∃ a, a < i ∧ Lrd g a v ∧ z = nI a) ∨ ((∀ a, a < i → ¬ Lrd g a v) ∧ z = -1)
section LO3
variable {τ : SF} {o a b c x y : Nat → Int32} {n : Nat}
theorem lo126_loop {g : Gr} (hg : gok g) (ho : o 18 = nI n) (hn : n ≤ 8) (hc : ∀ k, k < n → c k = nI (dk g k)) {v : Nat} (hv : v < n) : ∀ (m N i : Nat) (d : Nat → Int32), i + m = n → m < N → LV g v i (d v) → ∃ z w, L_X7_layLords_126 (nI v) N (nI i) (ml τ o a b c d x y) = some (z, ml τ o a b c (upd d v w) x y) ∧ LV g v n w := by
  intro m
  induction m with
  | zero =>
    intro N i d hi hN hd
    obtain ⟨N, rfl⟩ : ∃ K, N = K + 1 := ⟨N - 1, by omega⟩
    have : i = n := by omega
    subst this
    unfold L_X7_layLords_126
    rw [ml_0, ho, if_pos (nI_le (Nat.le_refl _) (by omega))]
    exact ⟨_, d v, by rw [fa_upd_same rfl], hd⟩
  | succ m ih =>
    intro N i d hi hN hd
    obtain ⟨N, rfl⟩ : ∃ K, N = K + 1 := ⟨N - 1, by omega⟩
    have hzv := nq_zin1 (show v < 8 by omega) (by decide)
    have hzi := nq_zin1 (show i < 8 by omega) (by decide)
    have hkv := dk_lt g v
    have hki := dk_lt g i
    -- nothing, or a new lord
    have keep : ¬ Lrd g i v → ∃ z w, L_X7_layLords_126 (nI v) N (nI (i + 1)) (ml τ o a b c (upd d v (d v)) x y) = some (z, ml τ o a b c (upd d v w) x y) ∧ LV g v n w := by
      intro hno
      rw [fa_upd_same rfl]
      refine ih N (i + 1) d (by omega) (by omega) ?_
      rcases hd with ⟨q, h1, h2, h3⟩ | ⟨h1, h2⟩
      · exact Or.inl ⟨q, by omega, h2, h3⟩
      · refine Or.inr ⟨fun q hq => ?_, h2⟩
        by_cases e : q = i
        · subst e; exact hno
        · exact h1 q (by omega)
    have newl : Lrd g i v → ∃ z w, L_X7_layLords_126 (nI v) N (nI (i + 1)) (ml τ o a b c (upd d v (nI i)) x y) = some (z, ml τ o a b c (upd d v w) x y) ∧ LV g v n w := by
      intro hyes
      obtain ⟨z, w, e1, e2⟩ := ih N (i + 1) (upd d v (nI i)) (by omega) (by omega) (Or.inl ⟨i, by omega, hyes, by simp [upd]⟩)
      exact ⟨z, w, by rw [e1, fa_upd_twice], e2⟩
    unfold L_X7_layLords_126
    rw [ml_0, ho, if_neg (nI_ge (by omega) (by omega))]
    by_cases hiv : i = v
    · rw [if_pos (by rw [hiv]), zg_q hzv, zg_q hzv, zl_q, zl_q, nI_clamp (by omega), ml_15, ml_s15, nI_1]
      exact keep (fun h => h.1 hiv)
    · rw [if_neg (fun z => hiv ((nI_eq (by omega) (by omega)).mp z)), zg_q hzv, nI_clamp (show v < 2 ^ 31 by omega), nI_clamp (show i < 2 ^ 31 by omega), ml_14, ml_15, hc v hv, hc i (by omega), F_isIn_nI (show dk g v < 2 ^ 31 by omega) (show i < 31 by omega), zb_q]
      cases hb : (dk g v).testBit i
      · rw [if_pos (by decide), zg_q hzv, zg_q hzv, zl_q, zl_q, ml_s15, nI_1]
        refine keep (fun h => ?_)
        have := (dk_iff hg).mpr h.2.1
        rw [hb] at this; cases this
      · rw [if_neg (by decide), zg_q hzi, F_size_nI (lt816 hki), zb_q, zg_q hzv, F_size_nI (lt816 hkv), zb_q]
        have hp8 := pc_le8 hki
        have hp8v := pc_le8 hkv
        have hpos : 0 < pc (dk g v) := by
          have h1 : i < 16 := by omega
          have := pc_clr h1 hb
          omega
        rw [nl_1, pk_sub (by omega)]
        by_cases hsz : pc (dk g i) = pc (dk g v) - 1
        · rw [if_pos (by rw [hsz]), zg_q hzv, zl_q, zl_q, ml_s15, ← nl_1, nI_1]
          exact newl ((Lrd_model hg).mp ⟨hiv, hb, by omega⟩)
        · rw [if_neg (fun z => hsz ((nI_eq (by omega) (by omega)).mp z)), zg_q hzv, zg_q hzv, zl_q, zl_q, ml_s15, ← nl_1, nI_1]
          refine keep (fun h => hsz ?_)
          have := ((Lrd_model hg).mpr h).2.2
          omega
theorem lo116_loop {g : Gr} (hg : gok g) (hgn : ∀ v, Rch g 99 v → v < n) (ho : o 18 = nI n) (hn : n ≤ 8) (hc : ∀ k, k < n → c k = nI (dk g k)) : ∀ (m N v : Nat) (d : Nat → Int32), v + m = n → m < N → (∀ k, k < v → d k = ld g k) → (∀ k, v ≤ k → k < n → d k = -1) → ∃ z d', L_X7_layLords_116 N (nI v) (ml τ o a b c d x y) = some (z, ml τ o a b c d' x y) ∧ ∀ k, k < n → d' k = ld g k := by
  intro m
  induction m with
  | zero =>
    intro N v d hi hN h1 h2
    obtain ⟨N, rfl⟩ : ∃ K, N = K + 1 := ⟨N - 1, by omega⟩
    have : v = n := by omega
    subst this
    unfold L_X7_layLords_116
    rw [ml_0, ho, if_pos (nI_le (Nat.le_refl _) (by omega))]
    exact ⟨_, d, rfl, h1⟩
  | succ m ih =>
    intro N v d hi hN h1 h2
    obtain ⟨N, rfl⟩ : ∃ K, N = K + 1 := ⟨N - 1, by omega⟩
    obtain ⟨z, w, e1, e2⟩ := lo126_loop (τ := τ) (a := a) (b := b) (x := x) (y := y) hg ho hn hc (v := v) (by omega) n 100 0 d (by omega) (by omega) (Or.inr ⟨fun q hq => absurd hq (by omega), h2 v (Nat.le_refl _) (by omega)⟩)
    have hw : w = ld g v := by
      rcases e2 with ⟨q, h3, h4, h5⟩ | ⟨h3, h4⟩
      · rw [h5, ld_some hg h4]
      · rw [h4, ld_none (fun q hq => h3 q (hgn q hq.2.1.1) hq)]
    unfold L_X7_layLords_116
    have e1' : L_X7_layLords_126 (nI v) 100 0 (ml τ o a b c d x y) = some (z, ml τ o a b c (upd d v w) x y) := e1
    rw [ml_0, ho, if_neg (nI_ge (by omega) (by omega)), e1', zb2_q, zl_q, nI_1]
    refine ih N (v + 1) _ (by omega) (by omega) (fun k hk => ?_) (fun k hk hk2 => ?_)
    · unfold upd
      by_cases q : k = v
      · rw [if_pos q, hw, q]
      · rw [if_neg q]; exact h1 k (by omega)
    · unfold upd
      rw [if_neg (by omega)]; exact h2 k (by omega) hk2
end LO3
theorem F_layLords_eq {τ : SF} {o a b c d x y : Nat → Int32} {n W : Nat} {kd f0 f1 : Nat → Nat} (hw : gwf n kd f0 f1) (h0 : 0 < n) (hW : W < 2 ^ 16) (hM : MIs o (τ 10) (τ 11) n kd f0 f1 W) (hr : o 22 = nI (rr (mkG n kd f0 f1 W))) :
    ∃ c' d', F_X7_layLords (ml τ o a b c d x y) = some (ml τ o a b c' d' x y) ∧ (∀ k, k < n → c' k = nI (dk (mkG n kd f0 f1 W) k)) ∧ ∀ k, k < n → d' k = ld (mkG n kd f0 f1 W) k := by
  have hn8 := hw.1
  have hg := mkG_ok hw W
  have hl2 : L_X7_layLords_2 100 0 (ml τ o a b c d x y) = some (nI n, ml τ o a b (rfrom (fun _ => 0) c 0 n) (rfrom (fun _ => -1) d 0 n) x y) := lo2_loop hM.1 hn8 n 100 0 c d (by omega) (by omega)
  obtain ⟨c', z1, h1, h2⟩ := lo32_loop (τ := τ) (a := a) (b := b) (x := x) (y := y) (d := rfrom (fun _ => -1) d 0 n) hw h0 hW hM hr n 100 0 (rfrom (fun _ => 0) c 0 n) (by omega) (by omega) (fun k hk => ⟨0, by rw [rfrom_in (Nat.zero_le _) hk]; rfl, by decide, fun v => by simp⟩)
  have hc : ∀ k, k < n → c' k = nI (dk (mkG n kd f0 f1 W) k) := by
    intro k hk
    obtain ⟨M, q1, q2, q3⟩ := h2 k hk
    rw [q1]
    congr 1
    refine dk_uniq hg q2 (fun v _ => ?_)
    rw [q3]
    exact ⟨fun z => z.2, fun z => ⟨Rch_n hw h0 z.1, z⟩⟩
  obtain ⟨z2, d', h3, h4⟩ := lo116_loop (τ := τ) (o := o) (a := a) (b := b) (x := x) (y := y) hg (fun v hv => Rch_n hw h0 hv) hM.1 hn8 hc n 100 0 (rfrom (fun _ => -1) d 0 n) (by omega) (by omega) (fun k hk => absurd hk (by omega)) (fun k _ hk => rfrom_in (Nat.zero_le _) hk)
  refine ⟨c', d', ?_, hc, h4⟩
  unfold F_X7_layLords
  have h1' : L_X7_layLords_32 100 0 (ml τ o a b (rfrom (fun _ => 0) c 0 n) (rfrom (fun _ => -1) d 0 n) x y) = some (z1, ml τ o a b c' (rfrom (fun _ => -1) d 0 n) x y) := h1
  have h3' : L_X7_layLords_116 100 0 (ml τ o a b c' (rfrom (fun _ => -1) d 0 n) x y) = some (z2, ml τ o a b c' d' x y) := h3
  rw [hl2, zb2_q, h1', zb2_q, h3', zb2_q]
