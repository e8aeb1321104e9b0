/-! the class mends -/
def trK (σ σ' : SF) : Prop := ∀ c, (c < 35 ∨ 40 < c) → σ' c = σ c
theorem trK.refl (σ : SF) : trK σ σ := fun _ _ => rfl
theorem trK.trans {a b c : SF} (h1 : trK a b) (h2 : trK b c) : trK a c := fun i h => (h2 i h).trans (h1 i h)
theorem fl_trK (σ : SF) (o t s d p r : Nat → Int32) : trK σ (fl σ 31 o t s d p r) := fun c h => by
  unfold fl
  simp [show c ≠ 31 + 4 by omega, show c ≠ 31 + 5 by omega, show c ≠ 31 + 6 by omega, show c ≠ 31 + 7 by omega, show c ≠ 31 + 8 by omega, show c ≠ 31 + 9 by omega]
theorem JIs.eqv {σ σ' : SF} {b n : Nat} {kd f0 f1 : Nat → Nat} (h : JIs σ b n kd f0 f1) (e0 : σ' b = σ b) (e1 : σ' (b + 1) = σ (b + 1)) (e2 : σ' (b + 2) = σ (b + 2)) (e3 : σ' (b + 3) = σ (b + 3)) : JIs σ' b n kd f0 f1 := by
  unfold JIs
  rw [e0, e1, e2, e3]; exact h
theorem FlowIs.eqv {σ σ' : SF} {j : Nat} {g : Gr} (h : FlowIs σ j g) (e4 : σ' (j + 4) = σ (j + 4)) (e6 : σ' (j + 6) = σ (j + 6)) (e7 : σ' (j + 7) = σ (j + 7)) (e8 : σ' (j + 8) = σ (j + 8)) (e9 : σ' (j + 9) = σ (j + 9)) : FlowIs σ' j g := by
  unfold FlowIs
  rw [e4, e6, e7, e8, e9]; exact h
def CB (σ : SF) (n : Nat) (kd f0 f1 : Nat → Nat) : Prop := JIs σ 3 n kd f0 f1 ∧ FlowIs σ 3 (mkG n kd f0 f1 0) ∧ JIs σ 31 n kd f0 f1
theorem CB.trK {σ σ' : SF} {n : Nat} {kd f0 f1 : Nat → Nat} (h : CB σ n kd f0 f1) (ht : trK σ σ') : CB σ' n kd f0 f1 :=
  ⟨h.1.eqv (ht _ (by omega)) (ht _ (by omega)) (ht _ (by omega)) (ht _ (by omega)), h.2.1.eqv (ht _ (by omega)) (ht _ (by omega)) (ht _ (by omega)) (ht _ (by omega)) (ht _ (by omega)), h.2.2.eqv (ht _ (by omega)) (ht _ (by omega)) (ht _ (by omega)) (ht _ (by omega))⟩
theorem sv_m1 (g : Gr) (e : Nat) : sv g e = -1 ↔ (lvE g e).isSome = false := by
  unfold sv
  cases lvE g e with
  | none => simp
  | some t =>
    simp only [Option.isSome_some]
    constructor
    · intro h
      split at h
      · cases h
      · split at h <;> cases h
    · intro h; cases h
section CM
variable {n : Nat} {kd f0 f1 : Nat → Nat}
theorem q_state2 (hw : gwf n kd f0 f1) {σ : SF} (hB : CB σ n kd f0 f1) {e : Nat} (he : e < 16) : F_X0_stateOf σ 3 (nI e / 2) (nI e - nI e / 2 * 2) = some (sv (mkG n kd f0 f1 0) e) := by
  have hn := hw.1
  have hm : nI e - nI e / 2 * 2 = nI (e % 2) := pk_rem (d := 2) (by omega) (by decide) (by decide)
  have hd : nI e / 2 = nI (e / 2) := pk_div (d := 2) (by omega) (by decide) (by decide)
  rw [hm, hd]
  by_cases q : e / 2 < n
  · rw [q_state hB.1 hn hB.2.1 q (by omega), show 2 * (e / 2) + e % 2 = e by omega]
  · have e1 : sv (mkG n kd f0 f1 0) e = -1 := (sv_m1 _ _).mpr (by
      unfold lvE
      split
      · cases h : mkG n kd f0 f1 0 e with
        | none => rfl
        | some t => have := mkG_lt hw h; omega
      · rfl)
    rw [e1]
    unfold F_X0_stateOf
    rw [F_has_nI hB.1.1 (by omega) (by omega), if_neg q, zb_q, if_pos rfl]
abbrev Fbd (n : Nat) (kd f0 f1 : Nat → Nat) : Nat → Prop := fun W => bd (mkG n kd f0 f1 W) = 0
theorem lo_base (hw : gwf n kd f0 f1) (h0 : 0 < n) {σ : SF} (hB : CB σ n kd f0 f1) {N b S : Nat} (hS : S < 2 ^ 16) : ∃ r σ', F_X6_leastLeftOut (N + 1) σ (nI 0) (nI b) (nI S) = some (r, σ') ∧ trK σ σ' ∧ LL (lmk (mkG n kd f0 f1 0) 16) (Fbd n kd f0 f1) 0 b S r := by
  obtain ⟨o, t, s, d, p, r, h1, h2⟩ := look_ok hB.2.2 hw h0 hS
  have h3 := q_folds (mkG_ok hw S) h2
  have z0 : ∀ T, pc T = 0 → T < 2 ^ 16 → T = 0 := fun T hT hl => pc_sub_eq (A := 0) (B := T) (by decide) hl (fun i hi => by simp at hi) (by rw [hT]; decide +kernel) |>.symm
  have hx : F_X6_leastLeftOut (N + 1) σ (nI 0) (nI b) (nI S) = some (if bd (mkG n kd f0 f1 S) = 0 then nI S else -1, fl σ 31 o t s d p r) := by
    unfold F_X6_leastLeftOut B_X6_leastLeftOut
    rw [if_neg (by decide), h1, zb_q, h3, zb_q]
    by_cases q : bd (mkG n kd f0 f1 S) = 0
    · rw [if_pos q, if_neg (by decide), if_pos q]
    · rw [if_neg q, if_pos rfl, if_neg q]
  refine ⟨_, _, hx, fl_trK _ _ _ _ _ _ _, ?_⟩
  have hlm := lmk_lt (mkG n kd f0 f1 0) 16
  by_cases q : bd (mkG n kd f0 f1 S) = 0
  · left
    rw [if_pos q]
    refine ⟨0, Nat.two_pow_pos _, fun i hi => by simp at hi, by decide +kernel, ?_, by simp, fun T' _ _ _ _ => Nat.zero_le _⟩
    show bd (mkG n kd f0 f1 (S ||| 0)) = 0
    simpa using q
  · right
    rw [if_neg q]
    refine ⟨rfl, fun T hT hs hp hF => q ?_⟩
    have := z0 T hp (sub_lt hs hlm)
    subst this
    have hF' : bd (mkG n kd f0 f1 (S ||| 0)) = 0 := hF
    simpa using hF'
theorem lo_loop (hw : gwf n kd f0 f1) {N k b S : Nat} (hb : b ≤ 16) (hk : k < 8) (hS : S < 2 ^ 16)
    (hrec : ∀ (σ : SF) (y S : Nat), CB σ n kd f0 f1 → y ≤ 16 → S < 2 ^ 16 → ∃ r σ', F_X6_leastLeftOut N σ (nI k) (nI y) (nI S) = some (r, σ') ∧ trK σ σ' ∧ LL (lmk (mkG n kd f0 f1 0) 16) (Fbd n kd f0 f1) k y S r) :
    ∀ (m M y : Nat) (σ : SF), b - y ≤ m → m < M → y ≤ 16 → CB σ n kd f0 f1 → (∀ T, T < 2 ^ y → sub T (lmk (mkG n kd f0 f1 0) 16) → pc T = k + 1 → ¬ Fbd n kd f0 f1 (S ||| T)) →
    (∃ r σ', L_X6_leastLeftOut_33 (fun σ x1 x2 x3 => F_X6_leastLeftOut N σ x1 x2 x3) (nI (k + 1)) (nI b) (nI S) M (nI y) σ = some (.inl (r, σ')) ∧ trK σ σ' ∧ LL (lmk (mkG n kd f0 f1 0) 16) (Fbd n kd f0 f1) (k + 1) b S r) ∨
    (∃ z σ', L_X6_leastLeftOut_33 (fun σ x1 x2 x3 => F_X6_leastLeftOut N σ x1 x2 x3) (nI (k + 1)) (nI b) (nI S) M (nI y) σ = some (.inr (z, σ')) ∧ trK σ σ' ∧ LL (lmk (mkG n kd f0 f1 0) 16) (Fbd n kd f0 f1) (k + 1) b S (-1)) := by
  have hg := mkG_ok hw 0
  intro m
  have fin : ∀ (M y : Nat) (σ : SF), 0 < M → b ≤ y → y ≤ 16 → (∀ T, T < 2 ^ y → sub T (lmk (mkG n kd f0 f1 0) 16) → pc T = k + 1 → ¬ Fbd n kd f0 f1 (S ||| T)) →
      (∃ z σ', L_X6_leastLeftOut_33 (fun σ x1 x2 x3 => F_X6_leastLeftOut N σ x1 x2 x3) (nI (k + 1)) (nI b) (nI S) M (nI y) σ = some (.inr (z, σ')) ∧ trK σ σ' ∧ LL (lmk (mkG n kd f0 f1 0) 16) (Fbd n kd f0 f1) (k + 1) b S (-1)) := by
    intro M y σ hM hby hy hno
    obtain ⟨M, rfl⟩ : ∃ K, M = K + 1 := ⟨M - 1, by omega⟩
    refine ⟨nI y, σ, ?_, trK.refl _, Or.inr ⟨rfl, fun T hT => hno T (Nat.lt_of_lt_of_le hT (Nat.pow_le_pow_right (by decide) hby))⟩⟩
    unfold L_X6_leastLeftOut_33
    rw [if_pos (nI_le hby (by omega))]
  induction m with
  | zero =>
    intro M y σ hm hM hy hB hno
    exact Or.inr (fin M y σ (by omega) (by omega) hy hno)
  | succ m ih =>
    intro M y σ hm hM hy hB hno
    by_cases hby : b ≤ y
    · exact Or.inr (fin M y σ (by omega) hby hy hno)
    obtain ⟨M, rfl⟩ : ∃ K, M = K + 1 := ⟨M - 1, by omega⟩
    have e1 : nI (k + 1) - 1 = nI k := by rw [nl_1, pk_sub (by omega)]; rfl
    have hst := q_state2 hw hB (show y < 16 by omega)
    have htb : (lmk (mkG n kd f0 f1 0) 16).testBit y = (lvE (mkG n kd f0 f1 0) y).isSome := by
      rw [lmk_tb]; simp [show y < 16 by omega]
    conv => lhs; unfold L_X6_leastLeftOut_33
    conv => rhs; unfold L_X6_leastLeftOut_33
    rw [if_neg (nI_ge (by omega) (by omega)), hst, zb_q, e1, nI_1, nq_1 (show y < 31 by omega), fa_or]
    by_cases hl : sv (mkG n kd f0 f1 0) y = -1
    · rw [if_pos hl, zl_q]
      refine ih M (y + 1) σ (by omega) (by omega) (by omega) hB (fun T hT hs hp => ?_)
      have hbf : T.testBit y = false := by
        cases hc : T.testBit y with
        | false => rfl
        | true => have := hs y hc; rw [htb, (sv_m1 _ _).mp hl] at this; cases this
      exact hno T (lt_of_tb hT hbf) hs hp
    · rw [if_neg hl]
      have hlive : (lvE (mkG n kd f0 f1 0) y).isSome = true := by
        cases hc : (lvE (mkG n kd f0 f1 0) y).isSome with
        | true => rfl
        | false => exact absurd ((sv_m1 _ _).mpr hc) hl
      have hpy := nq_pow (show y < 16 by omega)
      obtain ⟨r, σ', h1, h2, h3⟩ := hrec σ y (S ||| 2 ^ y) hB (by omega) (nq_or hS hpy)
      rw [h1, zb2_q]
      have hor : ∀ T0, (S ||| 2 ^ y) ||| T0 = S ||| (T0 ||| 2 ^ y) := fun T0 => by rw [Nat.or_assoc, Nat.or_comm (2 ^ y) T0]
      rcases h3 with ⟨T0, g1, g2, g3, g4, g5, g6⟩ | ⟨g1, g2⟩
      · left
        have hT0 : T0 < 2 ^ 16 := Nat.lt_of_lt_of_le g1 (Nat.pow_le_pow_right (by decide) (by omega))
        have hlt : (S ||| 2 ^ y) ||| T0 < 2 ^ 16 := nq_or (nq_or hS hpy) hT0
        rw [if_neg (by rw [g5]; exact fun z => (nI_m1 (by omega)).mp z)]
        refine ⟨r, σ', rfl, h2, Or.inl ⟨T0 ||| 2 ^ y, ?_, ?_, ?_, ?_, ?_, ?_⟩⟩
        · exact nq_or (Nat.lt_of_lt_of_le g1 (Nat.pow_le_pow_right (by decide) (by omega))) (nq_pow (by omega))
        · intro i hi
          rw [Nat.testBit_or, nq_two, Bool.or_eq_true, decide_eq_true_eq] at hi
          rcases hi with hi | rfl
          · exact g2 i hi
          · rw [htb]; exact hlive
        · rw [pc_top (by omega) g1, g3]
        · rw [← hor]; exact g4
        · rw [← hor]; exact g5
        · intro T' hT' hs' hp' hF'
          rw [or_top g1]
          rcases Nat.lt_or_ge T' (2 ^ y) with q | q
          · exact absurd hF' (hno T' q hs' hp')
          · rcases Nat.lt_or_ge T' (2 ^ (y + 1)) with q2 | q2
            · have hbt : T'.testBit y = true := by
                cases hc : T'.testBit y with
                | true => rfl
                | false => have := lt_of_tb q2 hc; omega
              obtain ⟨T1, k1, k2⟩ := top_split q2 hbt
              have : T0 ≤ T1 := by
                refine g6 T1 k1 (fun i hi => hs' i (by rw [k2, Nat.testBit_or, hi]; rfl)) ?_ ?_
                · have := pc_top (show y < 16 by omega) k1
                  rw [← k2] at this; omega
                · rw [hor, ← k2]; exact hF'
              rw [k2, or_top k1]; omega
            · have : 2 ^ (y + 1) = 2 ^ y + 2 ^ y := by rw [Nat.pow_succ]; omega
              omega
      · rw [if_pos g1, zl_q]
        have hno2 : ∀ T, T < 2 ^ (y + 1) → sub T (lmk (mkG n kd f0 f1 0) 16) → pc T = k + 1 → ¬ Fbd n kd f0 f1 (S ||| T) := by
          intro T hT hs hp hF
          cases hc : T.testBit y with
          | false => exact hno T (lt_of_tb hT hc) hs hp hF
          | true =>
            obtain ⟨T1, k1, k2⟩ := top_split hT hc
            refine g2 T1 k1 (fun i hi => hs i (by rw [k2, Nat.testBit_or, hi]; rfl)) ?_ ?_
            · have := pc_top (show y < 16 by omega) k1
              rw [← k2] at this; omega
            · rw [hor, ← k2]; exact hF
        rcases ih M (y + 1) σ' (by omega) (by omega) (by omega) (hB.trK h2) hno2 with ⟨r2, σ2, i1, i2, i3⟩ | ⟨z2, σ2, i1, i2, i3⟩
        · exact Or.inl ⟨r2, σ2, i1, h2.trans i2, i3⟩
        · exact Or.inr ⟨z2, σ2, i1, h2.trans i2, i3⟩
theorem lo_all (hw : gwf n kd f0 f1) (h0 : 0 < n) : ∀ (k N b S : Nat) (σ : SF), k < 8 → k < N → b ≤ 16 → S < 2 ^ 16 → CB σ n kd f0 f1 → ∃ r σ', F_X6_leastLeftOut N σ (nI k) (nI b) (nI S) = some (r, σ') ∧ trK σ σ' ∧ LL (lmk (mkG n kd f0 f1 0) 16) (Fbd n kd f0 f1) k b S r := by
  intro k
  induction k with
  | zero =>
    intro N b S σ _ hN hb hS hB
    obtain ⟨N, rfl⟩ : ∃ K, N = K + 1 := ⟨N - 1, by omega⟩
    exact lo_base hw h0 hB hS
  | succ k ih =>
    intro N b S σ hk hN hb hS hB
    obtain ⟨N, rfl⟩ : ∃ K, N = K + 1 := ⟨N - 1, by omega⟩
    have e1 : nI (k + 1) - 1 = nI k := by rw [nl_1, pk_sub (by omega)]; rfl
    have hl := lo_loop hw hb (show k < 8 by omega) hS (fun σ y S hB hy hS => ih N y S σ (by omega) (by omega) hy hS hB) 16 100 k σ (by omega) (by omega) (by omega) hB (fun T hT hs hp => by
      have := pc_bound hT (by omega)
      omega)
    unfold F_X6_leastLeftOut B_X6_leastLeftOut
    rw [if_pos (show (0 : Int32) < nI (k + 1) from nI_lt (a := 0) (by omega) (by omega)), zl_q, e1]
    rcases hl with ⟨r, σ', h1, h2, h3⟩ | ⟨z, σ', h1, h2, h3⟩
    · rw [h1, zs_ql]
      exact ⟨r, σ', rfl, h2, h3⟩
    · rw [h1, zs_qr, zb2_q]
      exact ⟨-1, σ', rfl, h2, h3⟩
end CM
