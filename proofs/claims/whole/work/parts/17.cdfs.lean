theorem dfs_num {g : Gr} (hg : gok g) : ∀ (d v : Nat) (s : Ds), v < 8 → s.1.testBit v = false → s.1 < 2 ^ 8 →
    ((dfs g d v s).2.length + ub (dfs g d v s).1 ≤ s.2.length + ub s.1) ∧ (∀ x, s.1.testBit x = true → (dfs g d v s).1.testBit x = true) ∧ (dfs g d v s).1 < 2 ^ 8 := by
  intro d
  induction d with
  | zero => intro v s _ _ h; exact ⟨Nat.le_refl _, fun _ h => h, h⟩
  | succ d ih =>
    have hst : ∀ (e : Nat) (s : Ds), s.1 < 2 ^ 8 → ((stp (dfs g d) g e s).2.length + ub (stp (dfs g d) g e s).1 ≤ s.2.length + ub s.1) ∧ (∀ x, s.1.testBit x = true → (stp (dfs g d) g e s).1.testBit x = true) ∧ (stp (dfs g d) g e s).1 < 2 ^ 8 := by
      intro e s h
      unfold stp
      cases he : g e with
      | none => exact ⟨Nat.le_refl _, fun _ h => h, h⟩
      | some t =>
        by_cases ht : s.1.testBit t = true
        · simp only [ht, if_true]; exact ⟨Nat.le_refl _, fun _ h => h, h⟩
        · have ht' : s.1.testBit t = false := by simpa using ht
          simp only [ht', if_false, Bool.false_eq_true]
          exact ih t s (hg e t he).2 ht' h
    intro v s hv hs h8
    have hb := ub_or hv hs
    have a := hst (2 * v) (s.1 ||| 2 ^ v, s.2) (nq_or h8 (nq_pow hv))
    have b := hst (2 * v + 1) _ a.2.2
    unfold dfs
    refine ⟨?_, fun x hx => ?_, b.2.2⟩
    · have h1 := a.1
      have h2 := b.1
      simp only [List.length_append, List.length_cons, List.length_nil]
      simp only at h1
      omega
    · exact b.2.1 x (a.2.1 x (by show (s.1 ||| 2 ^ v).testBit x = true; rw [Nat.testBit_or, hx]; rfl))
theorem stp_num {g : Gr} (hg : gok g) (d e : Nat) (s : Ds) (h : s.1 < 2 ^ 8) : ((stp (dfs g d) g e s).2.length + ub (stp (dfs g d) g e s).1 ≤ s.2.length + ub s.1) ∧ (∀ x, s.1.testBit x = true → (stp (dfs g d) g e s).1.testBit x = true) ∧ (stp (dfs g d) g e s).1 < 2 ^ 8 := by
  unfold stp
  cases he : g e with
  | none => exact ⟨Nat.le_refl _, fun _ h => h, h⟩
  | some t =>
    by_cases ht : s.1.testBit t = true
    · simp only [ht, if_true]; exact ⟨Nat.le_refl _, fun _ h => h, h⟩
    · have ht' : s.1.testBit t = false := by simpa using ht
      simp only [ht', if_false, Bool.false_eq_true]
      exact dfs_num hg d t s (hg e t he).2 ht' h
/-- a row that holds a list, and behind it what it held -/
def lrow (P : List Nat) (d0 : Nat → Int32) : Nat → Int32 := fun k => if k < P.length then nI (P.getD k 0) else d0 k
theorem lrow_nil (d0 : Nat → Int32) : lrow [] d0 = d0 := by funext k; simp [lrow]
theorem lrow_app (P : List Nat) (v : Nat) (d0 : Nat → Int32) : upd (lrow P d0) P.length (nI v) = lrow (P ++ [v]) d0 := by
  funext k
  unfold upd lrow
  by_cases q : k = P.length
  · subst q; simp
  · by_cases q2 : k < P.length
    · rw [if_neg q, if_pos q2, if_pos (by simp; omega)]
      congr 1
      simp [List.getElem?_append_left q2]
    · rw [if_neg q, if_neg q2, if_neg (by simp; omega)]
theorem lrow_at {P : List Nat} {d0 : Nat → Int32} {k : Nat} (h : k < P.length) : lrow P d0 k = nI P[k] := by
  unfold lrow
  rw [if_pos h]
  simp [h]
def o2 (o : Nat → Int32) (R P : Nat) : Nat → Int32 := upd (upd o 7 (nI R)) 6 (nI P)
theorem o2_6 (o : Nat → Int32) (R P : Nat) : o2 o R P 6 = nI P := rfl
theorem o2_7 (o : Nat → Int32) (R P : Nat) : o2 o R P 7 = nI R := rfl
theorem o2_s6 (o : Nat → Int32) (R P P' : Nat) : upd (o2 o R P) 6 (nI P') = o2 o R P' := by
  funext k; unfold o2 upd; split <;> rfl
theorem o2_s7 (o : Nat → Int32) (R P R' : Nat) : upd (o2 o R P) 7 (nI R') = o2 o R' P := by
  funext k; unfold o2 upd
  by_cases h6 : k = 6
  · subst h6; simp
  · by_cases h7 : k = 7
    · subst h7; simp
    · simp [h6, h7]
section DN
variable {σ : SF} {j n W : Nat} {kd f0 f1 : Nat → Nat} {o t s p r d0 : Nat → Int32}
/-- the state, with what is begun and done -/
def dst (σ : SF) (j : Nat) (o t s d0 p r : Nat → Int32) (x : Ds) : SF := fl σ j (o2 o x.1 x.2.length) t s (lrow x.2 d0) p r
theorem dn_step {g : Gr} (hg : gok g) (ht : ∀ e, e < 16 → t e = tv g e) {rec : SF → Int32 → Int32 → Option SF} {d v lev : Nat} (hv : v < 8) (hl8 : lev < 8)
    (ih : ∀ (w : Nat) (x : Ds), w < 8 → x.1.testBit w = false → x.1 < 2 ^ 8 → ub x.1 ≤ d → lev + 1 + ub x.1 ≤ 8 → x.2.length + ub x.1 ≤ 8 → (∃ e, g e = some w) → rec (dst σ j o t s d0 p r x) (nI w) (nI (lev + 1)) = some (dst σ j o t s d0 p r (dfs g d w x)))
    {K e : Nat} (he : e / 2 = v) {x : Ds} (hx : x.1 < 2 ^ 8) (hu : ub x.1 ≤ d) (hlv : lev + 1 + ub x.1 ≤ 8) (hln : x.2.length + ub x.1 ≤ 8) :
    L_X0_doNode_43 rec j (nI v) (nI lev) (K + 1) (nI e) (dst σ j o t s d0 p r x) = L_X0_doNode_43 rec j (nI v) (nI lev) K (nI (e + 1)) (dst σ j o t s d0 p r (stp (dfs g d) g e x)) := by
  have he16 : e < 16 := by omega
  conv => lhs; unfold L_X0_doNode_43
  have h1 : (2 : Int32) * nI v + 1 = nI (2 * v + 1) := by rw [nl_2, pk_mul, nI_1]
  rw [h1, if_neg (nI_nlt (by omega) (by omega))]
  simp only [zg, nq_zin1 he16 (by decide), if_true, nI_clamp (show e < 2 ^ 31 by omega), zl, nI_1]
  rw [show (dst σ j o t s d0 p r x) (j + 5) e = tv g e from by unfold dst; rw [fl_5]; exact ht e he16]
  rw [show (dst σ j o t s d0 p r x) (j + 4) 7 = nI x.1 from by unfold dst; rw [fl_4, o2_7]]
  unfold tv stp
  cases hge : g e with
  | none =>
    simp only [if_true]
  | some w =>
    have hw8 := (hg e w hge).2
    simp only [nI_m1 (show w < 2 ^ 31 by omega), if_false]
    simp only [nq_bit0 (show x.1 < 2 ^ 31 by omega) (show w < 31 by omega)]
    by_cases hb : x.1.testBit w = false
    · rw [if_pos hb, ih w x hw8 hb hx hu hlv hln ⟨e, hge⟩]
      simp only [zb, hb, Bool.false_eq_true, if_false]
    · have hb' : x.1.testBit w = true := by simpa using hb
      rw [if_neg hb]
      simp only [hb', if_true]
theorem dn_ok {g : Gr} (hg : gok g) (hJ : σ j 0 = nI n) (hn : n ≤ 8) (hgn : ∀ e w, g e = some w → w < n) (ht : ∀ e, e < 16 → t e = tv g e) : ∀ (d N v lev : Nat) (x : Ds), d ≤ N → v < n → x.1.testBit v = false → x.1 < 2 ^ 8 → ub x.1 ≤ d → lev + ub x.1 ≤ 8 → x.2.length + ub x.1 ≤ 8 →
    F_X0_doNode N (dst σ j o t s d0 p r x) j (nI v) (nI lev) = some (dst σ j o t s d0 p r (dfs g d v x)) := by
  intro d
  induction d with
  | zero =>
    intro N v lev x _ hv hb h8 hu
    have := ub_or (R := x.1) (v := v) (by omega) hb
    omega
  | succ d ih =>
    intro N v lev x hN hv hb h8 hu hlv hln
    obtain ⟨N, rfl⟩ : ∃ K, N = K + 1 := ⟨N - 1, by omega⟩
    have hv8 : v < 8 := by omega
    have hub := ub_or (R := x.1) hv8 hb
    unfold F_X0_doNode B_X0_doNode
    have hj : (dst σ j o t s d0 p r x) j 0 = nI n := by unfold dst; rw [fl_0]; exact hJ
    rw [F_has_nI hj (by omega) (by omega), if_pos hv]
    simp only [zb]
    rw [if_neg (by decide), if_neg (by rw [nl_8]; exact nI_ge (by omega) (by decide))]
    rw [show (dst σ j o t s d0 p r x) (j + 4) 6 = nI x.2.length from by unfold dst; rw [fl_4, o2_6]]
    rw [if_pos (by rw [nl_8]; exact nI_lt (by omega) (by decide))]
    rw [show (dst σ j o t s d0 p r x) (j + 4) 7 = nI x.1 from by unfold dst; rw [fl_4, o2_7]]
    simp only [zl]
    rw [nq_1 (show v < 31 by omega), fa_or]
    rw [show zst (dst σ j o t s d0 p r x) (j + 4) 7 (nI (x.1 ||| 2 ^ v)) = dst σ j o t s d0 p r (x.1 ||| 2 ^ v, x.2) from by unfold dst; rw [fl_s4, o2_s7]]
    have h2v : (2 : Int32) * nI v = nI (2 * v) := by rw [nl_2, pk_mul]
    rw [h2v]
    have hx1 : (x.1 ||| 2 ^ v) < 2 ^ 8 := nq_or h8 (nq_pow hv8)
    have ih' : ∀ (w : Nat) (x : Ds), w < 8 → x.1.testBit w = false → x.1 < 2 ^ 8 → ub x.1 ≤ d → lev + 1 + ub x.1 ≤ 8 → x.2.length + ub x.1 ≤ 8 → (∃ e, g e = some w) → (fun σ x1 x2 => F_X0_doNode N σ j x1 x2) (dst σ j o t s d0 p r x) (nI w) (nI (lev + 1)) = some (dst σ j o t s d0 p r (dfs g d w x)) := by
      intro w x _ h2 h3 h4 h5 h6 h7
      obtain ⟨e, he⟩ := h7
      exact ih N w (lev + 1) x (by omega) (hgn e w he) h2 h3 h4 h5 h6
    have sn := stp_num hg d (2 * v) (x.1 ||| 2 ^ v, x.2) hx1
    have um : ub (stp (dfs g d) g (2 * v) (x.1 ||| 2 ^ v, x.2)).1 ≤ ub (x.1 ||| 2 ^ v) := ub_mono sn.2.1
    have sn2 := stp_num hg d (2 * v + 1) _ sn.2.2
    have sl := sn.1
    have sl2 := sn2.1
    simp only at sl
    rw [dn_step hg ht hv8 (by omega) ih' (e := 2 * v) (by omega) hx1 (by simp only; omega) (by simp only; omega) (by simp only; omega)]
    rw [dn_step hg ht hv8 (by omega) ih' (e := 2 * v + 1) (by omega) sn.2.2 (by omega) (by omega) (by omega)]
    unfold L_X0_doNode_43
    have h1 : (2 : Int32) * nI v + 1 = nI (2 * v + 1) := by rw [nl_2, pk_mul, nI_1]
    rw [h1, if_pos (nI_lt (by omega) (by omega))]
    generalize hz : stp (dfs g d) g (2 * v + 1) (stp (dfs g d) g (2 * v) (x.1 ||| 2 ^ v, x.2)) = z at sn2 sl2 ⊢
    simp only [zb2]
    rw [show (dst σ j o t s d0 p r z) (j + 4) 6 = nI z.2.length from by unfold dst; rw [fl_4, o2_6]]
    simp only [zg, nq_zin1 (show z.2.length < 8 by omega) (by decide), if_true, nI_clamp (show z.2.length < 2 ^ 31 by omega)]
    rw [show zst (dst σ j o t s d0 p r z) (j + 7) z.2.length (nI v) = fl σ j (o2 o z.1 z.2.length) t s (lrow (z.2 ++ [v]) d0) p r from by unfold dst; rw [fl_s7, lrow_app]]
    rw [fl_4, o2_6, fl_s4, nI_1, o2_s6]
    unfold dfs
    rw [hz]
    unfold dst
    simp
end DN
