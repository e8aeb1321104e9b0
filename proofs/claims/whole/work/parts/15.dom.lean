theorem mk_ex (p : Nat → Prop) : ∀ n : Nat, ∃ M, M < 2 ^ n ∧ ∀ i, M.testBit i = true ↔ (i < n ∧ p i) := by
  intro n
  induction n with
  | zero => exact ⟨0, by simp, fun i => by simp⟩
  | succ n ih =>
    obtain ⟨M, hM, h⟩ := ih
    have hM2 : M < 2 ^ (n + 1) := Nat.lt_of_lt_of_le hM (Nat.pow_le_pow_right (by decide) (by omega))
    by_cases hp : p n
    · refine ⟨M ||| 2 ^ n, nq_or hM2 (nq_pow (by omega)), fun i => ?_⟩
      rw [Nat.testBit_or, nq_two, Bool.or_eq_true, h, decide_eq_true_eq]
      constructor
      · rintro (q | q)
        · exact ⟨by omega, q.2⟩
        · subst q; exact ⟨by omega, hp⟩
      · rintro ⟨q1, q2⟩
        by_cases e : i = n
        · exact Or.inr e.symm
        · exact Or.inl ⟨by omega, q2⟩
    · refine ⟨M, hM2, fun i => ?_⟩
      rw [h]
      constructor
      · rintro ⟨q1, q2⟩; exact ⟨by omega, q2⟩
      · rintro ⟨q1, q2⟩
        by_cases e : i = n
        · subst e; exact absurd q2 hp
        · exact ⟨by omega, q2⟩
/-- those that lie on all ways to v, as bits -/
noncomputable def dk (g : Gr) (v : Nat) : Nat := Classical.choose (mk_ex (fun a => Dm g a v) 8)
theorem dk_lt (g : Gr) (v : Nat) : dk g v < 2 ^ 8 := (Classical.choose_spec (mk_ex (fun a => Dm g a v) 8)).1
theorem dk_iff {g : Gr} (hg : gok g) {a v : Nat} : (dk g v).testBit a = true ↔ Dm g a v := by
  rw [dk, (Classical.choose_spec (mk_ex (fun a => Dm g a v) 8)).2]
  exact ⟨fun h => h.2, fun h => ⟨h.1.lt hg, h⟩⟩
theorem dk_uniq {g : Gr} (hg : gok g) {v M : Nat} (hM : M < 2 ^ 8) (h : ∀ a, a < 8 → (M.testBit a = true ↔ Dm g a v)) : M = dk g v := by
  refine nq_ext hM (dk_lt g v) (fun i hi => ?_)
  rw [Bool.eq_iff_iff, h i hi, dk_iff hg]
theorem dk_out {g : Gr} (hg : gok g) {v : Nat} (h : ¬ Rch g 99 v) : dk g v = 0 := (dk_uniq hg (by decide) (fun a _ => ⟨fun q => by simp at q, fun q => absurd q.2.1 h⟩)).symm
theorem dk_zero {g : Gr} (hg : gok g) : dk g 0 = 1 := (dk_uniq hg (by decide) (fun a _ => by
  constructor
  · intro h
    have : a = 0 := by
      rcases Nat.eq_zero_or_pos a with q | q
      · exact q
      · rw [nq_tb (n := 1) (by decide) q] at h; cases h
    subst this
    exact Dm.refl (Rch.zero (by decide))
  · intro h
    have := Dm.anti hg h (Dm.zero h.1)
    subst this
    decide)).symm
/-- a mask without one bit -/
def clr (M k : Nat) : Nat := M ^^^ (M &&& 2 ^ k)
theorem clr_tb (M k i : Nat) : (clr M k).testBit i = (M.testBit i && !decide (k = i)) := by
  unfold clr
  rw [Nat.testBit_xor, Nat.testBit_and, nq_two]
  cases M.testBit i <;> cases decide (k = i) <;> rfl
theorem clr_lt {M n : Nat} (k : Nat) (h : M < 2 ^ n) : clr M k < 2 ^ n := by
  apply Nat.lt_pow_two_of_testBit
  intro i hi
  rw [clr_tb, nq_tb h hi]; rfl
theorem nq_andnot (a b : Nat) : nI a &&& (nI b ^^^ (-1)) = nI (a ^^^ (a &&& b)) := by
  apply Int32.toBitVec_inj.1
  show BitVec.ofNat 32 a &&& (BitVec.ofNat 32 b ^^^ (-1 : Int32).toBitVec) = BitVec.ofNat 32 (a ^^^ (a &&& b))
  have h1 : (-1 : Int32).toBitVec = BitVec.allOnes 32 := by decide
  rw [h1]
  apply BitVec.eq_of_getLsbD_eq
  intro i hi
  simp only [BitVec.getLsbD_and, BitVec.getLsbD_xor, BitVec.getLsbD_ofNat, BitVec.getLsbD_allOnes, hi, decide_true, Bool.true_and, Nat.testBit_xor, Nat.testBit_and]
  cases a.testBit i <;> cases b.testBit i <;> rfl
theorem nq_clr (M k : Nat) : nI M &&& (nI (2 ^ k) ^^^ (-1)) = nI (clr M k) := nq_andnot M (2 ^ k)
theorem pc_clr {M k : Nat} (hk : k < 16) (h : M.testBit k = true) : pc (clr M k) + 1 = pc M := by
  unfold pc
  have e := fb_ct_upd (fun i => M.testBit i) false (i := k) (n := 16) hk
  have c : fb_ct (fun i => if i = k then false else M.testBit i) 16 = fb_ct (fun i => (clr M k).testBit i) 16 := fb_ct_cong (fun i _ => by
    rw [clr_tb]
    by_cases q : i = k
    · simp [q]
    · simp [q, Ne.symm q])
  rw [c] at e
  change _ + (if (M.testBit k) = true then 1 else 0) = _ + (if false = true then 1 else 0) at e
  rw [h] at e
  simp only [if_true, Bool.false_eq_true, if_false] at e
  omega
/-- of two masks, one within the other and as many: they are the same -/
theorem pc_sub_eq {A B : Nat} (hA : A < 2 ^ 16) (hB : B < 2 ^ 16) (h : ∀ i, A.testBit i = true → B.testBit i = true) (hc : pc A = pc B) : A = B := by
  have e := fb_ct_or (p := fun i => A.testBit i) (q := fun i => B.testBit i && !A.testBit i) (n := 16) (fun k _ hk => by
    rcases hk with ⟨h1, h2⟩
    simp at h1 h2
    rw [h1] at h2
    simp at h2)
  have c : fb_ct (fun i => A.testBit i || (B.testBit i && !A.testBit i)) 16 = pc B := fb_ct_cong (fun i _ => by
    cases ha : A.testBit i with
    | true => simp [h i ha]
    | false => simp)
  have e2 : pc B = pc A + fb_ct (fun i => B.testBit i && !A.testBit i) 16 := by rw [← c]; exact e
  have z : fb_ct (fun i => B.testBit i && !A.testBit i) 16 = 0 := by omega
  have z2 := fb_ct_zero.mp z
  refine nq_ext hA hB (fun i hi => ?_)
  have := z2 i hi
  cases ha : A.testBit i with
  | true => rw [h i ha]
  | false =>
    rw [ha] at this
    simp at this
    rw [this]
/-- the lord of b -/
def Lrd (g : Gr) (a b : Nat) : Prop := a ≠ b ∧ Dm g a b ∧ ∀ x, Dm g x b → x ≠ b → Dm g x a
theorem Lrd.uniq {g : Gr} (hg : gok g) {a a' b : Nat} (h : Lrd g a b) (h' : Lrd g a' b) : a = a' := Dm.anti hg (h'.2.2 a h.2.1 h.1) (h.2.2 a' h'.2.1 h'.1)
theorem Lrd.dk {g : Gr} (hg : gok g) {a b : Nat} (h : Lrd g a b) : dk g a = clr (dk g b) b := by
  refine nq_ext (dk_lt g a) (clr_lt b (dk_lt g b)) (fun i _ => ?_)
  rw [Bool.eq_iff_iff, dk_iff hg, clr_tb, Bool.and_eq_true, dk_iff hg]
  constructor
  · intro q
    refine ⟨q.trans hg h.2.1, ?_⟩
    have : b ≠ i := fun e => by subst e; exact h.1 (Dm.anti hg h.2.1 q)
    simp [this]
  · rintro ⟨q1, q2⟩
    have : b ≠ i := by simpa using q2
    exact h.2.2 i q1 (Ne.symm this)
/-- as the class finds it -/
theorem Lrd_class {g : Gr} (hg : gok g) {a b : Nat} : (clr (dk g b) b ≠ 0 ∧ dk g a = clr (dk g b) b) ↔ Lrd g a b := by
  constructor
  · rintro ⟨h0, h⟩
    have ha : Rch g 99 a := by
      by_cases q : Rch g 99 a
      · exact q
      · rw [dk_out hg q] at h; exact absurd h.symm h0
    have h1 : (clr (dk g b) b).testBit a = true := by rw [← h]; exact (dk_iff hg).mpr (Dm.refl ha)
    rw [clr_tb, Bool.and_eq_true, dk_iff hg] at h1
    have hne : b ≠ a := by simpa using h1.2
    refine ⟨Ne.symm hne, h1.1, fun x hx hxb => ?_⟩
    rw [← dk_iff hg, h, clr_tb, Bool.and_eq_true, dk_iff hg]
    exact ⟨hx, by simp [Ne.symm hxb]⟩
  · intro h
    refine ⟨fun q => ?_, h.dk hg⟩
    have : (clr (dk g b) b).testBit a = true := by
      rw [clr_tb, Bool.and_eq_true, dk_iff hg]
      exact ⟨h.2.1, by simp [Ne.symm h.1]⟩
    rw [q] at this
    simp at this
theorem lt816 {M : Nat} (h : M < 2 ^ 8) : M < 2 ^ 16 := Nat.lt_trans h (by decide)
/-- as the reference finds it -/
theorem Lrd_model {g : Gr} (hg : gok g) {a b : Nat} : (a ≠ b ∧ (dk g b).testBit a = true ∧ pc (dk g a) + 1 = pc (dk g b)) ↔ Lrd g a b := by
  constructor
  · rintro ⟨hne, h1, h2⟩
    rw [dk_iff hg] at h1
    have hb : (dk g b).testBit b = true := (dk_iff hg).mpr (Dm.refl h1.2.1)
    have hc := pc_clr (M := dk g b) (k := b) (by have := h1.2.1.lt hg; omega) hb
    have e : dk g a = clr (dk g b) b := pc_sub_eq (lt816 (dk_lt g a)) (lt816 (clr_lt b (dk_lt g b))) (fun i hi => by
      rw [dk_iff hg] at hi
      rw [clr_tb, Bool.and_eq_true, dk_iff hg]
      refine ⟨hi.trans hg h1, ?_⟩
      have : b ≠ i := fun q => by subst q; exact hne (Dm.anti hg h1 hi)
      simp [this]) (by omega)
    refine ⟨hne, h1, fun x hx hxb => ?_⟩
    rw [← dk_iff hg, e, clr_tb, Bool.and_eq_true, dk_iff hg]
    exact ⟨hx, by simp [Ne.symm hxb]⟩
  · intro h
    refine ⟨h.1, (dk_iff hg).mpr h.2.1, ?_⟩
    rw [h.dk hg]
    exact pc_clr (by have := h.2.1.2.1.lt hg; omega) ((dk_iff hg).mpr (Dm.refl h.2.1.2.1))
/-- every reached node but node 0 has a lord -/
theorem Lrd_ex {g : Gr} (hg : gok g) {b : Nat} (hb : Rch g 99 b) (h0 : b ≠ 0) : ∃ a, Lrd g a b := by
  -- of those on all ways to b, without b, the one that is last in the order
  have key : ∀ n : Nat, ∀ a, a ≠ b → Dm g a b → 8 ≤ n + pl g a → ∃ a, Lrd g a b := by
    intro n
    induction n with
    | zero =>
      intro a _ ha h8
      exfalso
      have hlen := po_len hg
      have hi : (po g).idxOf a < (po g).length := List.idxOf_lt_length_of_mem ((mem_po hg).mpr ha.1)
      unfold pl at h8
      omega
    | succ n ih =>
      intro a hne ha h8
      by_cases hq : ∃ x, Dm g x b ∧ x ≠ b ∧ ¬ Dm g x a
      · obtain ⟨x, h1, h2, h3⟩ := hq
        have hax : Dm g a x := (Dm.chain ha h1 hg).elim id (fun q => absurd q h3)
        have hlt : pl g a < pl g x := by
          rcases Nat.lt_or_ge (pl g a) (pl g x) with q | q
          · exact q
          · have e := pl_inj hg ((mem_po hg).mpr ha.1) ((mem_po hg).mpr h1.1) (Nat.le_antisymm (hax.ple hg) q)
            subst e
            exact absurd (Dm.refl ha.1) h3
        exact ih x h2 h1 (by omega)
      · refine ⟨a, hne, ha, fun x hx hxb => ?_⟩
        by_cases q : Dm g x a
        · exact q
        · exact absurd ⟨x, hx, hxb, q⟩ hq
  exact key 8 0 (Ne.symm h0) (Dm.zero hb) (by omega)
