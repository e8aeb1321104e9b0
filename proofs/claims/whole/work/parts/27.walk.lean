/-! WALKS -/
def cw (σ : SF) (k : Int32) (p q : Nat → Int32) : SF := fun c => if c = 16 then upd (σ 16) 1 k else if c = 17 then p else if c = 18 then q else σ c
def mw (τ : SF) (k : Int32) (p q : Nat → Int32) : SF := fun c => if c = 0 then upd (τ 0) 4 k else if c = 3 then p else if c = 18 then q else τ c
section WK
variable {σ τ : SF} {k v : Int32} {p q : Nat → Int32} {i : Nat}
theorem cw_s17 : zst (cw σ k p q) 17 i v = cw σ k (upd p i v) q := by
  funext c; unfold zst zsr cw; by_cases h : c = 17
  · subst h; rfl
  · simp [h]
theorem cw_s18 : zst (cw σ k p q) 18 i v = cw σ k p (upd q i v) := by
  funext c; unfold zst zsr cw; by_cases h : c = 18
  · subst h; rfl
  · simp [h]
theorem cw_s16 : zst (cw σ k p q) 16 1 v = cw σ v p q := by
  funext c; unfold zst zsr cw; by_cases h : c = 16
  · subst h; simp only [if_true]; exact fa_upd_twice _ _ _ _
  · simp [h]
theorem cw_16 : cw σ k p q 16 1 = k := rfl
theorem cw_17 : cw σ k p q 17 = p := rfl
theorem cw_18 : cw σ k p q 18 = q := rfl
theorem mw_s3 : zst (mw τ k p q) 3 i v = mw τ k (upd p i v) q := by
  funext c; unfold zst zsr mw; by_cases h : c = 3
  · subst h; rfl
  · simp [h]
theorem mw_s18 : zst (mw τ k p q) 18 i v = mw τ k p (upd q i v) := by
  funext c; unfold zst zsr mw; by_cases h : c = 18
  · subst h; rfl
  · simp [h]
theorem mw_s0 : zst (mw τ k p q) 0 4 v = mw τ v p q := by
  funext c; unfold zst zsr mw; by_cases h : c = 0
  · subst h; simp only [if_true]; exact fa_upd_twice _ _ _ _
  · simp [h]
theorem mw_4 : mw τ k p q 0 4 = k := rfl
theorem mw_3 : mw τ k p q 3 = p := rfl
theorem mw_18 : mw τ k p q 18 = q := rfl
theorem mw_1 : mw τ k p q 1 = τ 1 := rfl
theorem mw_2 : mw τ k p q 2 = τ 2 := rfl
end WK
theorem and1 (y : Int32) : y &&& 1 = nI 0 ∨ y &&& 1 = nI 1 := by
  obtain ⟨j, h1, h2⟩ := pk_andE y (m := 1) 1 rfl
  rcases (show j = 0 ∨ j = 1 by omega) with rfl | rfl
  · exact Or.inl h2
  · exact Or.inr h2
theorem does_end {kd c : Nat} {y : Int32} (hk : kd < 5) (hk2 : kd ≠ 2) (hc : c < 2 ^ 30) (hy : y = nI 0 ∨ y = nI 1) : ∃ w, w < 2 ∧ F_X6_doesAt (nI kd) (nI c) y = some (nI w) ∧ F_X7_endBy (nI kd) (nI c) y = some (nI w) := by
  have hm : nI c - nI c / 2 * 2 = nI (c % 2) := pk_rem (d := 2) (by omega) (by decide) (by decide)
  have hm1 : nI (c + 1) - nI (c + 1) / 2 * 2 = nI ((c + 1) % 2) := pk_rem (d := 2) (by omega) (by decide) (by decide)
  have hm3 : nI c - nI c / 3 * 3 = nI (c % 3) := pk_rem (d := 3) (by omega) (by decide) (by decide)
  rcases (show kd = 0 ∨ kd = 1 ∨ kd = 3 ∨ kd = 4 by omega) with rfl | rfl | rfl | rfl
  · exact ⟨0, by decide, rfl, rfl⟩
  · rcases hy with rfl | rfl
    · exact ⟨0, by decide, rfl, rfl⟩
    · exact ⟨1, by decide, rfl, rfl⟩
  · have c1 : F_X6_doesAt (nI 3) (nI c) y = if (nI c - nI c / 2 * 2) = 0 then some 1 else some 0 := rfl
    have c2 : F_X7_endBy (nI 3) (nI c) y = some ((nI c + 1) - (nI c + 1) / 2 * 2) := rfl
    rw [c1, c2, hm, nI_1, hm1]
    rcases Nat.mod_two_eq_zero_or_one c with h | h
    · refine ⟨1, by decide, ?_, ?_⟩
      · rw [h]; rfl
      · rw [show (c + 1) % 2 = 1 by omega]
    · refine ⟨0, by decide, ?_, ?_⟩
      · rw [h]; rfl
      · rw [show (c + 1) % 2 = 0 by omega]
  · have c1 : F_X6_doesAt (nI 4) (nI c) y = if (nI c - nI c / 3 * 3) = 0 then some 1 else some 0 := rfl
    have c2 : F_X7_endBy (nI 4) (nI c) y = if (nI c - nI c / 3 * 3) = 0 then some 1 else some 0 := rfl
    rw [c1, c2, hm3]
    by_cases h : c % 3 = 0
    · refine ⟨1, by decide, ?_, ?_⟩ <;> (rw [h]; rfl)
    · refine ⟨0, by decide, ?_, ?_⟩ <;> (rw [if_neg (fun z => h ((nI_eq (by omega) (by decide)).mp (z.trans nl_0)))]; rfl)
section WK2
variable {σ τ : SF} {n : Nat} {kd f0 f1 : Nat → Nat}
def tgv (f0 f1 : Nat → Nat) (v w : Nat) : Nat := if w = 0 then f0 v else f1 v
def ysh (k : Nat) (y : Int32) : Int32 := if k = 1 then y >>> (1 &&& 31) else y
theorem wk_c (hn : n ≤ 8) (hJ : JIs σ 3 n kd f0 f1) (hk5 : ∀ v, v < n → kd v < 5) {k v c N : Nat} {y : Int32} {p q : Nat → Int32} (hk : k < 30) (hv : v < n) (hq : q v = nI c) {w : Int32} (hw : F_X6_doesAt (nI (kd v)) (nI (c + 1)) (y &&& 1) = some w) {z : Int32} (hz : (w = 2 ∧ z = -1) ∨ (w ≠ 2 ∧ ∃ u, u < 2 ∧ w = nI u ∧ z = nI (tgv f0 f1 v u))) :
    L_X5_go_18 (N + 1) y (nI v) (cw σ (nI k) p q) = L_X5_go_18 N (ysh (kd v) y) z (cw σ (nI (k + 1)) (upd p k (nI v)) (upd q v (nI (c + 1)))) := by
  have hk30 := nq_zin1 hk (by decide)
  have hv8 := nq_zin1 (show v < 8 by omega) (by decide)
  have hJ2 : ∀ a b c, JIs (cw σ a b c) 3 n kd f0 f1 := fun a b c => hJ
  have q1 : upd q v (nI (c + 1)) v = nI (c + 1) := by simp [upd]
  have j1 : ∀ a b c, cw σ a b c (3 + 1) v = nI (kd v) := fun a b c => (hJ.2 v hv).1
  have h5 := hk5 v hv
  conv => lhs; unfold L_X5_go_18
  rw [cw_16, if_neg (show ¬ (30 : Int32) ≤ nI k from nI_ge (b := 30) hk (by decide)), has1 (hJ2 _ _ _) hn hv, zb_q, if_neg (by decide), zg_q hk30, zl_q, nI_clamp (by omega), cw_s17, cw_16, zl_q, cw_s16, nI_1, zg_q hv8, zg_q hv8, zl_q, nI_clamp (by omega), cw_18, hq, nI_1, cw_s18, zg_q hv8, zg_q hv8, j1, cw_18, q1, hw, zb_q, zg_q hv8, zl_q]
  unfold ysh
  by_cases h1 : kd v = 1
  · rw [if_pos (by rw [h1]; rfl), if_pos h1]
    rcases hz with ⟨rfl, rfl⟩ | ⟨h2, u, hu, rfl, rfl⟩
    · rw [if_pos rfl]
    · rw [if_neg h2, F_target_nI (hJ2 _ _ _) hn (by omega) hu, zb_q, if_pos hv]
      rfl
  · rw [if_neg (fun z => h1 ((nI_eq (by omega) (by decide)).mp (z.trans nl_1))), if_neg h1]
    rcases hz with ⟨rfl, rfl⟩ | ⟨h2, u, hu, rfl, rfl⟩
    · rw [if_pos rfl]
    · rw [if_neg h2, F_target_nI (hJ2 _ _ _) hn (by omega) hu, zb_q, if_pos hv]
      rfl
theorem wk_m (hn : n ≤ 8) (hR : RIs τ n kd f0 f1) (hk5 : ∀ v, v < n → kd v < 5) {k v c N u : Nat} {y : Int32} {p q : Nat → Int32} (hk : k < 30) (hv : v < n) (hq : q v = nI c) (hu : u < 2) (hw : F_X7_endBy (nI (kd v)) (nI (c + 1)) (y &&& 1) = some (nI u)) :
    L_X7_walkNow_33 (N + 1) (nI v) y 1 (mw τ (nI k) p q) = L_X7_walkNow_33 N (nI (tgv f0 f1 v u)) (ysh (kd v) y) (if kd v = 2 ∨ k + 1 = 30 then 0 else 1) (mw τ (nI (k + 1)) (upd p k (nI v)) (upd q v (nI (c + 1)))) := by
  have hk30 := nq_zin1 hk (by decide)
  have hv8 := nq_zin1 (show v < 8 by omega) (by decide)
  have h16 := nq_zin1 (show 2 * v + u < 16 by omega) (by decide)
  have q1 : upd q v (nI (c + 1)) v = nI (c + 1) := by simp [upd]
  have h5 := hk5 v hv
  obtain ⟨t1, t2, t3⟩ := hR.2 v hv
  have e1 : nI (2 * v) + nI u = nI (2 * v + u) := nI_add _ _
  have et : τ 2 (2 * v + u) = nI (tgv f0 f1 v u) := by
    unfold tgv
    rcases (show u = 0 ∨ u = 1 by omega) with rfl | rfl
    · simpa using t2
    · simpa using t3
  conv => lhs; unfold L_X7_walkNow_33
  rw [if_neg (by decide), mw_4, zg_q hk30, zl_q, nI_clamp (by omega), mw_s3, mw_4, zl_q, mw_s0, nI_1, zg_q hv8, zg_q hv8, zl_q, nI_clamp (by omega), mw_18, hq, nI_1, mw_s18, zg_q hv8, mw_1, t1, mw_18, q1, mw_4, hw, mw_2, nI_2k]
  have tail : ∀ (f : Int32) (A : Option (Int32 × Int32 × Int32 × SF)), A = (zg (zin (nI v) 8) <| zg (zin (nI v) 8) <| zb (some (nI u)) fun r25 =>
    zg (zin (nI v) 8) <|
    if nI (kd v) = 1 then (
    zl (y >>> (1 &&& 31)) fun v28 =>
    zl (nI (2 * v) + r25) fun v29 =>
    zg (zin v29 16) <|
    zl (τ 2 (v29 : Int32).toNatClampNeg) fun v30 =>
    L_X7_walkNow_33 N v30 v28 f (mw τ (nI (k + 1)) (upd p k (nI v)) (upd q v (nI (c + 1))))
    ) else (
    zl (nI (2 * v) + r25) fun v26 =>
    zg (zin v26 16) <|
    zl (τ 2 (v26 : Int32).toNatClampNeg) fun v27 =>
    L_X7_walkNow_33 N v27 y f (mw τ (nI (k + 1)) (upd p k (nI v)) (upd q v (nI (c + 1))))
    )) → A = L_X7_walkNow_33 N (nI (tgv f0 f1 v u)) (ysh (kd v) y) f (mw τ (nI (k + 1)) (upd p k (nI v)) (upd q v (nI (c + 1)))) := by
    intro f A hA
    rw [hA, zg_q hv8, zg_q hv8, zb_q, zg_q hv8, zl_q, zl_q, e1, zg_q h16, zl_q, nI_clamp (by omega), et]
    unfold ysh
    by_cases h1 : kd v = 1
    · rw [if_pos (by rw [h1]; rfl), if_pos h1]
    · rw [if_neg (fun z => h1 ((nI_eq (by omega) (by decide)).mp (z.trans nl_1))), if_neg h1, zl_q, zg_q h16, zl_q, nI_clamp (by omega), et]
  by_cases h2 : kd v = 2
  · rw [if_pos (by rw [h2]; rfl), if_pos (Or.inl h2)]
    exact tail 0 _ rfl
  · rw [if_neg (fun z => h2 ((nI_eq (by omega) (by decide)).mp (z.trans nl_2)))]
    by_cases h30 : k + 1 = 30
    · rw [if_pos (show (30 : Int32) ≤ nI (k + 1) from nI_le (a := 30) (by omega) (by omega)), if_pos (Or.inr h30)]
      exact tail 0 _ rfl
    · rw [if_neg (show ¬ (30 : Int32) ≤ nI (k + 1) from nI_ge (b := 30) (by omega) (by decide)), if_neg (by omega)]
      exact tail 1 _ rfl
/-- where walks stand in both -/
theorem wk_loop (hw : gwf n kd f0 f1) (hJ : JIs σ 3 n kd f0 f1) (hR : RIs τ n kd f0 f1) : ∀ (m N k v : Nat) (y : Int32) (p q p' q' : Nat → Int32) (oc : Nat → Nat), k + (m + 1) = 30 → m + 1 < N → v < n → (∀ i, i < k → p i = p' i) → (∀ w, w < 8 → q w = nI (oc w) ∧ q' w = nI (oc w) ∧ oc w ≤ k) →
    ∃ K a b a' b' c' P Q P' Q', L_X5_go_18 N y (nI v) (cw σ (nI k) p q) = some (a, b, cw σ (nI K) P Q) ∧ L_X7_walkNow_33 N (nI v) y 1 (mw τ (nI k) p' q') = some (a', b', c', mw τ (nI K) P' Q') ∧ K ≤ 30 ∧ ∀ i, i < K → P i = P' i := by
  have hn := hw.1
  have hk5 : ∀ v, v < n → kd v < 5 := fun v hv => (hw.2 v hv).1
  intro m
  induction m with
  | zero =>
    intro N k v y p q p' q' oc hk hN hv hp hq
    obtain ⟨N, rfl⟩ : ∃ K, N = K + 1 + 1 := ⟨N - 2, by omega⟩
    obtain ⟨o1, o2, o3⟩ := hq v (by omega)
    have hp2 : ∀ i, i < k + 1 → upd p k (nI v) i = upd p' k (nI v) i := by
      intro i hi
      unfold upd
      by_cases e : i = k
      · simp [e]
      · simp [e, hp i (by omega)]
    have hk1 : k + 1 = 30 := by omega
    have endc : ∀ x z P Q, L_X5_go_18 (N + 1) x z (cw σ (nI (k + 1)) P Q) = some (x, z, cw σ (nI (k + 1)) P Q) := by
      intro x z P Q
      unfold L_X5_go_18
      rw [cw_16, if_pos (show (30 : Int32) ≤ nI (k + 1) from nI_le (a := 30) (by omega) (by omega))]
    have endm : ∀ x z s, L_X7_walkNow_33 (N + 1) x z 0 s = some (x, z, 0, s) := by
      intro x z s
      unfold L_X7_walkNow_33
      rw [if_pos rfl]
    by_cases h2 : kd v = 2
    · have d1 : F_X6_doesAt (nI (kd v)) (nI (oc v + 1)) (y &&& 1) = some 2 := by rw [h2]; rfl
      have d2 : F_X7_endBy (nI (kd v)) (nI (oc v + 1)) (y &&& 1) = some (nI 0) := by rw [h2]; rfl
      have m2 := wk_m (N := N + 1) (k := k) (p := p') hn hR hk5 (by omega) hv o2 (by decide) d2
      rw [if_pos (Or.inl h2)] at m2
      exact ⟨k + 1, _, _, _, _, _, _, _, _, _, (wk_c hn hJ hk5 (by omega) hv o1 d1 (Or.inl ⟨rfl, rfl⟩)).trans (endc _ _ _ _), m2.trans (endm _ _ _), by omega, hp2⟩
    · obtain ⟨w, hw2, d1, d2⟩ := does_end (c := oc v + 1) (y := y &&& 1) (hk5 v hv) h2 (by omega) (and1 y)
      have hw3 : nI w ≠ 2 := fun z => absurd ((nI_eq (by omega) (by decide)).mp (z.trans nl_2)) (by omega)
      have m2 := wk_m (N := N + 1) (k := k) (p := p') hn hR hk5 (by omega) hv o2 hw2 d2
      rw [if_pos (Or.inr hk1)] at m2
      exact ⟨k + 1, _, _, _, _, _, _, _, _, _, (wk_c hn hJ hk5 (by omega) hv o1 d1 (Or.inr ⟨hw3, w, hw2, rfl, rfl⟩)).trans (endc _ _ _ _), m2.trans (endm _ _ _), by omega, hp2⟩
  | succ m ih =>
    intro N k v y p q p' q' oc hk hN hv hp hq
    obtain ⟨N, rfl⟩ : ∃ K, N = K + 1 + 1 := ⟨N - 2, by omega⟩
    obtain ⟨o1, o2, o3⟩ := hq v (by omega)
    have hp2 : ∀ i, i < k + 1 → upd p k (nI v) i = upd p' k (nI v) i := by
      intro i hi
      unfold upd
      by_cases e : i = k
      · simp [e]
      · simp [e, hp i (by omega)]
    by_cases h2 : kd v = 2
    · have endc : ∀ x P Q, L_X5_go_18 (N + 1) x (-1) (cw σ (nI (k + 1)) P Q) = some (x, -1, cw σ (nI (k + 1)) P Q) := by
        intro x P Q
        unfold L_X5_go_18
        rw [cw_16, if_neg (show ¬ (30 : Int32) ≤ nI (k + 1) from nI_ge (b := 30) (by omega) (by decide)), F_has_m1, zb_q, if_pos rfl]
      have endm : ∀ x z s, L_X7_walkNow_33 (N + 1) x z 0 s = some (x, z, 0, s) := by
        intro x z s
        unfold L_X7_walkNow_33
        rw [if_pos rfl]
      have d1 : F_X6_doesAt (nI (kd v)) (nI (oc v + 1)) (y &&& 1) = some 2 := by rw [h2]; rfl
      have d2 : F_X7_endBy (nI (kd v)) (nI (oc v + 1)) (y &&& 1) = some (nI 0) := by rw [h2]; rfl
      have m2 := wk_m (N := N + 1) (k := k) (p := p') hn hR hk5 (by omega) hv o2 (by decide) d2
      rw [if_pos (Or.inl h2)] at m2
      exact ⟨k + 1, _, _, _, _, _, _, _, _, _, (wk_c hn hJ hk5 (by omega) hv o1 d1 (Or.inl ⟨rfl, rfl⟩)).trans (endc _ _ _), m2.trans (endm _ _ _), by omega, hp2⟩
    · obtain ⟨w, hw2, d1, d2⟩ := does_end (c := oc v + 1) (y := y &&& 1) (hk5 v hv) h2 (by omega) (and1 y)
      have hw3 : nI w ≠ 2 := fun z => absurd ((nI_eq (by omega) (by decide)).mp (z.trans nl_2)) (by omega)
      have htl : tgv f0 f1 v w < n := by
        have := hw.2 v hv
        unfold tgv
        split <;> omega
      obtain ⟨K, a, b, a', b', c', P, Q, P', Q', i1, i2, i3, i4⟩ := ih (N + 1) (k + 1) (tgv f0 f1 v w) (ysh (kd v) y) (upd p k (nI v)) (upd q v (nI (oc v + 1))) (upd p' k (nI v)) (upd q' v (nI (oc v + 1))) (fun x => if x = v then oc v + 1 else oc x) (by omega) (by omega) htl hp2 (fun x hx => by
        obtain ⟨z1, z2, z3⟩ := hq x hx
        unfold upd
        by_cases e : x = v
        · simp [e]; omega
        · simp [e, z1, z2]; omega)
      refine ⟨K, a, b, a', b', c', P, Q, P', Q', ?_, ?_, i3, i4⟩
      · rw [wk_c hn hJ hk5 (by omega) hv o1 d1 (Or.inr ⟨hw3, w, hw2, rfl, rfl⟩)]; exact i1
      · rw [wk_m hn hR hk5 (by omega) hv o2 hw2 d2, if_neg (by omega)]; exact i2
end WK2
/-! a walk from the start -/
theorem wz_loop {τ : SF} (y1 : Int32) : ∀ (m N i : Nat) (q : Nat → Int32), i + m = 8 → m < N → L_X7_walkNow_2 y1 N (nI i) (mw τ (τ 0 4) (τ 3) q) = some (nI 8, mw τ (τ 0 4) (τ 3) (rfrom (fun _ => 0) q i 8)) := by
  intro m
  induction m with
  | zero =>
    intro N i q hi hN
    obtain ⟨N, rfl⟩ : ∃ K, N = K + 1 := ⟨N - 1, by omega⟩
    have : i = 8 := by omega
    subst this
    unfold L_X7_walkNow_2
    rw [if_pos (by decide), rfrom_end (Nat.le_refl _)]
  | succ m ih =>
    intro N i q hi hN
    obtain ⟨N, rfl⟩ : ∃ K, N = K + 1 := ⟨N - 1, by omega⟩
    unfold L_X7_walkNow_2
    rw [if_neg (by rw [nl_8]; exact nI_ge (by omega) (by decide)), zg_q (nq_zin1 (show i < 8 by omega) (by decide)), zl_q, zl_q, nI_clamp (by omega), mw_s18, nI_1, ih N (i + 1) _ (by omega) (by omega), rfrom_step (f := fun _ => (0 : Int32)) (by omega)]
theorem mw_self (τ : SF) : mw τ (τ 0 4) (τ 3) (τ 18) = τ := by
  funext c
  unfold mw
  by_cases h0 : c = 0
  · subst h0; simp only [if_true]; exact fa_upd_same rfl
  · by_cases h3 : c = 3
    · subst h3; rfl
    · by_cases h18 : c = 18
      · subst h18; rfl
      · simp [h0, h3, h18]
theorem cw_self (σ : SF) : cw σ (σ 16 1) (σ 17) (σ 18) = σ := by
  funext c
  unfold cw
  by_cases h0 : c = 16
  · subst h0; simp only [if_true]; exact fa_upd_same rfl
  · by_cases h3 : c = 17
    · subst h3; rfl
    · by_cases h18 : c = 18
      · subst h18; rfl
      · simp [h0, h3, h18]
theorem cw_r18 {σ : SF} {k : Int32} {p q r : Nat → Int32} : zsr (cw σ k p q) 18 r = cw σ k p r := by
  funext c; unfold zsr cw; by_cases h : c = 18
  · subst h; rfl
  · simp [h]
theorem walk_ok {σ τ : SF} {n : Nat} {kd f0 f1 : Nat → Nat} (hw : gwf n kd f0 f1) (h0 : 0 < n) (hJ : JIs σ 3 n kd f0 f1) (hR : RIs τ n kd f0 f1) (y : Int32) :
    ∃ K P Q P' Q', F_X5_go σ y = some (cw σ (nI K) P Q) ∧ F_X7_walkNow τ y = some (nI K, mw τ (nI K) P' Q') ∧ K ≤ 30 ∧ ∀ i, i < K → P i = P' i := by
  obtain ⟨K, a, b, a', b', c', P, Q, P', Q', h1, h2, h3, h4⟩ := wk_loop hw hJ hR 29 100 0 0 y (σ 17) (rfrom (fun _ => 0) (σ 18) 0 8) (τ 3) (rfrom (fun _ => 0) (τ 18) 0 8) (fun _ => 0) (by omega) (by omega) h0 (fun i hi => absurd hi (by omega)) (fun w hw8 => ⟨rfrom_in (Nat.zero_le _) hw8, rfrom_in (Nat.zero_le _) hw8, by omega⟩)
  have h1' : L_X5_go_18 100 y 0 (cw σ 0 (σ 17) (rfrom (fun _ => 0) (σ 18) 0 8)) = some (a, b, cw σ (nI K) P Q) := h1
  have h2' : L_X7_walkNow_33 100 0 y 1 (mw τ 0 (τ 3) (rfrom (fun _ => 0) (τ 18) 0 8)) = some (a', b', c', mw τ (nI K) P' Q') := h2
  refine ⟨K, P, Q, P', Q', ?_, ?_, h3, h4⟩
  · unfold F_X5_go
    have e : zsr σ 18 (rfrom (fun _ => 0) (σ 18) 0 8) = cw σ (σ 16 1) (σ 17) (rfrom (fun _ => 0) (σ 18) 0 8) := by
      rw [← cw_r18 (q := σ 18), cw_self]
    rw [F_fill_eq (by decide), zb_q, e, zl_q, cw_s16, h1', zb3_q]
  · unfold F_X7_walkNow
    have e : L_X7_walkNow_2 y 100 0 τ = some (nI 8, mw τ (τ 0 4) (τ 3) (rfrom (fun _ => 0) (τ 18) 0 8)) := by
      have := wz_loop (τ := τ) y 8 100 0 (τ 18) (by omega) (by omega)
      rw [mw_self] at this
      exact this
    rw [e, zb2_q, zl_q, mw_s0, h2', zb4_q, mw_4]
