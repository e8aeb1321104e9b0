/-! what is gone out of is open -/
theorem nd_of_pl {g : Gr} (hg : gok g) {w : Nat} (h : w ∈ po g) : nd g (pl g w) = w ∧ pl g w < (po g).length := by
  have hl : (po g).idxOf w < (po g).length := List.idxOf_lt_length_of_mem h
  have h1 : pl g w < (po g).length := by unfold pl; omega
  refine ⟨pl_inj hg (nd_mem h1) h ?_, h1⟩
  exact nd_pl hg h1
theorem bc_mem {g : Gr} {x : Nat} : ∀ (i j : Nat), 1 ≤ j → j ≤ i → blk g x (nd g j) = true → 200 + nd g j ∈ bc g x i
  | 0, j, h1, h2, _ => by omega
  | i + 1, j, h1, h2, h3 => by
    unfold bc
    by_cases q : j = i + 1
    · subst q
      rw [h3]
      simp
    · exact List.mem_append_left _ (bc_mem i j h1 (by omega) h3)
/-- what must be open when x is come to -/
def Ctx (g : Gr) (x : Nat) (P : List Nat) : Prop := (∀ a, Dm g a x → a ≠ x → (hd g).testBit a = true → 100 + a ∈ P) ∧ ∀ a v, Lrd g a v → Dm g a x → a ≠ x → (mg g).testBit v = true → pl g x < pl g v → 200 + v ∈ P
/-- and when x itself is told -/
def Cin (g : Gr) (x : Nat) (P : List Nat) : Prop := (∀ a, Dm g a x → (hd g).testBit a = true → 100 + a ∈ P) ∧ ∀ a v, Lrd g a v → Dm g a x → a ≠ x → (mg g).testBit v = true → pl g x < pl g v → 200 + v ∈ P
theorem blk_of {g : Gr} (hg : gok g) {x w : Nat} (h : Lrd g x w) (hm : (mg g).testBit w = true) : blk g x w = true := by
  unfold blk
  rw [hm, ld_some hg h]
  simp
theorem Ctx.child {g : Gr} (hg : gok g) {x y : Nat} {P1 P : List Nat} (h : Cin g x P1) (hl : Lrd g x y) (hs : ∀ c ∈ P1, c ∈ P) (hB : ∀ w, Lrd g x w → (mg g).testBit w = true → pl g y < pl g w → 200 + w ∈ P) : Ctx g y P := by
  have hxy := hl.2.1.ple hg
  refine ⟨fun a ha hne hh => hs _ (h.1 a (hl.2.2 a ha hne) hh), fun a v hv ha hne hm hp => ?_⟩
  have hax := hl.2.2 a ha hne
  by_cases q : a = x
  · subst q; exact hB v hv hm hp
  · exact hs _ (h.2 a v hv hax q hm (by omega))
theorem no02 : ¬ ((0 : Nat) = 2) := by decide
theorem no03 : ¬ ((0 : Nat) = 3) := by decide
theorem no12 : ¬ ((1 : Nat) = 2) := by decide
theorem no13 : ¬ ((1 : Nat) = 3) := by decide
theorem no23 : ¬ ((2 : Nat) = 3) := by decide
theorem no32 : ¬ ((3 : Nat) = 2) := by decide
theorem fit1_0 (s : Nat) (t : St) : fit1 (0, s, 0) t := ⟨fun h => absurd h no02, fun h => absurd h no03⟩
theorem fit1_1 (s : Nat) (t : St) : fit1 (1, s, 0) t := ⟨fun h => absurd h no12, fun h => absurd h no13⟩
theorem fit1_2 (s : Nat) {t : St} (h : t.2.2.2.2 ≠ []) : fit1 (2, s, 0) t := ⟨fun _ => h, fun h => absurd h no23⟩
theorem fit1_3 (b k : Nat) {t : St} (h : k ∈ t.2.2.2.2) : fit1 (3, b, k) t := ⟨fun h => absurd h no32, fun _ => h⟩
section FT
variable {g : Gr} {kd : Nat → Nat}
theorem fit_opB (x : Nat) : ∀ (i : Nat) (t : St), fit (opB g x i) t
  | 0, _ => trivial
  | i + 1, t => by
    unfold opB
    rw [fit_app]
    refine ⟨?_, fit_opB x i _⟩
    split
    · exact ⟨fit1_1 _ _, trivial⟩
    · trivial
theorem fit_br (hg : gok g) (hb : bd g = 0) {d : Nat} (ih : ∀ (x : Nat) (t : St), x ∈ po g → Ctx g x t.2.2.2.2 → fit (tr g kd d x) t) {x e : Nat} (he : e / 2 = x) {P1 : List Nat} {t : St} (hC : Cin g x P1) (hs : ∀ c ∈ P1, c ∈ t.2.2.2.2) (hB : ∀ w, Lrd g x w → (mg g).testBit w = true → 200 + w ∈ t.2.2.2.2) : fit (br (tr g kd d) g e) t := by
  unfold br
  cases hl : lvE g e with
  | none => trivial
  | some y =>
    obtain ⟨l1, l2, l3, l4, l5⟩ := lvE_ok hg hl
    have hxr : Rch g 99 x := (mem_po hg).mp (he ▸ l3)
    simp only
    by_cases hp : pl g (e / 2) < pl g y
    · rw [if_pos hp]
      cases hm : (mg g).testBit y with
      | true =>
        rw [if_pos rfl]
        refine ⟨fit1_3 _ _ ?_, trivial⟩
        obtain ⟨a, ha⟩ := Lrd_ex hg ((mem_po hg).mp l4) (fwd_ne0 hg ⟨hl, hp⟩)
        have hax : Dm g a x := by
          have := ha.2.1.pred ha.1 l5 (by rw [he]; exact hxr)
          rw [he] at this; exact this
        by_cases q : a = x
        · subst q; exact hB y ha hm
        · exact hs _ (hC.2 a y ha hax q hm (by rw [he] at hp; exact hp))
      | false =>
        rw [if_neg (by simp)]
        have hlx : Lrd g x y := by
          have := fwd_lord hg hb ⟨hl, hp⟩ hm
          rw [he] at this; exact this
        exact ih y t l4 (Ctx.child hg hC hlx hs (fun w hw hmw _ => hB w hw hmw))
    · rw [if_neg hp]
      refine ⟨fit1_3 _ _ ?_, trivial⟩
      have h1 := bck_dm hg hb ⟨hl, hp⟩
      rw [he] at h1
      exact hs _ (hC.1 y h1 (bck_hd hg hb ⟨hl, hp⟩))
theorem fit_clB (hg : gok g) {d : Nat} (ih : ∀ (x : Nat) (t : St), x ∈ po g → Ctx g x t.2.2.2.2 → fit (tr g kd d x) t) {x : Nat} (hx : x < 8) {P1 : List Nat} (hC : Cin g x P1) : ∀ (i : Nat) (P : List Nat) (t : St), i < (po g).length → t.2.2.2.2 = bc g x i ++ P → (∀ c ∈ P1, c ∈ P) → (∀ j, i < j → j < (po g).length → blk g x (nd g j) = true → 200 + nd g j ∈ P) → fit (clB (tr g kd d) g x i) t
  | 0, _, _, _, _, _, _ => trivial
  | i + 1, P, t, hi, ht, hs, hB => by
    have hb : bc g x (i + 1) = bc g x i ++ (if blk g x (nd g (i + 1)) then [200 + nd g (i + 1)] else []) := rfl
    rw [hb, List.append_assoc] at ht
    unfold clB
    rw [fit_app]
    have hop := clB_op (tr_op g kd d) g x i _ t ht
    refine ⟨fit_clB hg ih hx hC i _ t (by omega) ht (fun c hc => List.mem_append_right _ (hs c hc)) (fun j h1 h2 h3 => ?_), ?_⟩
    · by_cases q : j = i + 1
      · subst q; rw [h3]; simp
      · exact List.mem_append_right _ (hB j (by omega) h2 h3)
    · cases hk : blk g x (nd g (i + 1)) with
      | false => trivial
      | true =>
        rw [hk] at hop
        obtain ⟨hl, hm⟩ := blk_lord hg hx hk
        rw [if_pos rfl]
        refine ⟨fit1_2 _ (by rw [hop]; simp), ?_⟩
        have hpl := nd_pl hg hi
        refine ih _ _ (nd_mem hi) ?_
        rw [ex_cls, hop]
        refine Ctx.child hg hC hl hs (fun w hw hmw hpw => ?_)
        obtain ⟨n1, n2⟩ := nd_of_pl hg ((mem_po hg).mpr hw.2.1.2.1)
        have := hB (pl g w) (by omega) n2 (by rw [n1]; exact blk_of hg hw hmw)
        rw [n1] at this; exact this
theorem fit_tr (hg : gok g) (hb : bd g = 0) : ∀ (d x : Nat) (t : St), x ∈ po g → Ctx g x t.2.2.2.2 → fit (tr g kd d x) t
  | 0, _, _, _, _ => trivial
  | d + 1, x, t, hx, hC => by
    have hx8 := ((po_ok hg).2.1 x hx).1
    have hpos : 0 < (po g).length := List.length_pos_of_mem hx
    have main : ∀ t1 : St, Cin g x t1.2.2.2.2 → fit (wi (tr g kd d) g (en (kd x)) x) t1 := by
      intro t1 h1
      unfold wi
      rw [fit_app]
      refine ⟨fit_opB x _ t1, ⟨fit1_0 _ _, ?_⟩⟩
      have hop : (ex1 (0, x, 0) (ex (opB g x ((po g).length - 1)) t1)).2.2.2.2 = bc g x ((po g).length - 1) ++ t1.2.2.2.2 := by rw [ex_tell, opB_op]
      generalize ex1 (0, x, 0) (ex (opB g x ((po g).length - 1)) t1) = t2 at hop
      have hB : ∀ w, Lrd g x w → (mg g).testBit w = true → 200 + w ∈ bc g x ((po g).length - 1) := fun w hw hmw => by
        obtain ⟨n1, n2⟩ := nd_of_pl hg ((mem_po hg).mpr hw.2.1.2.1)
        have h0 := hw.2.1.ple hg
        have hne : pl g x ≠ pl g w := fun z => hw.1 (pl_inj hg hx ((mem_po hg).mpr hw.2.1.2.1) z)
        have := bc_mem ((po g).length - 1) (pl g w) (by omega) (by omega) (by rw [n1]; exact blk_of hg hw hmw)
        rw [n1] at this; exact this
      have hbr : ∀ (e : Nat) (t3 : St), e / 2 = x → t3.2.2.2.2 = bc g x ((po g).length - 1) ++ t1.2.2.2.2 → fit (br (tr g kd d) g e) t3 := fun e t3 he ht3 =>
        fit_br hg hb (fit_tr hg hb d) he h1 (fun c hc => by rw [ht3]; exact List.mem_append_right _ hc) (fun w hw hmw => by rw [ht3]; exact List.mem_append_left _ (hB w hw hmw))
      rw [fit_app]
      refine ⟨?_, fit_clB hg (fit_tr hg hb d) hx8 h1 _ t1.2.2.2.2 _ (by omega) (by rw [ens_op (tr_op g kd d)]; exact hop) (fun c hc => hc) (fun j h1 h2 => by omega)⟩
      unfold ens
      split
      · trivial
      · rw [fit_app]
        refine ⟨hbr _ _ (by omega) hop, ?_⟩
        split
        · refine ⟨fit1_0 _ _, ?_⟩
          rw [fit_app]
          refine ⟨hbr _ _ (by omega) (by rw [ex_tell, br_op (tr_op g kd d)]; exact hop), ⟨fit1_0 _ _, trivial⟩⟩
        · trivial
    unfold tr
    rw [fit_app, fit_app]
    cases hh : (hd g).testBit x with
    | true =>
      refine ⟨⟨fit1_1 _ _, trivial⟩, main _ ⟨fun a ha hha => ?_, fun a v hv ha hne hm hp => ?_⟩, ⟨fit1_2 _ ?_, trivial⟩⟩
      · show 100 + a ∈ (100 + x) :: t.2.2.2.2
        by_cases q : a = x
        · subst q; simp
        · exact List.mem_cons_of_mem _ (hC.1 a ha q hha)
      · show 200 + v ∈ (100 + x) :: t.2.2.2.2
        exact List.mem_cons_of_mem _ (hC.2 a v hv ha hne hm hp)
      · rw [wi_op (tr_op g kd d)]
        show (100 + x) :: t.2.2.2.2 ≠ []
        simp
    | false =>
      refine ⟨trivial, main _ ⟨fun a ha hha => ?_, fun a v hv ha hne hm hp => hC.2 a v hv ha hne hm hp⟩, trivial⟩
      by_cases q : a = x
      · subst q; rw [hh] at hha; cases hha
      · exact hC.1 a ha q hha
/-- the whole fold -/
theorem fit_all (hg : gok g) (hb : bd g = 0) (d : Nat) (t : St) : fit (tr g kd d 0) t := by
  refine fit_tr hg hb d 0 t (po_ok hg).2.2.2.2.1 ⟨fun a ha hne _ => ?_, fun a v _ ha hne _ _ => ?_⟩
  · exact absurd (Dm.anti hg ha (Dm.zero ha.1)) hne
  · exact absurd (Dm.anti hg ha (Dm.zero ha.1)) hne
end FT
