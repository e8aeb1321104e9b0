/-! THE CLAIM OUT OF ONE WALK OF THE LAW'S BODY. Your part is whole_start (and what it stands on); all else here is the same for every law, but numbers. -/
def R_law : String := "FlowFoldLaw"
def lw_P (b : Addr) (xs : List Int32) (args : Array Value) (s : State) : Prop := args = #[.ref b] ∧ s.IntsAt b xs ∧ xs.length ≤ 2048 ∧ (Jvm.Cond.and given_1 narrow_1).before args s = true
def lw_Q (_ : Array Value) (s : State) (o : Outcome) (t : State) : Prop := o = .returned (some (.int 1)) ∧ Framed s o t [] 600000 7302250
def lw_Z (below : List Frame) (a : Array Value) (s : State) : State → Prop := fun t => ∃ o, t.status = .running ∧ Ended t below o ∧ lw_Q a s o t
/-- the law's own end, with 1 on the stack, nothing written that was there before, its room as the claim has it -/
theorem lw_ret {p : Program} {l : Launch} {e : Env} {s : State} {m : MethodId} {below : List Frame} {meth : Method} {c : Code} {b : Nat} (hx : p.tables.exec = Jvm.exec) (hb : c.code = code) (hr : meth.sig.returnType = ret) (hlocks : meth.locks = false) {pc : Nat} {H : Heap} {ls : Array Slot} (hdg : decode code pc = .ok (.ireturn, 1)) : W p l e room_1 s m #[Value.ref b] below meth c H [] 600000 7302250 (lw_Z below #[Value.ref b] s) (F0 m pc ls [.int 1]) := by
  intro T hT X
  obtain ⟨fs, hret, hrun, hended, hW, hframe⟩ := X.leave (v := some (.int 1)) (hlocks := hlocks) (fun h => by rw [hr] at h; cases h)
  have hmeth' : T.vm.method? m = some meth := X.method'
  refine ⟨T.setFrames fs, ?_, .returned (some (.int 1)), hrun, hended, rfl, ⟨_, rfl⟩, hW, hframe⟩
  jvm_step X.here [X.here.top, hx, hb, hdg, hmeth', hr, ret, narrow_b1]
  (try refine ⟨rfl, ?_⟩); (try refine ⟨rfl, ?_⟩)
  first | (intro acts; rw [hret _ acts rfl rfl rfl]) | rw [hret _ _ rfl rfl rfl]
  exact Steps.refl _
/-- what holds at the law's entry: the machine, the code, the tables' words (any of lw_tbl by 'hts w (by decide +kernel)'), the script of L ints xs at the cell b, what the Statement gives of the start (any of its parts by flat_of_before) -/
def lw_At (p : Program) (s : State) (m : MethodId) (meth : Method) (c : Code) (b L : Nat) (xs : Nat → Int32) : Prop :=
  p.tables.exec = Jvm.exec ∧ c.code = code ∧ meth.sig.returnType = ret ∧ c.maxLocals = 4 ∧ s.vm.findClass R_law = some m.cls ∧ (∀ w ∈ lw_tbl, w.before #[Value.ref b] s = true) ∧ va_X b L xs s s.heap ∧ b < s.heap.size ∧ meth.locks = false ∧ (Jvm.Cond.and given_1 narrow_1).before #[Value.ref b] s = true

theorem law_num {L k : Nat} (hL : L ≤ 2048) (hk : k ≤ 512) (h : ¬ (Int32.ofNat L - 4 < nI (4 * k))) : 4 * k + 4 ≤ L := by
  by_cases h4 : 4 ≤ L
  · obtain ⟨a, rfl⟩ : ∃ a, L = a + 4 := ⟨L - 4, by omega⟩
    have e1 : Int32.ofNat (a + 4) - 4 = nI a := by
      show nI (a + 4) - 4 = nI a
      rw [← nI_add a 4]
      show nI a + 4 - 4 = nI a
      exact Int32.add_sub_cancel (nI a) 4
    rw [e1, nI_ltI (by omega) (by omega)] at h
    omega
  · exfalso
    apply h
    rw [Int32.lt_iff_toInt_lt, nI_toInt (by omega)]
    have h5 : L = 0 ∨ L = 1 ∨ L = 2 ∨ L = 3 := by omega
    have h6 : (Int32.ofNat L - 4).toInt < 0 := by
      rcases h5 with rfl | rfl | rfl | rfl <;> decide
    omega
theorem law_sw (y : Int32) : (∃ j : Nat, j < 22 ∧ y = nI j) ∨ (y.toInt < 0 ∨ 21 < y.toInt) := by
  by_cases h0 : y.toInt < 0
  · exact Or.inr (Or.inl h0)
  · by_cases h1 : 21 < y.toInt
    · exact Or.inr (Or.inr h1)
    · refine Or.inl ⟨y.toInt.toNat, by omega, ?_⟩
      apply Int32.toInt_inj.mp
      rw [nI_toInt (by omega)]
      omega
theorem law_in {L k : Nat} (hL : L ≤ 2048) (h : 4 * k + 4 ≤ L) {j : Nat} (hj : j < 4) : vp_in (nI (4 * k) + nI j) L := by
  rw [nI_add]
  exact nI_in (by omega) (by omega)
section LL
variable {p : Program} {l : Launch} {e : Env} {s : State} {m : MethodId} {below : List Frame} {meth : Method} {c : Code} {cells slots : Nat} {G1 G2 : zG} {b L : Nat} {xs : Nat → Int32}
/-- what never changes in the law -/
def llS (p : Program) (s : State) (m : MethodId) (meth : Method) (c : Code) (G1 G2 : zG) (b L : Nat) (xs : Nat → Int32) (cells slots : Nat) : Prop :=
  p.tables.exec = Jvm.exec ∧ c.code = code ∧ meth.sig.returnType = ret ∧ meth.locks = false ∧ c.maxLocals = 4 ∧ lqC WF WM G1 G2 #[Value.ref b] s m ∧ (cells ≤ 600000 ∧ slots ≤ 7302250) ∧ va_X b L xs s s.heap ∧ b < s.heap.size ∧ L ≤ 2048
/-- one step of the law: the switch -/
theorem law_step {H : Heap} {locs : List Loc} {Q : State → Prop} {ls : Array Slot} {σ τ : SF} {k : Nat} {i : Int32} (S : lcS p s m c ls G1 G2 σ τ b L k xs i cells slots H locs) (E : lcE p l e s m below meth c ls G1 G2 b k cells slots Q) (y : Int32) : W p l e room_1 s m #[Value.ref b] below meth c H locs cells slots Q (F0 m 32 ls [.int y]) := by
  have hx := S.1
  have hb := S.2.1
  rcases law_sw y with ⟨j, hj, rfl⟩ | hout
  · rcases (show j = 0 ∨ j = 1 ∨ j = 2 ∨ j = 3 ∨ j = 4 ∨ j = 5 ∨ j = 6 ∨ j = 7 ∨ j = 8 ∨ j = 9 ∨ j = 10 ∨ j = 11 ∨ j = 12 ∨ j = 13 ∨ j = 14 ∨ j = 15 ∨ j = 16 ∨ j = 17 ∨ j = 18 ∨ j = 19 ∨ j = 20 ∨ j = 21 by omega) with rfl | rfl | rfl | rfl | rfl | rfl | rfl | rfl | rfl | rfl | rfl | rfl | rfl | rfl | rfl | rfl | rfl | rfl | rfl | rfl | rfl | rfl
    · exact lv_tableIn (tgt := 136) hx hb dL_32 (by decide) (by decide) rfl (by decide) (law_c0 S E)
    · exact lv_tableIn (tgt := 159) hx hb dL_32 (by decide) (by decide) rfl (by decide) (law_c1 S E)
    · exact lv_tableIn (tgt := 172) hx hb dL_32 (by decide) (by decide) rfl (by decide) (law_c2 S E)
    · exact lv_tableIn (tgt := 185) hx hb dL_32 (by decide) (by decide) rfl (by decide) (law_c3 S E)
    · exact lv_tableIn (tgt := 198) hx hb dL_32 (by decide) (by decide) rfl (by decide) (law_c4 S E)
    · exact lv_tableIn (tgt := 231) hx hb dL_32 (by decide) (by decide) rfl (by decide) (law_c5 S E)
    · exact lv_tableIn (tgt := 264) hx hb dL_32 (by decide) (by decide) rfl (by decide) (law_c6 S E)
    · exact lv_tableIn (tgt := 297) hx hb dL_32 (by decide) (by decide) rfl (by decide) (law_c7 S E)
    · exact lv_tableIn (tgt := 330) hx hb dL_32 (by decide) (by decide) rfl (by decide) (law_c8 S E)
    · exact lv_tableIn (tgt := 373) hx hb dL_32 (by decide) (by decide) rfl (by decide) (law_c9 S E)
    · exact lv_tableIn (tgt := 406) hx hb dL_32 (by decide) (by decide) rfl (by decide) (law_c10 S E)
    · exact lv_tableIn (tgt := 429) hx hb dL_32 (by decide) (by decide) rfl (by decide) (law_c11 S E)
    · exact lv_tableIn (tgt := 452) hx hb dL_32 (by decide) (by decide) rfl (by decide) (law_c12 S E)
    · exact lv_tableIn (tgt := 475) hx hb dL_32 (by decide) (by decide) rfl (by decide) (law_c13 S E)
    · exact lv_tableIn (tgt := 498) hx hb dL_32 (by decide) (by decide) rfl (by decide) (law_c14 S E)
    · exact lv_tableIn (tgt := 521) hx hb dL_32 (by decide) (by decide) rfl (by decide) (law_c15 S E)
    · exact lv_tableIn (tgt := 564) hx hb dL_32 (by decide) (by decide) rfl (by decide) (law_c16 S E)
    · exact lv_tableIn (tgt := 577) hx hb dL_32 (by decide) (by decide) rfl (by decide) (law_c17 S E)
    · exact lv_tableIn (tgt := 620) hx hb dL_32 (by decide) (by decide) rfl (by decide) (law_c18 S E)
    · exact lv_tableIn (tgt := 633) hx hb dL_32 (by decide) (by decide) rfl (by decide) (law_c19 S E)
    · exact lv_tableIn (tgt := 646) hx hb dL_32 (by decide) (by decide) rfl (by decide) (law_c20 S E)
    · exact lv_tableIn (tgt := 669) hx hb dL_32 (by decide) (by decide) rfl (by decide) (law_c21 S E)
  · obtain ⟨-, -, -, -, -, -, -, -, -, -, -, hI, -, hv⟩ := S
    exact lv_tableOut (tgt := 683) hx hb dL_32 hout (by decide) (E σ τ H locs (hv.step (Kp.refl _)) hI)
theorem law_loop (S : llS p s m meth c G1 G2 b L xs cells slots) : ∀ (n k : Nat), 512 < k + n → k ≤ 512 → ∀ (σ τ : SF) (H : Heap) (locs : List Loc) (ls : Array Slot), Inv k σ τ → lqI WF WM G1 G2 s σ τ H locs → lv_has ls 4 [(0, .ref b), (1, .ref (za G1 0)), (2, .ref (za G2 0)), (3, .int (nI (4 * k)))] →
    W p l e room_1 s m #[Value.ref b] below meth c H locs cells slots (lw_Z below #[Value.ref b] s) (F0 m 18 ls []) := by
  obtain ⟨hx, hb, hr, hlk, hml, hC, hf, hX, hbl, hL⟩ := S
  have hbA : ¬ (fun q : Nat => s.heap.size ≤ q) b := Nat.not_le.mpr hbl
  intro n
  induction n with
  | zero => intro k h1 h2; omega
  | succ n ih =>
    intro k h1 h2 σ τ H locs ls hv hI hl
    refine lv_iload_n hx hb dL_18 rfl (lv_at hl 3 rfl) ?_
    refine lv_aload_n hx hb dL_19 rfl (lv_at hl 0 rfl) ?_
    refine va_slen hx hb hX hbl hbA hI.2.2 dL_20 ?_
    refine lv_iconst (v := 4) hx hb dL_21 (by decide) ?_
    refine lv_isub hx hb dL_22 ?_
    refine lv_icmp_gt (tgt := 689) hx hb dL_23 (by decide) (fun _ => ?_) (fun hng => ?_)
    · refine lv_iconst (v := 1) hx hb dL_689 (by decide) ?_
      refine va_forget hI.2.2.2.2 ?_
      refine W.widen (k := 600000) (n := 7302250) hf.1 hf.2 ?_
      exact lw_ret hx hb hr hlk dL_690
    · have hk4 : 4 * k + 4 ≤ L := law_num hL h2 hng
      refine lv_aload_n hx hb dL_26 rfl (lv_at hl 0 rfl) ?_
      refine lv_iload_n hx hb dL_27 rfl (lv_at hl 3 rfl) ?_
      refine va_sld hx hb hX hbl hbA hI.2.2 (nI_in (by omega) (by omega)) dL_28 ?_
      refine lv_bipush (v := 31) hx hb dL_29 (by decide) ?_
      refine lv_iand hx hb dL_31 ?_
      refine law_step (L := L) (xs := xs) (σ := σ) (τ := τ) (k := k) (i := nI (4 * k)) ⟨hx, hb, hC, hml.trans hl.1.symm, hf, hX, hbl, law_in (j := 1) hL hk4 (by omega), law_in (j := 2) hL hk4 (by omega), law_in (j := 3) hL hk4 (by omega), hl, hI, by omega, hv⟩ ?_ _
      intro σ1 τ1 H1 locs1 hv1 hI1
      refine lv_iinc (k := 3) (v := nI (4 * (k + 1))) (lv' := [(3, .int (nI (4 * (k + 1)))), (0, .ref b), (1, .ref (za G1 0)), (2, .ref (za G2 0))]) hx hb dL_683 hl rfl (nI_add (4 * k) 4) (by decide) rfl (fun ls hl => ?_)
      refine lv_goto (tgt := 18) hx hb dL_686 (by decide) ?_
      exact ih (k + 1) (by omega) (by omega) σ1 τ1 H1 locs1 ls hv1 hI1 (lv_sub hl [1, 2, 3, 0] rfl)
end LL
