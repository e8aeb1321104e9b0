/-! TWO WORLDS IN ONE HEAP: the class's and the reference's; a call on one keeps the other -/
def lqI (w1 w2 : zWd) (G1 G2 : zG) (s : State) (σ τ : SF) (H : Heap) (locs : List Loc) : Prop := va_P G1.1 vwCl (zW w1 G1 σ) H ∧ va_P G2.1 vwCl (zW w2 G2 τ) H ∧ va_S (fun q => s.heap.size ≤ q) s.heap H locs
def lqC (w1 w2 : zWd) (G1 G2 : zG) (args : Array Value) (s : State) (m : MethodId) : Prop :=
  s.vm.findClass RL = some m.cls ∧ (∀ x ∈ AW, x.before args s = true) ∧ zK w1 G1 s.heap.size s ∧ zK w2 G2 s.heap.size s ∧ (∀ i j, i < w1.1 → j < w2.1 → G1.2.1 i ≠ G2.2.1 j) ∧ (∀ i, i < w1.1 → s.heap.size ≤ G1.2.1 i) ∧ (∀ j, j < w2.1 → s.heap.size ≤ G2.2.1 j)
theorem lqC.sw {w1 w2 : zWd} {G1 G2 : zG} {args : Array Value} {s : State} {m : MethodId} (h : lqC w1 w2 G1 G2 args s m) : lqC w2 w1 G2 G1 args s m :=
  ⟨h.1, h.2.1, h.2.2.2.1, h.2.2.1, fun i j hi hj e => h.2.2.2.2.1 j i hj hi e.symm, h.2.2.2.2.2.2, h.2.2.2.2.2.1⟩
theorem lqI.sw {w1 w2 : zWd} {G1 G2 : zG} {s : State} {σ τ : SF} {H : Heap} {locs : List Loc} (h : lqI w1 w2 G1 G2 s σ τ H locs) : lqI w2 w1 G2 G1 s τ σ H locs := ⟨h.2.1, h.1, h.2.2⟩
theorem lqC.C {w1 w2 : zWd} {G1 G2 : zG} {args : Array Value} {s : State} {m : MethodId} (h : lqC w1 w2 G1 G2 args s m) : zC w1 G1 RL args s m := ⟨h.1, h.2.1, h.2.2.1⟩
theorem lqI.I {w1 w2 : zWd} {G1 G2 : zG} {s : State} {σ τ : SF} {H : Heap} {locs : List Loc} (h : lqI w1 w2 G1 G2 s σ τ H locs) : zI w1 G1 s σ H locs :=
  ⟨h.1, h.2.2.1, fun q h1 h2 => h.2.2.2.1 q h1 (fun z => h2 (Or.inr z)), fun q hq => Or.inr (h.2.2.2.2 q hq)⟩
theorem zW_inv {w : zWd} {G : zG} {σ : SF} {k : Nat} {q : Nat × va_E} (h : (zW w G σ)[k]? = some q) : k < w.1 ∧ q.1 = G.2.1 k := by
  have hi : k < w.1 := by
    have h1 := (List.getElem?_eq_some_iff.mp h).1
    simpa [zW, zFW] using h1
  have h2 : (zW w G σ)[k]? = some (G.2.1 k, w.2 G k (σ k)) := zFW_at hi
  rw [h2] at h
  have h3 := Option.some.inj h
  exact ⟨hi, by rw [← h3]⟩
theorem lq_mono {w1 w2 : zWd} {G1 G2 : zG} {args : Array Value} {s : State} {m : MethodId} {H : Heap} (hC : lqC w1 w2 G1 G2 args s m) (hH : s.heap.size ≤ H.size) {q : Nat} (h : zAA w1 G1 H.size q) : s.heap.size ≤ q := by
  rcases h with ⟨k, hk, rfl⟩ | h
  · exact hC.2.2.2.2.2.1 k hk
  · exact Nat.le_trans hH h
theorem lq_kept {w1 w2 : zWd} {G1 G2 : zG} {args : Array Value} {s : State} {m : MethodId} {H H1 : Heap} {τ : SF} (hC : lqC w1 w2 G1 G2 args s m) (hP : va_P G2.1 vwCl (zW w2 G2 τ) H) (hk : ∀ q : Nat, q < H.size → ¬ zAA w1 G1 H.size q → H1[q]? = H[q]?) : va_P G2.1 vwCl (zW w2 G2 τ) H1 := by
  refine hP.kept (fun k q hq => ?_)
  have hlt := (hP k q hq).lt
  obtain ⟨h1, h2⟩ := zW_inv hq
  refine hk q.1 hlt (fun h => ?_)
  rcases h with ⟨i, hi, e⟩ | h
  · exact hC.2.2.2.2.1 i k hi h1 (by rw [← e, h2])
  · omega
section LQ
variable {p : Program} {l : Launch} {e : Env} {R : Room} {s : State} {m : MethodId} {args : Array Value} {below : List Frame} {meth : Method} {c : Code} {H : Heap} {locs : List Loc} {cells slots : Nat} {Q : State → Prop}
variable {cc : ByteArray} {pc : Nat} {ls : Array Slot} {rest st0 : List Value} {w1 w2 : zWd} {G1 G2 : zG} {σ σ' τ : SF} {y : MethodName} {bytes : ByteArray} {maxL d k index : Nat} {rt : FieldType} {C : String} {As : List Value} {q ci : Nat} {f : (Nat → Int32) → List Value} {T : u_T} {N : Nat}
theorem lq_i {r : Int32} (hx : p.tables.exec = Jvm.exec) (hb : c.code = cc) (hC : lqC w1 w2 G1 G2 args s m) (hml : c.maxLocals = ls.size) (hI : lqI w1 w2 G1 G2 s σ τ H locs) (hM : zMi l w1 G1 y bytes maxL rt d (.ref (za G1 q) :: As) σ r σ') (hy : zYv y bytes maxL (some rt) C k) (hl : Cond.methodLink RL index y ∈ AW) (ho : zO w1 G1 q ci f) (hc : vwCl[ci]? = some (C, T, N)) (hR : d + 1 ≤ R.frames ∧ 8 + (maxL + 11) + 100 * d ≤ R.locals) (hn : As.length = k) (hst : st0 = As.reverse ++ .ref (za G1 q) :: rest) (hrest : (rest.map fun v => v.category).sum ≤ 8) (hf : cells ≤ R.cells ∧ slots ≤ R.slots) (hdg : decode cc pc = .ok (.invokevirtual index, 3))
    (kk : ∀ (H1 : Heap) (locs1 : List Loc), lqI w1 w2 G1 G2 s σ' τ H1 locs1 → W p l e R s m args below meth c H1 locs1 cells slots Q (F0 m (pc + 3) ls (.int r :: rest))) : W p l e R s m args below meth c H locs cells slots Q (F0 m pc ls st0) := by
  refine va_calli (va_runV (As := As) (rest := rest) (nL := ls.size) ⟨hx, hb, hml, hC.1, hC.2.1⟩ (hM H.size) ⟨zB_of hC.C hl hy.2.2.1 hy.2.2.2.1 hy.2.2.2.2 hR, hC.C.ts hy.1, hC.C.ts hy.2.1⟩ (z_pv hC.C hI.I ho hc) rfl hn rfl hst (lv_room hrest) hdg hf) hI.2.2 (fun q _ h => lq_mono hC hI.2.2.1 h) (fun q h => lq_mono hC hI.2.2.1 h) (fun r1 u t H1 locs1 ht hvm hw hB hz1 hk1 hS => ?_)
  subst hw
  exact kk H1 locs1 ⟨ht ▸ hB, lq_kept hC hI.2.1 hk1, hS⟩
theorem lq_l {r : Int64} (hx : p.tables.exec = Jvm.exec) (hb : c.code = cc) (hC : lqC w1 w2 G1 G2 args s m) (hml : c.maxLocals = ls.size) (hI : lqI w1 w2 G1 G2 s σ τ H locs) (hM : zMl l w1 G1 y bytes maxL d (.ref (za G1 q) :: As) σ r σ') (hy : zYv y bytes maxL (some .long) C k) (hl : Cond.methodLink RL index y ∈ AW) (ho : zO w1 G1 q ci f) (hc : vwCl[ci]? = some (C, T, N)) (hR : d + 1 ≤ R.frames ∧ 8 + (maxL + 11) + 100 * d ≤ R.locals) (hn : As.length = k) (hst : st0 = As.reverse ++ .ref (za G1 q) :: rest) (hrest : (rest.map fun v => v.category).sum ≤ 8) (hf : cells ≤ R.cells ∧ slots ≤ R.slots) (hdg : decode cc pc = .ok (.invokevirtual index, 3))
    (kk : ∀ (H1 : Heap) (locs1 : List Loc), lqI w1 w2 G1 G2 s σ' τ H1 locs1 → W p l e R s m args below meth c H1 locs1 cells slots Q (F0 m (pc + 3) ls (.long r :: rest))) : W p l e R s m args below meth c H locs cells slots Q (F0 m pc ls st0) := by
  refine va_calll (va_runV (As := As) (rest := rest) (nL := ls.size) ⟨hx, hb, hml, hC.1, hC.2.1⟩ (hM H.size) ⟨zB_of hC.C hl hy.2.2.1 hy.2.2.2.1 hy.2.2.2.2 hR, hC.C.ts hy.1, hC.C.ts hy.2.1⟩ (z_pv hC.C hI.I ho hc) rfl hn rfl hst (lv_room hrest) hdg hf) hI.2.2 (fun q _ h => lq_mono hC hI.2.2.1 h) (fun q h => lq_mono hC hI.2.2.1 h) (fun r1 u t H1 locs1 ht hvm hw hB hz1 hk1 hS => ?_)
  subst hw
  exact kk H1 locs1 ⟨ht ▸ hB, lq_kept hC hI.2.1 hk1, hS⟩
end LQ
