/-! CONSTRUCTORS: worlds that grow -/
def ctC (D : va_G) (cI cB : ClassId) (A : Nat → Prop) (own : String) (args : Array Value) (s : State) (m : MethodId) : Prop :=
  s.vm.findClass own = some m.cls ∧ (∀ x ∈ AW, x.before args s = true) ∧ va_K D vwCl [(cI, .int), (cB, .byte)] s ∧ (∀ q, s.heap.size ≤ q → A q) ∧ (∀ x ∈ NL, va_Nw x s)
def ctI (D : va_G) (A : Nat → Prop) (s : State) (ws : va_W) (H : Heap) (locs : List Loc) : Prop := va_P D vwCl ws H ∧ va_D A ws ∧ va_S A s.heap H locs
theorem ct_join {A0 : Nat → Prop} {D : va_G} {cl : List vw_C} {ws w1 : va_W} {q : Nat} {e : va_E} {H H1 : Heap} (hP : va_P D cl (ws ++ [(q, e)]) H) (hD : va_D A0 (ws ++ [(q, e)])) (hk : ∀ x : Nat, x < H.size → ¬ va_A [(q, e)] H.size x → H1[x]? = H[x]?) (hF : ∀ x, va_A [(q, e)] H.size x → A0 x) (hP1 : va_P D cl w1 H1) (hD1 : va_D (va_A [(q, e)] H.size) w1) : va_P D cl (ws ++ w1) H1 ∧ va_D A0 (ws ++ w1) := by
  have hat : ∀ (k : Nat) (x : Nat × va_E), ws[k]? = some x → (ws ++ [(q, e)])[k]? = some x := fun k x hx => by
    rw [List.getElem?_append_left (List.getElem?_eq_some_iff.mp hx).1]; exact hx
  have hlast : (ws ++ [(q, e)])[ws.length]? = some (q, e) := by simp
  have apart : ∀ (k : Nat) (x : Nat × va_E), ws[k]? = some x → x.1 < H.size ∧ ¬ va_A [(q, e)] H.size x.1 := by
    intro k x hx
    have hl := (hP k x (hat k x hx)).lt
    refine ⟨hl, fun h => ?_⟩
    rcases h with ⟨k2, e2, h⟩ | h
    · have hk2 : k2 = 0 := by
        have h3 := (List.getElem?_eq_some_iff.mp h).1
        simpa using h3
      subst hk2
      have he : x.1 = q := by
        have h4 : (q, e) = (x.1, e2) := Option.some.inj h
        exact (congrArg Prod.fst h4).symm
      have h5 := hD.1 k ws.length x (q, e) (hat k x hx) hlast he
      have h6 := (List.getElem?_eq_some_iff.mp hx).1
      omega
    · omega
  have hDw : va_D A0 ws := ⟨fun i j x y hx hy hxy => hD.1 i j x y (hat i x hx) (hat j y hy) hxy, fun k x hx => hD.2 k x (hat k x hx)⟩
  exact ⟨va_P.app (fun k x hx => (hP k x (hat k x hx)).kept (hk x.1 (apart k x hx).1 (apart k x hx).2)) hP1, va_D.app hDw (hD1.weaken (fun k x _ h => hF x.1 h)) (fun i j x y hx hy hxy => (apart i x hx).2 (by rw [hxy]; exact hD1.2 j y hy))⟩
abbrev ctR (d mc ms : Nat) : Room := { frames := d, cells := mc, slots := ms, locals := 100 * d }
def ctPr (D : va_G) (cI cB : ClassId) (q ci : Nat) (fs av : List Value) (sz : Nat) : Array Value → State → Prop := va_Pc (.ref q :: av) (fun U => U.heap.size = sz ∧ va_K D vwCl [(cI, .int), (cB, .byte)] U ∧ (∀ x ∈ NL, va_Nw x U) ∧ va_P D vwCl [(q, .inr (ci, fs))] U.heap)
def ctPo {S : Type} (D : va_G) (wf : S → va_W) (A : Nat → Prop) (u : S) (t : State) : Prop := va_P D vwCl (wf u) t.heap ∧ va_D A (wf u)
def ctM (l : Launch) (D : va_G) (cI cB : ClassId) (y : MethodName) (c : ByteArray) (n d mc ms q ci : Nat) (fs av : List Value) {S : Type} (wp : S → Prop) (wf : S → va_W) : Prop :=
  ∀ sz, Met l y (.code y c n none :: AW) (ctR d mc ms) (ctPr D cI cB q ci fs av sz) (va_Qv wp (ctPo D wf (va_A [(q, .inr (ci, fs))] sz)) (va_A [(q, .inr (ci, fs))] sz)) mc ms (va_A [(q, .inr (ci, fs))] sz)
theorem ctPr_blind {D : va_G} {cI cB : ClassId} {q ci : Nat} {fs av : List Value} {sz : Nat} : FrameBlind (ctPr D cI cB q ci fs av sz) := fun a U g mk h =>
  ⟨h.1, h.2.1, va_K.moved (u := U) (U := U.calling g mk a) (Vm.Alike.refl U.vm) h.2.2.1, zNL_same (s := U) (U := U.calling g mk a) rfl h.2.2.2.1, h.2.2.2.2⟩
theorem ctP_last {D : va_G} {cl : List vw_C} {ws : va_W} {x : Nat × va_E} {H : Heap} (h : va_P D cl (ws ++ [x]) H) : va_P D cl [x] H := by
  intro k q hq
  have h3 := (List.getElem?_eq_some_iff.mp hq).1
  have hk : k = 0 := by simpa using h3
  subst hk
  refine h ws.length q ?_
  rw [List.getElem?_append_right (Nat.le_refl _), Nat.sub_self]
  exact hq
theorem ctD_last {A : Nat → Prop} {ws : va_W} {x : Nat × va_E} (h : va_D A (ws ++ [x])) : A x.1 := h.2 ws.length x (by simp)
section CT
variable {p : Program} {l : Launch} {e : Env} {R : Room} {s : State} {m : MethodId} {args : Array Value} {below : List Frame} {meth : Method} {c : Code} {H : Heap} {locs : List Loc} {cells slots : Nat} {Q : State → Prop}
variable {cc : ByteArray} {pc : Nat} {ls : Array Slot} {rest : List Value} {D : va_G} {A : Nat → Prop} {ws : va_W} {cI cB : ClassId} {own : String}
theorem ct_put (hx : p.tables.exec = Jvm.exec) (hb : c.code = cc) (hC : ctC D cI cB A own args s m) (hI : ctI D A s ws H locs) (hin2 : meth.name = "<init>") {h0 ci N index : Nat} {fs : List Value} {C ref : String} {T : u_T} (he : ws[0]? = some (h0, .inr (ci, fs))) (hc : vwCl[ci]? = some (C, T, N)) (hin : ∀ x ∈ u_ws C T N, x ∈ AW) (ty0 : Nat → FieldType) (hty : ∀ k, k < N → parseFieldDescriptor (T k).2.2.1 = some (ty0 k)) (hnm : ∀ a, a < N → ∀ b, b < N → a ≠ b → (T a).2.1 ≠ (T b).2.1) (k : Nat) (hk : k < N) (href : (T k).1 = ref) (hdecl : (T k).1 = own) (hfin : (T k).2.2.2 = true) {ty : FieldType} {q : Nat} (hd : parseFieldDescriptor (T k).2.2.1 = some ty) (hn : narrow ty (.ref q) = .ref q) (hfit : fits ty (.ref q) = true) (hlen : k < fs.length)
    (hl : Cond.fieldLink own index ref (T k).2.1 (T k).2.2.1 ∈ AW) (hdg : decode cc pc = .ok (.putfield index, 3))
    (kk : ∀ (H1 : Heap) (locs1 : List Loc), ctI D A s (ws.set 0 (h0, .inr (ci, fs.set k (.ref q)))) H1 locs1 → W p l e R s m args below meth c H1 locs1 cells slots Q (F0 m (pc + 3) ls rest)) : W p l e R s m args below meth c H locs cells slots Q (F0 m pc ls (.ref q :: .ref h0 :: rest)) :=
  va_putF (Ts := AW) hx hb hC.2.1 hin ty0 hty hnm hC.1 hC.2.2.1 hI.1 hI.2.1 hI.2.2 0 he hc k hk (hC.2.1 _ hl) (by rw [href]; exact fun _ h => h) hfin hin2 hdecl hd hn hfit hlen hdg (fun H1 locs1 hP hD hS => kk H1 locs1 ⟨hP, hD, hS⟩)
theorem ct_newi (hx : p.tables.exec = Jvm.exec) (hb : c.code = cc) (hC : ctC D cI cB A own args s m) (hI : ctI D A s ws H locs) {n : Int32} {N : Nat} (hn : ¬ n < 0) (hN : n.toNatClampNeg = N) (hbytes : N * componentBytes .int ≤ 536870912) (hcells : cells + 1 ≤ R.cells) (hslots : slots + N ≤ R.slots) (hdg : decode cc pc = .ok (.newarray .int, 2))
    (kk : ∀ (q : Nat) (H1 : Heap), ctI D A s (ws ++ [(q, .inl (cI, N, .inl (fun _ => 0)))]) H1 locs → W p l e R s m args below meth c H1 locs (cells + 1) (slots + N) Q (F0 m (pc + 2) ls (.ref q :: rest))) : W p l e R s m args below meth c H locs cells slots Q (F0 m pc ls (.int n :: rest)) := by
  refine va_newa (atype := .int) (ty := .int) (a0 := (N, .inl (fun _ => 0))) hx hb (hC.2.1 _ q_ac_int) rfl hC.2.2.1 hI.1 hI.2.1 hI.2.2 hC.2.2.2.1 (fun _ => rfl) hn hN hbytes hcells hslots hdg (fun q cA H1 hK hP hD hS => ?_)
  have e1 : s.vm.findClass _ = some cI := (hK.2 0 _ rfl).2
  have e2 : s.vm.findClass _ = some cA := (hK.2 2 _ rfl).2
  have e3 : cA = cI := Option.some.inj (e2.symm.trans e1)
  rw [e3] at hP hD
  exact kk q H1 ⟨hP, hD, hS⟩
theorem ct_newb (hx : p.tables.exec = Jvm.exec) (hb : c.code = cc) (hC : ctC D cI cB A own args s m) (hI : ctI D A s ws H locs) {n : Int32} {N : Nat} (hn : ¬ n < 0) (hN : n.toNatClampNeg = N) (hbytes : N * componentBytes .byte ≤ 536870912) (hcells : cells + 1 ≤ R.cells) (hslots : slots + N ≤ R.slots) (hdg : decode cc pc = .ok (.newarray .byte, 2))
    (kk : ∀ (q : Nat) (H1 : Heap), ctI D A s (ws ++ [(q, .inl (cB, N, .inl (fun _ => 0)))]) H1 locs → W p l e R s m args below meth c H1 locs (cells + 1) (slots + N) Q (F0 m (pc + 2) ls (.ref q :: rest))) : W p l e R s m args below meth c H locs cells slots Q (F0 m pc ls (.int n :: rest)) := by
  refine va_newa (atype := .byte) (ty := .byte) (a0 := (N, .inl (fun _ => 0))) hx hb (hC.2.1 _ q_ac_byte) rfl hC.2.2.1 hI.1 hI.2.1 hI.2.2 hC.2.2.2.1 (fun _ => rfl) hn hN hbytes hcells hslots hdg (fun q cA H1 hK hP hD hS => ?_)
  have e1 : s.vm.findClass _ = some cB := (hK.2 1 _ rfl).2
  have e2 : s.vm.findClass _ = some cA := (hK.2 2 _ rfl).2
  have e3 : cA = cB := Option.some.inj (e2.symm.trans e1)
  rw [e3] at hP hD
  exact kk q H1 ⟨hP, hD, hS⟩
theorem ct_new (hx : p.tables.exec = Jvm.exec) (hb : c.code = cc) (hC : ctC D cI cB A own args s m) (hI : ctI D A s ws H locs) {C : String} {T : u_T} {N ci index : Nat} {fs : List Value} (hc : vwCl[ci]? = some (C, T, N)) (hin : ∀ x ∈ u_ws C T N, x ∈ AW) (ty : Nat → FieldType) (hty : ∀ k, k < N → parseFieldDescriptor (T k).2.2.1 = some (ty k)) (hcl : Cond.classLink own index C ∈ AW) (hia : Cond.instantiable C N ∈ AW) (hini : Cond.initialized C ∈ AW) (hfs : ∀ j, j < N → defaultValue (ty j) = vp_V fs j) (hcells : cells + 1 ≤ R.cells) (hslots : slots + N ≤ R.slots) (hdg : decode cc pc = .ok (.new index, 3))
    (kk : ∀ (q : Nat) (H1 : Heap), ctI D A s (ws ++ [(q, .inr (ci, fs))]) H1 locs → W p l e R s m args below meth c H1 locs (cells + 1) (slots + N) Q (F0 m (pc + 3) ls (.ref q :: rest))) : W p l e R s m args below meth c H locs cells slots Q (F0 m pc ls rest) :=
  va_new (Ts := AW) hx hb hC.2.1 hin ty hty hC.1 (hC.2.1 _ hcl) (hC.2.1 _ hia) (hC.2.1 _ hini) hC.2.2.1 hI.1 hI.2.1 hI.2.2 hC.2.2.2.1 hc hfs hcells hslots hdg (fun q H1 hP hD hS => kk q H1 ⟨hP, hD, hS⟩)
theorem ct_free (hC : ctC D cI cB A own args s m) {q : Nat} {e : va_E} (hI : ctI D A s (ws ++ [(q, e)]) H locs) : ∀ x, va_A [(q, e)] H.size x → A x := by
  intro x h
  rcases h with ⟨k2, e2, h⟩ | h
  · have hk2 : k2 = 0 := by
      have h3 := (List.getElem?_eq_some_iff.mp h).1
      simpa using h3
    subst hk2
    have h4 : (q, e) = (x, e2) := Option.some.inj h
    have h5 : q = x := congrArg Prod.fst h4
    rw [← h5]
    exact ctD_last hI.2.1
  · exact hC.2.2.2.1 x (Nat.le_trans hI.2.2.1 h)
theorem ct_pre (hC : ctC D cI cB A own args s m) {q ci : Nat} {fs As : List Value} (hI : ctI D A s (ws ++ [(q, .inr (ci, fs))]) H locs) : PreS s H (ctPr D cI cB q ci fs As H.size) (.ref q :: As) :=
  ⟨ctPr_blind, fun U hU hW => ⟨rfl, by rw [hU], va_K.moved hW.alike hC.2.2.1, zNL_warm hW hC.2.2.2.2, by rw [hU]; exact ctP_last hI.1⟩⟩
theorem ct_callI (hx : p.tables.exec = Jvm.exec) (hb : c.code = cc) (hC : ctC D cI cB A own args s m) (hml : c.maxLocals = ls.size) {y : MethodName} {bytes : ByteArray} {maxL d mc ms q ci index k : Nat} {fs As st0 : List Value} {S : Type} {wp : S → Prop} {wf : S → va_W} (hI : ctI D A s (ws ++ [(q, .inr (ci, fs))]) H locs) (hM : ctM l D cI cB y bytes maxL d mc ms q ci fs As wp wf) (hco : Cond.code y bytes maxL none ∈ AW) (hini : Cond.initialized y.cls ∈ AW) (hl : Cond.methodLink own index y ∈ AW) (him : Cond.instanceMethod y ∈ AW) (hname : y.name = "<init>") (hd : y.cls ≠ "java/lang/invoke/MethodHandle" ∧ y.cls ≠ "java/lang/invoke/VarHandle" ∧ (parseMethodDescriptor y.desc).map (fun d => d.parameters.length) = some k) (hR : d + 1 ≤ R.frames ∧ 8 + (maxL + 11) + 100 * d ≤ R.locals) (hn : As.length = k) (hst : st0 = As.reverse ++ .ref q :: rest) (hrest : (rest.map fun v => v.category).sum ≤ 8) (hf : cells + mc ≤ R.cells ∧ slots + ms ≤ R.slots) (hdg : decode cc pc = .ok (.invokespecial index, 3))
    (kk : ∀ (u : S) (H1 : Heap) (locs1 : List Loc), wp u → ctI D A s (ws ++ wf u) H1 locs1 → W p l e R s m args below meth c H1 locs1 (cells + mc) (slots + ms) Q (F0 m (pc + 3) ls rest)) : W p l e R s m args below meth c H locs cells slots Q (F0 m pc ls st0) := by
  have hF := ct_free hC hI
  refine va_callv (va_runI (As := As) (rest := rest) (nL := ls.size) ⟨hx, hb, hml, hC.1, hC.2.1⟩ (hM H.size) ⟨callB_of k hC.2.1 (zGoodA hco) rfl rfl rfl (hC.2.1 _ hini) (hC.2.1 _ hl) hd hR, hname, hC.2.1 _ him⟩ (ct_pre hC hI) rfl hn rfl hst (lv_room hrest) hdg hf) hI.2.2 (fun x _ h => hF x h) hF (fun u t H1 locs1 ht hvm hw hB hz1 hk1 hS => ?_)
  have hJ := ct_join hI.1 hI.2.1 hk1 hF (ht ▸ hB.1) hB.2
  exact kk u H1 locs1 hw ⟨hJ.1, hJ.2, hS⟩
theorem ct_callN (hx : p.tables.exec = Jvm.exec) (hb : c.code = cc) (hC : ctC D cI cB A own args s m) (hml : c.maxLocals = ls.size) {y : MethodName} {bytes : ByteArray} {maxL d mc ms q ci index k : Nat} {host : String} {fs As st0 : List Value} {S : Type} {wp : S → Prop} {wf : S → va_W} (hI : ctI D A s (ws ++ [(q, .inr (ci, fs))]) H locs) (hM : ctM l D cI cB y bytes maxL d mc ms q ci fs As wp wf) (hco : Cond.code y bytes maxL none ∈ AW) (hini : Cond.initialized y.cls ∈ AW) (hl : Cond.methodLinkNest own index y host ∈ NL) (him : Cond.instanceMethod y ∈ AW) (hname : y.name = "<init>") (hd : y.cls ≠ "java/lang/invoke/MethodHandle" ∧ y.cls ≠ "java/lang/invoke/VarHandle" ∧ (parseMethodDescriptor y.desc).map (fun d => d.parameters.length) = some k) (hR : d + 1 ≤ R.frames ∧ 8 + (maxL + 11) + 100 * d ≤ R.locals) (hn : As.length = k) (hst : st0 = As.reverse ++ .ref q :: rest) (hrest : (rest.map fun v => v.category).sum ≤ 8) (hf : cells + mc ≤ R.cells ∧ slots + ms ≤ R.slots) (hdg : decode cc pc = .ok (.invokespecial index, 3))
    (kk : ∀ (u : S) (H1 : Heap) (locs1 : List Loc), wp u → ctI D A s (ws ++ wf u) H1 locs1 → W p l e R s m args below meth c H1 locs1 (cells + mc) (slots + ms) Q (F0 m (pc + 3) ls rest)) : W p l e R s m args below meth c H locs cells slots Q (F0 m pc ls st0) := by
  have hF := ct_free hC hI
  refine va_callv (va_runIN (As := As) (rest := rest) (nL := ls.size) (host := host) ⟨hx, hb, hml, hC.1, hC.2.1⟩ (hM H.size) ⟨va_cnB k hC.2.1 (zGoodA hco) rfl rfl rfl (hC.2.2.2.2 _ hl) (hC.2.1 _ hini) hd hR, hname, hC.2.1 _ him⟩ (ct_pre hC hI) rfl hn rfl hst (lv_room hrest) hdg hf) hI.2.2 (fun x _ h => hF x h) hF (fun u t H1 locs1 ht hvm hw hB hz1 hk1 hS => ?_)
  have hJ := ct_join hI.1 hI.2.1 hk1 hF (ht ▸ hB.1) hB.2
  exact kk u H1 locs1 hw ⟨hJ.1, hJ.2, hS⟩
/-- this(): Object.<init> -/
theorem ct_obj (hx : p.tables.exec = Jvm.exec) (hb : c.code = cc) (hC : ctC D cI cB A own args s m) (hml : c.maxLocals = ls.size) {index a : Nat} (hl : Cond.methodLink own index objectInit ∈ AW) (hdg : decode cc pc = .ok (.invokespecial index, 3)) (hframes : 1 ≤ R.frames) (hlocals : 12 ≤ R.locals)
    (kk : W p l e R s m args below meth c H locs cells slots Q (F0 m (pc + 3) ls [])) : W p l e R s m args below meth c H locs cells slots Q (F0 m pc ls [.ref a]) := by
  refine W.objInit hx hb hC.1 (hC.2.1 _ hl) (hC.2.1 _ q_im_oinit) (hC.2.1 _ q_co_oinit) rfl hml.symm rfl hdg hframes (by exact hlocals) ?_
  exact W.eq (g2 := F0 m (pc + 3) ls []) rfl kk
/-- a row of ints into a field of the new object -/
theorem ct_arr (hx : p.tables.exec = Jvm.exec) (hb : c.code = cc) (hC : ctC D cI cB A own args s m) {h0 ci N index nL : Nat} {fs : List Value} {w : va_W} {lv : List (Nat × Value)} (hI : ctI D A s ((h0, .inr (ci, fs)) :: w) H locs) (hin2 : meth.name = "<init>") (hlv : lv_has ls nL ((0, .ref h0) :: lv)) {C ref : String} {T : u_T} (hc : vwCl[ci]? = some (C, T, N)) (hin : ∀ x ∈ u_ws C T N, x ∈ AW) (ty0 : Nat → FieldType) (hty : ∀ k, k < N → parseFieldDescriptor (T k).2.2.1 = some (ty0 k)) (hnm : ∀ a, a < N → ∀ b, b < N → a ≠ b → (T a).2.1 ≠ (T b).2.1) (k : Nat) (hk : k < N) (href : (T k).1 = ref) (hdecl : (T k).1 = own) (hfin : (T k).2.2.2 = true) (hd : parseFieldDescriptor (T k).2.2.1 = some (.array .int)) (hlen : k < fs.length)
    (hl : Cond.fieldLink own index ref (T k).2.1 (T k).2.2.1 ∈ AW) {z : Int} {n : Int32} {K : Nat} (hz : (Int8.ofInt z).toInt32 = n) (hn : ¬ n < 0) (hN : n.toNatClampNeg = K) (hbytes : K * componentBytes .int ≤ 536870912) (hcells : cells + 1 ≤ R.cells) (hslots : slots + K ≤ R.slots)
    (d1 : decode cc pc = .ok (.aload_n 0, 1)) (d2 : decode cc (pc + 1) = .ok (.bipush z, 2)) (d3 : decode cc (pc + 3) = .ok (.newarray .int, 2)) (d4 : decode cc (pc + 5) = .ok (.putfield index, 3))
    (kk : ∀ (q : Nat) (H1 : Heap) (locs1 : List Loc), ctI D A s ((h0, .inr (ci, fs.set k (.ref q))) :: (w ++ [(q, .inl (cI, K, .inl (fun _ => 0)))])) H1 locs1 → W p l e R s m args below meth c H1 locs1 (cells + 1) (slots + K) Q (F0 m (pc + 8) ls [])) : W p l e R s m args below meth c H locs cells slots Q (F0 m pc ls []) := by
  refine lv_aload_n hx hb d1 rfl (lv_at hlv 0 rfl) ?_
  refine lv_bipush (v := n) hx hb d2 hz ?_
  refine ct_newi hx hb hC hI hn hN hbytes hcells hslots d3 (fun q H1 hI1 => ?_)
  exact ct_put hx hb hC hI1 hin2 rfl hc hin ty0 hty hnm k hk href hdecl hfin hd rfl rfl hlen hl d4 (fun H2 locs2 hI2 => kk q H2 locs2 hI2)
theorem ct_arrS (hx : p.tables.exec = Jvm.exec) (hb : c.code = cc) (hC : ctC D cI cB A own args s m) {h0 ci N index nL : Nat} {fs : List Value} {w : va_W} {lv : List (Nat × Value)} (hI : ctI D A s ((h0, .inr (ci, fs)) :: w) H locs) (hin2 : meth.name = "<init>") (hlv : lv_has ls nL ((0, .ref h0) :: lv)) {C ref : String} {T : u_T} (hc : vwCl[ci]? = some (C, T, N)) (hin : ∀ x ∈ u_ws C T N, x ∈ AW) (ty0 : Nat → FieldType) (hty : ∀ k, k < N → parseFieldDescriptor (T k).2.2.1 = some (ty0 k)) (hnm : ∀ a, a < N → ∀ b, b < N → a ≠ b → (T a).2.1 ≠ (T b).2.1) (k : Nat) (hk : k < N) (href : (T k).1 = ref) (hdecl : (T k).1 = own) (hfin : (T k).2.2.2 = true) (hd : parseFieldDescriptor (T k).2.2.1 = some (.array .int)) (hlen : k < fs.length)
    (hl : Cond.fieldLink own index ref (T k).2.1 (T k).2.2.1 ∈ AW) {z : Int} {n : Int32} {K : Nat} (hz : (Int16.ofInt z).toInt32 = n) (hn : ¬ n < 0) (hN : n.toNatClampNeg = K) (hbytes : K * componentBytes .int ≤ 536870912) (hcells : cells + 1 ≤ R.cells) (hslots : slots + K ≤ R.slots)
    (d1 : decode cc pc = .ok (.aload_n 0, 1)) (d2 : decode cc (pc + 1) = .ok (.sipush z, 3)) (d3 : decode cc (pc + 4) = .ok (.newarray .int, 2)) (d4 : decode cc (pc + 6) = .ok (.putfield index, 3))
    (kk : ∀ (q : Nat) (H1 : Heap) (locs1 : List Loc), ctI D A s ((h0, .inr (ci, fs.set k (.ref q))) :: (w ++ [(q, .inl (cI, K, .inl (fun _ => 0)))])) H1 locs1 → W p l e R s m args below meth c H1 locs1 (cells + 1) (slots + K) Q (F0 m (pc + 9) ls [])) : W p l e R s m args below meth c H locs cells slots Q (F0 m pc ls []) := by
  refine lv_aload_n hx hb d1 rfl (lv_at hlv 0 rfl) ?_
  refine lv_sipush (v := n) hx hb d2 hz ?_
  refine ct_newi hx hb hC hI hn hN hbytes hcells hslots d3 (fun q H1 hI1 => ?_)
  exact ct_put hx hb hC hI1 hin2 rfl hc hin ty0 hty hnm k hk href hdecl hfin hd rfl rfl hlen hl d4 (fun H2 locs2 hI2 => kk q H2 locs2 hI2)
theorem ct_arrB (hx : p.tables.exec = Jvm.exec) (hb : c.code = cc) (hC : ctC D cI cB A own args s m) {h0 ci N index nL : Nat} {fs : List Value} {w : va_W} {lv : List (Nat × Value)} (hI : ctI D A s ((h0, .inr (ci, fs)) :: w) H locs) (hin2 : meth.name = "<init>") (hlv : lv_has ls nL ((0, .ref h0) :: lv)) {C ref : String} {T : u_T} (hc : vwCl[ci]? = some (C, T, N)) (hin : ∀ x ∈ u_ws C T N, x ∈ AW) (ty0 : Nat → FieldType) (hty : ∀ k, k < N → parseFieldDescriptor (T k).2.2.1 = some (ty0 k)) (hnm : ∀ a, a < N → ∀ b, b < N → a ≠ b → (T a).2.1 ≠ (T b).2.1) (k : Nat) (hk : k < N) (href : (T k).1 = ref) (hdecl : (T k).1 = own) (hfin : (T k).2.2.2 = true) (hd : parseFieldDescriptor (T k).2.2.1 = some (.array .byte)) (hlen : k < fs.length)
    (hl : Cond.fieldLink own index ref (T k).2.1 (T k).2.2.1 ∈ AW) {z : Int} {n : Int32} {K : Nat} (hz : (Int8.ofInt z).toInt32 = n) (hn : ¬ n < 0) (hN : n.toNatClampNeg = K) (hbytes : K * componentBytes .byte ≤ 536870912) (hcells : cells + 1 ≤ R.cells) (hslots : slots + K ≤ R.slots)
    (d1 : decode cc pc = .ok (.aload_n 0, 1)) (d2 : decode cc (pc + 1) = .ok (.bipush z, 2)) (d3 : decode cc (pc + 3) = .ok (.newarray .byte, 2)) (d4 : decode cc (pc + 5) = .ok (.putfield index, 3))
    (kk : ∀ (q : Nat) (H1 : Heap) (locs1 : List Loc), ctI D A s ((h0, .inr (ci, fs.set k (.ref q))) :: (w ++ [(q, .inl (cB, K, .inl (fun _ => 0)))])) H1 locs1 → W p l e R s m args below meth c H1 locs1 (cells + 1) (slots + K) Q (F0 m (pc + 8) ls [])) : W p l e R s m args below meth c H locs cells slots Q (F0 m pc ls []) := by
  refine lv_aload_n hx hb d1 rfl (lv_at hlv 0 rfl) ?_
  refine lv_bipush (v := n) hx hb d2 hz ?_
  refine ct_newb hx hb hC hI hn hN hbytes hcells hslots d3 (fun q H1 hI1 => ?_)
  exact ct_put hx hb hC hI1 hin2 rfl hc hin ty0 hty hnm k hk href hdecl hfin hd rfl rfl hlen hl d4 (fun H2 locs2 hI2 => kk q H2 locs2 hI2)
end CT
theorem ctM_of {l : Launch} {D : va_G} {cI cB : ClassId} {y : MethodName} {cc : ByteArray} {n d mc ms q ci : Nat} {fs av : List Value} {S : Type} {wp : S → Prop} {wf : S → va_W} (hy : plainName y.cls = true) (hn : (lg_sl (.ref q :: av)).length ≤ n) (hname : y.name = "<init>")
    (body : ∀ (p : Program) (e : Env) (s : State) (m : MethodId) (args : Array Value) (below : List Frame) (meth : Method) (c : Code) (ls : Array Slot) (A : Nat → Prop) (Q : State → Prop), p.tables.exec = Jvm.exec → c.code = cc → c.maxLocals = n → meth.name = "<init>" → ctC D cI cB A y.cls args s m → ctI D A s [(q, .inr (ci, fs))] s.heap [] → lv_has ls n (lv_args 0 (.ref q :: av)) →
      (∀ {H : Heap} {locs : List Loc} {ls : Array Slot} {pc : Nat} (u : S), wp u → ctI D A s (wf u) H locs → decode cc pc = .ok (.return_, 1) → W p l e (ctR d mc ms) s m args below meth c H locs mc ms Q (F0 m pc ls [])) →
      W p l e (ctR d mc ms) s m args below meth c s.heap [] 0 0 Q (F0 m 0 ls [])) : ctM l D cI cB y cc n d mc ms q ci fs av wp wf := by
  intro sz
  refine Met.ofW (cc := cc) (maxL := n) (ret := none) hy rfl ?_
  intro p e s m args below meth c s₁ B hml hv
  obtain ⟨rfl, hsz, hK, hN, hP⟩ := hv
  subst hsz
  rw [lg_entry_eq]
  have hts := atoms_spec (ws := .code y cc n none :: AW) B.pre
  have hin : meth.name = "<init>" := ((name_of_methodNamed B.named B.method).1).trans hname
  have hD0 : va_D (fun _ => True) [(q, (Sum.inr (ci, fs) : va_E))] := by
    refine ⟨fun i j x y hx hy _ => ?_, fun _ _ _ => trivial⟩
    have h1 := (List.getElem?_eq_some_iff.mp hx).1
    have h2 := (List.getElem?_eq_some_iff.mp hy).1
    have h3 : i = 0 := by simpa using h1
    have h4 : j = 0 := by simpa using h2
    rw [h3, h4]
  exact body p e s m _ below meth c _ (va_A [(q, .inr (ci, fs))] s.heap.size) _ B.exec B.bytes hml hin ⟨findClass_of_methodNamed B.named, fun x hx => hts x (List.mem_cons_of_mem _ hx), hK, fun x hx => Or.inr hx, hN⟩ ⟨hP, hD0.self, va_S.rf⟩ (lv_entry (.ref q :: av) hn)
    (fun u hu hI hd => W.vret B.exec B.bytes B.returns (fun t ht hW => ⟨⟨u, rfl, hu, by show va_P _ _ _ _; rw [ht]; exact hI.1, hI.2.1⟩, hI.2.2.F ht⟩) hI.2.2.2.2 hd B.notSynchronized)
