theorem zW_set {w : zWd} {G : zG} {σ : SF} {q : Nat} {r : Nat → Int32} (hc : q < w.1) : (zW w G σ).set q (za G q, w.2 G q r) = zW w G (zsr σ q r) := zFW_set hc
section ZR
variable {p : Program} {l : Launch} {e : Env} {R : Room} {s : State} {m : MethodId} {args : Array Value} {below : List Frame} {meth : Method} {c : Code} {H : Heap} {locs : List Loc} {cells slots : Nat} {Q : State → Prop}
variable {cc : ByteArray} {pc : Nat} {ls : Array Slot} {rest : List Value} {w : zWd} {G : zG} {own : String} {σ : SF}
theorem z_get (hx : p.tables.exec = Jvm.exec) (hb : c.code = cc) (hC : zC w G own args s m) (hI : zI w G s σ H locs) {q ci N index : Nat} {f : (Nat → Int32) → List Value} {C ref : String} {T : u_T} (ho : zO w G q ci f) (hc : vwCl[ci]? = some (C, T, N)) (hin : ∀ x ∈ u_ws C T N, x ∈ AW) (k : Nat) (hk : k < N) (href : (T k).1 = ref) {v : Value} (hv : (f (σ q))[k]? = some v)
    (hl : Cond.fieldLink own index ref (T k).2.1 (T k).2.2.1 ∈ AW) (hdg : decode cc pc = .ok (.getfield index, 3))
    (kk : W p l e R s m args below meth c H locs cells slots Q (F0 m (pc + 3) ls (v :: rest))) : W p l e R s m args below meth c H locs cells slots Q (F0 m pc ls (.ref (za G q) :: rest)) :=
  va_get (Ts := AW) hx hb hC.2.1 hin hC.1 hC.K hI.1 q (ho.at σ) hc k hk (hC.ts hl) (by rw [href]; exact fun _ h => h) hv hdg kk
theorem z_put (hx : p.tables.exec = Jvm.exec) (hb : c.code = cc) (hC : zC w G own args s m) (hI : zI w G s σ H locs) {q ci N index : Nat} {f : (Nat → Int32) → List Value} {C ref : String} {T : u_T} (ho : zO w G q ci f) (hc : vwCl[ci]? = some (C, T, N)) (hin : ∀ x ∈ u_ws C T N, x ∈ AW)
    (ty0 : Nat → FieldType) (hty : ∀ k, k < N → parseFieldDescriptor (T k).2.2.1 = some (ty0 k)) (hnm : ∀ a, a < N → ∀ b, b < N → a ≠ b → (T a).2.1 ≠ (T b).2.1) (k : Nat) (hk : k < N) (href : (T k).1 = ref) (hfin : (T k).2.2.2 = false) {v : Int32} {ty : FieldType} (hd : parseFieldDescriptor (T k).2.2.1 = some ty) (hn : narrow ty (.int v) = .int v) (hfit : fits ty (.int v) = true) (hlen : k < (f (σ q)).length) (hset : f (upd (σ q) k v) = (f (σ q)).set k (.int v))
    (hl : Cond.fieldLink own index ref (T k).2.1 (T k).2.2.1 ∈ AW) (hdg : decode cc pc = .ok (.putfield index, 3))
    (kk : ∀ (σ1 : SF) (H1 : Heap) (locs1 : List Loc), σ1 = zst σ q k v → zI w G s σ1 H1 locs1 → W p l e R s m args below meth c H1 locs1 cells slots Q (F0 m (pc + 3) ls rest)) : W p l e R s m args below meth c H locs cells slots Q (F0 m pc ls (.int v :: .ref (za G q) :: rest)) := by
  refine va_put (Ts := AW) hx hb hC.2.1 hin ty0 hty hnm hC.1 hC.K hI.1 (hC.D σ) hI.2 q (ho.at σ) hc k hk (hC.ts hl) (by rw [href]; exact fun _ h => h) hfin hd hn hfit hlen hdg (fun H1 locs1 hP _ hS => ?_)
  refine kk _ H1 locs1 rfl ⟨?_, hS⟩
  rw [← hset, ← ho.2] at hP
  rw [zW_set ho.1] at hP
  exact hP
theorem z_putL (hx : p.tables.exec = Jvm.exec) (hb : c.code = cc) (hC : zC w G own args s m) (hI : zI w G s σ H locs) {q ci N index : Nat} {f : (Nat → Int32) → List Value} {C ref : String} {T : u_T} (ho : zO w G q ci f) (hc : vwCl[ci]? = some (C, T, N)) (hin : ∀ x ∈ u_ws C T N, x ∈ AW)
    (ty0 : Nat → FieldType) (hty : ∀ k, k < N → parseFieldDescriptor (T k).2.2.1 = some (ty0 k)) (hnm : ∀ a, a < N → ∀ b, b < N → a ≠ b → (T a).2.1 ≠ (T b).2.1) (k : Nat) (hk : k < N) (href : (T k).1 = ref) (hfin : (T k).2.2.2 = false) {v : Int64} {ty : FieldType} (hd : parseFieldDescriptor (T k).2.2.1 = some ty) (hn : narrow ty (.long v) = .long v) (hfit : fits ty (.long v) = true) (hlen : k < (f (σ q)).length) (hset : f (upd (upd (σ q) k (zLo v)) (k + 100) (zHi v)) = (f (σ q)).set k (.long v))
    (hl : Cond.fieldLink own index ref (T k).2.1 (T k).2.2.1 ∈ AW) (hdg : decode cc pc = .ok (.putfield index, 3))
    (kk : ∀ (σ1 : SF) (H1 : Heap) (locs1 : List Loc), σ1 = zsL σ q k v → zI w G s σ1 H1 locs1 → W p l e R s m args below meth c H1 locs1 cells slots Q (F0 m (pc + 3) ls rest)) : W p l e R s m args below meth c H locs cells slots Q (F0 m pc ls (.long v :: .ref (za G q) :: rest)) := by
  refine va_put (Ts := AW) hx hb hC.2.1 hin ty0 hty hnm hC.1 hC.K hI.1 (hC.D σ) hI.2 q (ho.at σ) hc k hk (hC.ts hl) (by rw [href]; exact fun _ h => h) hfin hd hn hfit hlen hdg (fun H1 locs1 hP _ hS => ?_)
  refine kk _ H1 locs1 rfl ⟨?_, hS⟩
  rw [← hset, ← ho.2] at hP
  rw [zW_set ho.1] at hP
  exact hP
theorem z_iald (hx : p.tables.exec = Jvm.exec) (hb : c.code = cc) (hC : zC w G own args s m) (hI : zI w G s σ H locs) {q n : Nat} (hv : zV w G q n) {i : Int32} (hin : zin i n = true) (hdg : decode cc pc = .ok (.iaload, 1))
    (kk : W p l e R s m args below meth c H locs cells slots Q (F0 m (pc + 1) ls (.int (σ q i.toNatClampNeg) :: rest))) : W p l e R s m args below meth c H locs cells slots Q (F0 m pc ls (.int i :: .ref (za G q) :: rest)) :=
  va_iald hx hb hC.K hI.1 q 0 (hv.at σ) rfl (zin_p hin) hdg kk
theorem z_iast (hx : p.tables.exec = Jvm.exec) (hb : c.code = cc) (hC : zC w G own args s m) (hI : zI w G s σ H locs) {q n : Nat} (hv : zV w G q n) {i x : Int32} (hin : zin i n = true) (hdg : decode cc pc = .ok (.iastore, 1))
    (kk : ∀ (σ1 : SF) (H1 : Heap) (locs1 : List Loc), σ1 = zst σ q i.toNatClampNeg x → zI w G s σ1 H1 locs1 → W p l e R s m args below meth c H1 locs1 cells slots Q (F0 m (pc + 1) ls rest)) : W p l e R s m args below meth c H locs cells slots Q (F0 m pc ls (.int x :: .int i :: .ref (za G q) :: rest)) := by
  refine va_iast hx hb hC.K hI.1 (hC.D σ) hI.2 q 0 (hv.at σ) rfl (zin_p hin) hdg (fun H1 locs1 hP _ hS => ?_)
  refine kk _ H1 locs1 rfl ⟨?_, hS⟩
  rw [← hv.2] at hP
  rw [zW_set hv.1] at hP
  exact hP
theorem z_bald (hx : p.tables.exec = Jvm.exec) (hb : c.code = cc) (hC : zC w G own args s m) (hI : zI w G s σ H locs) {q n : Nat} (hv : zV8 w G q n) {i : Int32} (hin : zin i n = true) (hdg : decode cc pc = .ok (.baload, 1))
    (kk : W p l e R s m args below meth c H locs cells slots Q (F0 m (pc + 1) ls (.int (σ q i.toNatClampNeg) :: rest))) : W p l e R s m args below meth c H locs cells slots Q (F0 m pc ls (.int i :: .ref (za G q) :: rest)) :=
  va_bald hx hb hC.K hI.1 q 1 (hv.at σ) rfl (zin_p hin) hdg kk
theorem z_bast (hx : p.tables.exec = Jvm.exec) (hb : c.code = cc) (hC : zC w G own args s m) (hI : zI w G s σ H locs) {q n : Nat} (hv : zV8 w G q n) {i x : Int32} (hin : zin i n = true) (hdg : decode cc pc = .ok (.bastore, 1))
    (kk : ∀ (σ1 : SF) (H1 : Heap) (locs1 : List Loc), σ1 = zst σ q i.toNatClampNeg (vp_nar .byte x) → zI w G s σ1 H1 locs1 → W p l e R s m args below meth c H1 locs1 cells slots Q (F0 m (pc + 1) ls rest)) : W p l e R s m args below meth c H locs cells slots Q (F0 m pc ls (.int x :: .int i :: .ref (za G q) :: rest)) := by
  refine va_bast hx hb hC.K hI.1 (hC.D σ) hI.2 q 1 (hv.at σ) rfl (zin_p hin) hdg (fun H1 locs1 hP _ hS => ?_)
  refine kk _ H1 locs1 rfl ⟨?_, hS⟩
  rw [← hv.2] at hP
  rw [zW_set hv.1] at hP
  exact hP
theorem z_alen (hx : p.tables.exec = Jvm.exec) (hb : c.code = cc) (hC : zC w G own args s m) (hI : zI w G s σ H locs) {q n : Nat} (hv : zV w G q n) {v : Int32} (hn : Int32.ofNat n = v) (hdg : decode cc pc = .ok (.arraylength, 1))
    (kk : W p l e R s m args below meth c H locs cells slots Q (F0 m (pc + 1) ls (.int v :: rest))) : W p l e R s m args below meth c H locs cells slots Q (F0 m pc ls (.ref (za G q) :: rest)) :=
  va_alen hx hb hC.K hI.1 q 0 (hv.at σ) rfl hn hdg kk
theorem z_max (hx : p.tables.exec = Jvm.exec) (hb : c.code = cc) (hC : zC w G own args s m) (hml : c.maxLocals = ls.size) {index : Nat} (hl : Cond.methodLink own index Lib.Math.max.name ∈ AW) (hf : 1 ≤ R.frames) (hlo : (rest.map fun v => v.category).sum + 13 ≤ R.locals) (hc : cells ≤ R.cells) (hs : slots ≤ R.slots) {x y : Int32} (hdg : decode cc pc = .ok (.invokestatic index, 3))
    (kk : W p l e R s m args below meth c H locs cells slots Q (F0 m (pc + 3) ls (.int (if x < y then y else x) :: rest))) : W p l e R s m args below meth c H locs cells slots Q (F0 m pc ls (.int y :: .int x :: rest)) :=
  va_mmax hx hb hml hC.1 (hC.ts hl) (hC.ts q_st_mmax) (hC.ts q_in__java_lang_Math_) (hC.ts q_co_mmax) hf hlo hc hs hdg kk
theorem z_min (hx : p.tables.exec = Jvm.exec) (hb : c.code = cc) (hC : zC w G own args s m) (hml : c.maxLocals = ls.size) {index : Nat} (hl : Cond.methodLink own index Lib.Math.min.name ∈ AW) (hf : 1 ≤ R.frames) (hlo : (rest.map fun v => v.category).sum + 13 ≤ R.locals) (hc : cells ≤ R.cells) (hs : slots ≤ R.slots) {x y : Int32} (hdg : decode cc pc = .ok (.invokestatic index, 3))
    (kk : W p l e R s m args below meth c H locs cells slots Q (F0 m (pc + 3) ls (.int (if y < x then y else x) :: rest))) : W p l e R s m args below meth c H locs cells slots Q (F0 m pc ls (.int y :: .int x :: rest)) :=
  va_mmin hx hb hml hC.1 (hC.ts hl) (hC.ts q_st_mmin) (hC.ts q_in__java_lang_Math_) (hC.ts q_co_mmin) hf hlo hc hs hdg kk
/-- System.arraycopy(a, 0, b, 0, n) over rows of ints -/
theorem z_copy (hx : p.tables.exec = Jvm.exec) (hb : c.code = cc) (hC : zC w G own args s m) (hml : c.maxLocals = ls.size) (hI : zI w G s σ H locs) {index : Nat} (hl : Cond.methodLink own index arraycopyName ∈ AW) {q0 q1 n : Nat} (h0 : zV w G q0 n) (h1 : zV w G q1 n) {k : Int32} (hk : ¬ k < 0) (hkn : k.toNatClampNeg ≤ n) (hf : 1 ≤ R.frames) (hlo : (rest.map fun v => v.category).sum + (nativeFrameWords "java/lang/System" "arraycopy" 5 + 11) ≤ R.locals) (hdg : decode cc pc = .ok (.invokestatic index, 3))
    (kk : ∀ (σ1 : SF) (H1 : Heap) (locs1 : List Loc), σ1 = zsr σ q1 (va_cpy (σ q0) (σ q1) 0 0 k.toNatClampNeg) → zI w G s σ1 H1 locs1 → W p l e R s m args below meth c H1 locs1 cells slots Q (F0 m (pc + 3) ls rest)) : W p l e R s m args below meth c H locs cells slots Q (F0 m pc ls (.int k :: .int 0 :: .ref (za G q1) :: .int 0 :: .ref (za G q0) :: rest)) := by
  have z0 : (0 : Int32).toNatClampNeg = 0 := rfl
  refine va_copyi hx hb hml hC.1 (hC.ts hl) (hC.ts q_na_acopy) (hC.ts q_st_acopy) (hC.ts q_in__java_lang_System_) hC.K hI.1 (hC.D σ) hI.2 q0 q1 0 0 (ty := .int) (h0.at σ) (h1.at σ) rfl rfl rfl (by decide) (by decide) hk (by rw [z0]; omega) (by rw [z0]; omega) (fun _ _ => rfl) hf hlo hdg (fun H1 locs1 hP _ hS => ?_)
  refine kk _ H1 locs1 rfl ⟨?_, hS⟩
  rw [← h1.2] at hP
  rw [zW_set h1.1] at hP
  exact hP
end ZR
section ZCALL
variable {p : Program} {l : Launch} {e : Env} {R : Room} {s : State} {m : MethodId} {args : Array Value} {below : List Frame} {meth : Method} {c : Code} {H : Heap} {locs : List Loc} {cells slots : Nat} {Q : State → Prop}
variable {cc : ByteArray} {pc : Nat} {ls : Array Slot} {rest st0 : List Value} {w : zWd} {G : zG} {own : String} {σ σ' : SF} {y : MethodName} {bytes : ByteArray} {maxL d k index : Nat} {rt : FieldType} {C host : String} {As : List Value} {q ci : Nat} {f : (Nat → Int32) → List Value} {T : u_T} {N : Nat}
theorem zB_of {ret : Option FieldType} (hC : zC w G own args s m) (hl : Cond.methodLink own index y ∈ AW) (hco : Cond.code y bytes maxL ret ∈ AW) (hini : Cond.initialized y.cls ∈ AW) (hd : y.cls ≠ "java/lang/invoke/MethodHandle" ∧ y.cls ≠ "java/lang/invoke/VarHandle" ∧ (parseMethodDescriptor y.desc).map (fun d => d.parameters.length) = some k) (hR : d + 1 ≤ R.frames ∧ 8 + (maxL + 11) + 100 * d ≤ R.locals) : CallB R s args own index y bytes maxL ret (.code y bytes maxL ret :: AW) (zR d) 0 0 k :=
  callB_of k hC.2.1 (zGoodA hco) rfl rfl rfl (hC.ts hini) (hC.ts hl) hd hR
theorem zN_of {ret : Option FieldType} (hC : zC w G own args s m) (hl : Cond.methodLinkNest own index y host ∈ NL) (hco : Cond.code y bytes maxL ret ∈ AW) (hini : Cond.initialized y.cls ∈ AW) (hd : y.cls ≠ "java/lang/invoke/MethodHandle" ∧ y.cls ≠ "java/lang/invoke/VarHandle" ∧ (parseMethodDescriptor y.desc).map (fun d => d.parameters.length) = some k) (hR : d + 1 ≤ R.frames ∧ 8 + (maxL + 11) + 100 * d ≤ R.locals) : va_CN R s args own index y host bytes maxL ret (.code y bytes maxL ret :: AW) (zR d) 0 0 k :=
  va_cnB k hC.2.1 (zGoodA hco) rfl rfl rfl (hC.2.2.2.2.1 _ hl) (hC.ts hini) hd hR
/-- behind a call: the heap is the new one -/
theorem zI_back (hC : zC w G own args s m) (hI : zI w G s σ H locs) {H1 : Heap} {locs1 : List Loc} (hP : va_P G.1 vwCl (zW w G σ') H1) (hS : va_S (zAA w G s.heap.size) s.heap H1 locs1) : zI w G s σ' H1 locs1 := ⟨hP, hS⟩
theorem z_runi {a : Array Value} {r : Int32} (hI : zI w G s σ H locs) (hr : va_Run p l e R s m args below meth c H locs cells slots 0 0 (F0 m pc ls st0) rest (va_Qi (fun r1 (_ : Unit) => r1 = r) (zPo w G σ') (zAA w G H.size) a) (zAA w G H.size))
    (kk : ∀ (H1 : Heap) (locs1 : List Loc), zI w G s σ' H1 locs1 → W p l e R s m args below meth c H1 locs1 cells slots Q (F0 m (pc + 3) ls (.int r :: rest))) : W p l e R s m args below meth c H locs cells slots Q (F0 m pc ls st0) := by
  refine va_calli hr hI.2 (fun q _ h => zA_mono hI.2.1 h) (fun q h => zA_mono hI.2.1 h) (fun r1 u t H1 locs1 ht hvm hw hB hz1 hk1 hS => ?_)
  subst hw
  exact kk H1 locs1 ⟨ht ▸ hB, hS⟩
theorem z_runl {a : Array Value} {r : Int64} (hI : zI w G s σ H locs) (hr : va_Run p l e R s m args below meth c H locs cells slots 0 0 (F0 m pc ls st0) rest (va_Ql (fun r1 (_ : Unit) => r1 = r) (zPo w G σ') (zAA w G H.size) a) (zAA w G H.size))
    (kk : ∀ (H1 : Heap) (locs1 : List Loc), zI w G s σ' H1 locs1 → W p l e R s m args below meth c H1 locs1 cells slots Q (F0 m (pc + 3) ls (.long r :: rest))) : W p l e R s m args below meth c H locs cells slots Q (F0 m pc ls st0) := by
  refine va_calll hr hI.2 (fun q _ h => zA_mono hI.2.1 h) (fun q h => zA_mono hI.2.1 h) (fun r1 u t H1 locs1 ht hvm hw hB hz1 hk1 hS => ?_)
  subst hw
  exact kk H1 locs1 ⟨ht ▸ hB, hS⟩
theorem z_runv {a : Array Value} (hI : zI w G s σ H locs) (hr : va_Run p l e R s m args below meth c H locs cells slots 0 0 (F0 m pc ls st0) rest (va_Qv (fun (_ : Unit) => True) (zPo w G σ') (zAA w G H.size) a) (zAA w G H.size))
    (kk : ∀ (H1 : Heap) (locs1 : List Loc), zI w G s σ' H1 locs1 → W p l e R s m args below meth c H1 locs1 cells slots Q (F0 m (pc + 3) ls rest)) : W p l e R s m args below meth c H locs cells slots Q (F0 m pc ls st0) := by
  refine va_callv hr hI.2 (fun q _ h => zA_mono hI.2.1 h) (fun q h => zA_mono hI.2.1 h) (fun u t H1 locs1 ht hvm hw hB hz1 hk1 hS => ?_)
  exact kk H1 locs1 ⟨ht ▸ hB, hS⟩
theorem z_pv (hC : zC w G own args s m) (hI : zI w G s σ H locs) (ho : zO w G q ci f) (hc : vwCl[ci]? = some (C, T, N)) : PreV s H C (za G q) (zPr w G (.ref (za G q) :: As) σ H.size) As :=
  ⟨zPr_blind, va_recv hC.K hI.1 hc (ho.at σ), zPr_call hC.2.2 hI⟩
theorem z_ps (hC : zC w G own args s m) (hI : zI w G s σ H locs) : PreS s H (zPr w G As σ H.size) As := ⟨zPr_blind, zPr_call hC.2.2 hI⟩
/-- a call of an instance method: an int, a long, nothing comes back -/
theorem z_cVi {r : Int32} (hx : p.tables.exec = Jvm.exec) (hb : c.code = cc) (hC : zC w G own args s m) (hml : c.maxLocals = ls.size) (hI : zI w G s σ H locs) (hM : zMi l w G y bytes maxL rt d (.ref (za G q) :: As) σ r σ') (hy : zYv y bytes maxL (some rt) C k) (hl : Cond.methodLink own index y ∈ AW) (ho : zO w G q ci f) (hc : vwCl[ci]? = some (C, T, N)) (hR : d + 1 ≤ R.frames ∧ 8 + (maxL + 11) + 100 * d ≤ R.locals) (hn : As.length = k) (hst : st0 = As.reverse ++ .ref (za G q) :: rest) (hrest : (rest.map fun v => v.category).sum ≤ 8) (hf : cells ≤ R.cells ∧ slots ≤ R.slots) (hdg : decode cc pc = .ok (.invokevirtual index, 3))
    (kk : ∀ (H1 : Heap) (locs1 : List Loc), zI w G s σ' H1 locs1 → W p l e R s m args below meth c H1 locs1 cells slots Q (F0 m (pc + 3) ls (.int r :: rest))) : W p l e R s m args below meth c H locs cells slots Q (F0 m pc ls st0) :=
  z_runi hI (va_runV (As := As) (rest := rest) (nL := ls.size) ⟨hx, hb, hml, hC.1, hC.2.1⟩ (hM H.size) ⟨zB_of hC hl hy.2.2.1 hy.2.2.2.1 hy.2.2.2.2 hR, hC.ts hy.1, hC.ts hy.2.1⟩ (z_pv hC hI ho hc) rfl hn rfl hst (lv_room hrest) hdg hf) kk
theorem z_cVl {r : Int64} (hx : p.tables.exec = Jvm.exec) (hb : c.code = cc) (hC : zC w G own args s m) (hml : c.maxLocals = ls.size) (hI : zI w G s σ H locs) (hM : zMl l w G y bytes maxL d (.ref (za G q) :: As) σ r σ') (hy : zYv y bytes maxL (some .long) C k) (hl : Cond.methodLink own index y ∈ AW) (ho : zO w G q ci f) (hc : vwCl[ci]? = some (C, T, N)) (hR : d + 1 ≤ R.frames ∧ 8 + (maxL + 11) + 100 * d ≤ R.locals) (hn : As.length = k) (hst : st0 = As.reverse ++ .ref (za G q) :: rest) (hrest : (rest.map fun v => v.category).sum ≤ 8) (hf : cells ≤ R.cells ∧ slots ≤ R.slots) (hdg : decode cc pc = .ok (.invokevirtual index, 3))
    (kk : ∀ (H1 : Heap) (locs1 : List Loc), zI w G s σ' H1 locs1 → W p l e R s m args below meth c H1 locs1 cells slots Q (F0 m (pc + 3) ls (.long r :: rest))) : W p l e R s m args below meth c H locs cells slots Q (F0 m pc ls st0) :=
  z_runl hI (va_runV (As := As) (rest := rest) (nL := ls.size) ⟨hx, hb, hml, hC.1, hC.2.1⟩ (hM H.size) ⟨zB_of hC hl hy.2.2.1 hy.2.2.2.1 hy.2.2.2.2 hR, hC.ts hy.1, hC.ts hy.2.1⟩ (z_pv hC hI ho hc) rfl hn rfl hst (lv_room hrest) hdg hf) kk
theorem z_cVv (hx : p.tables.exec = Jvm.exec) (hb : c.code = cc) (hC : zC w G own args s m) (hml : c.maxLocals = ls.size) (hI : zI w G s σ H locs) (hM : zMv l w G y bytes maxL d (.ref (za G q) :: As) σ σ') (hy : zYv y bytes maxL none C k) (hl : Cond.methodLink own index y ∈ AW) (ho : zO w G q ci f) (hc : vwCl[ci]? = some (C, T, N)) (hR : d + 1 ≤ R.frames ∧ 8 + (maxL + 11) + 100 * d ≤ R.locals) (hn : As.length = k) (hst : st0 = As.reverse ++ .ref (za G q) :: rest) (hrest : (rest.map fun v => v.category).sum ≤ 8) (hf : cells ≤ R.cells ∧ slots ≤ R.slots) (hdg : decode cc pc = .ok (.invokevirtual index, 3))
    (kk : ∀ (H1 : Heap) (locs1 : List Loc), zI w G s σ' H1 locs1 → W p l e R s m args below meth c H1 locs1 cells slots Q (F0 m (pc + 3) ls rest)) : W p l e R s m args below meth c H locs cells slots Q (F0 m pc ls st0) :=
  z_runv hI (va_runV (As := As) (rest := rest) (nL := ls.size) ⟨hx, hb, hml, hC.1, hC.2.1⟩ (hM H.size) ⟨zB_of hC hl hy.2.2.1 hy.2.2.2.1 hy.2.2.2.2 hR, hC.ts hy.1, hC.ts hy.2.1⟩ (z_pv hC hI ho hc) rfl hn rfl hst (lv_room hrest) hdg hf) kk
/-- a call of a static method -/
theorem z_cSi {r : Int32} (hx : p.tables.exec = Jvm.exec) (hb : c.code = cc) (hC : zC w G own args s m) (hml : c.maxLocals = ls.size) (hI : zI w G s σ H locs) (hM : zMi l w G y bytes maxL rt d As σ r σ') (hy : zYs y bytes maxL (some rt) k) (hl : Cond.methodLink own index y ∈ AW) (hR : d + 1 ≤ R.frames ∧ 8 + (maxL + 11) + 100 * d ≤ R.locals) (hn : As.length = k) (hst : st0 = As.reverse ++ rest) (hrest : (rest.map fun v => v.category).sum ≤ 8) (hf : cells ≤ R.cells ∧ slots ≤ R.slots) (hdg : decode cc pc = .ok (.invokestatic index, 3))
    (kk : ∀ (H1 : Heap) (locs1 : List Loc), zI w G s σ' H1 locs1 → W p l e R s m args below meth c H1 locs1 cells slots Q (F0 m (pc + 3) ls (.int r :: rest))) : W p l e R s m args below meth c H locs cells slots Q (F0 m pc ls st0) :=
  z_runi hI (va_runS (As := As) (rest := rest) (nL := ls.size) ⟨hx, hb, hml, hC.1, hC.2.1⟩ (hM H.size) ⟨zB_of hC hl hy.2.1 hy.2.2.1 hy.2.2.2 hR, hC.ts hy.1⟩ (z_ps hC hI) rfl hn rfl hst (lv_room hrest) hdg hf) kk
theorem z_cSl {r : Int64} (hx : p.tables.exec = Jvm.exec) (hb : c.code = cc) (hC : zC w G own args s m) (hml : c.maxLocals = ls.size) (hI : zI w G s σ H locs) (hM : zMl l w G y bytes maxL d As σ r σ') (hy : zYs y bytes maxL (some .long) k) (hl : Cond.methodLink own index y ∈ AW) (hR : d + 1 ≤ R.frames ∧ 8 + (maxL + 11) + 100 * d ≤ R.locals) (hn : As.length = k) (hst : st0 = As.reverse ++ rest) (hrest : (rest.map fun v => v.category).sum ≤ 8) (hf : cells ≤ R.cells ∧ slots ≤ R.slots) (hdg : decode cc pc = .ok (.invokestatic index, 3))
    (kk : ∀ (H1 : Heap) (locs1 : List Loc), zI w G s σ' H1 locs1 → W p l e R s m args below meth c H1 locs1 cells slots Q (F0 m (pc + 3) ls (.long r :: rest))) : W p l e R s m args below meth c H locs cells slots Q (F0 m pc ls st0) :=
  z_runl hI (va_runS (As := As) (rest := rest) (nL := ls.size) ⟨hx, hb, hml, hC.1, hC.2.1⟩ (hM H.size) ⟨zB_of hC hl hy.2.1 hy.2.2.1 hy.2.2.2 hR, hC.ts hy.1⟩ (z_ps hC hI) rfl hn rfl hst (lv_room hrest) hdg hf) kk
theorem z_cSv (hx : p.tables.exec = Jvm.exec) (hb : c.code = cc) (hC : zC w G own args s m) (hml : c.maxLocals = ls.size) (hI : zI w G s σ H locs) (hM : zMv l w G y bytes maxL d As σ σ') (hy : zYs y bytes maxL none k) (hl : Cond.methodLink own index y ∈ AW) (hR : d + 1 ≤ R.frames ∧ 8 + (maxL + 11) + 100 * d ≤ R.locals) (hn : As.length = k) (hst : st0 = As.reverse ++ rest) (hrest : (rest.map fun v => v.category).sum ≤ 8) (hf : cells ≤ R.cells ∧ slots ≤ R.slots) (hdg : decode cc pc = .ok (.invokestatic index, 3))
    (kk : ∀ (H1 : Heap) (locs1 : List Loc), zI w G s σ' H1 locs1 → W p l e R s m args below meth c H1 locs1 cells slots Q (F0 m (pc + 3) ls rest)) : W p l e R s m args below meth c H locs cells slots Q (F0 m pc ls st0) :=
  z_runv hI (va_runS (As := As) (rest := rest) (nL := ls.size) ⟨hx, hb, hml, hC.1, hC.2.1⟩ (hM H.size) ⟨zB_of hC hl hy.2.1 hy.2.2.1 hy.2.2.2 hR, hC.ts hy.1⟩ (z_ps hC hI) rfl hn rfl hst (lv_room hrest) hdg hf) kk
/-- a static method of the nest's host -/
theorem z_cNi {r : Int32} (hx : p.tables.exec = Jvm.exec) (hb : c.code = cc) (hC : zC w G own args s m) (hml : c.maxLocals = ls.size) (hI : zI w G s σ H locs) (hM : zMi l w G y bytes maxL rt d As σ r σ') (hy : zYs y bytes maxL (some rt) k) (hl : Cond.methodLinkNest own index y host ∈ NL) (hR : d + 1 ≤ R.frames ∧ 8 + (maxL + 11) + 100 * d ≤ R.locals) (hn : As.length = k) (hst : st0 = As.reverse ++ rest) (hrest : (rest.map fun v => v.category).sum ≤ 8) (hf : cells ≤ R.cells ∧ slots ≤ R.slots) (hdg : decode cc pc = .ok (.invokestatic index, 3))
    (kk : ∀ (H1 : Heap) (locs1 : List Loc), zI w G s σ' H1 locs1 → W p l e R s m args below meth c H1 locs1 cells slots Q (F0 m (pc + 3) ls (.int r :: rest))) : W p l e R s m args below meth c H locs cells slots Q (F0 m pc ls st0) :=
  z_runi hI (va_runSN (As := As) (rest := rest) (nL := ls.size) ⟨hx, hb, hml, hC.1, hC.2.1⟩ (hM H.size) ⟨zN_of hC hl hy.2.1 hy.2.2.1 hy.2.2.2 hR, hC.ts hy.1, trivial⟩ (z_ps hC hI) rfl hn rfl hst (lv_room hrest) hdg hf) kk
end ZCALL
section ZRET
variable {p : Program} {l : Launch} {e : Env} {R : Room} {s : State} {m : MethodId} {args : Array Value} {below : List Frame} {meth : Method} {c : Code} {H : Heap} {locs : List Loc}
variable {cc : ByteArray} {pc : Nat} {ls : Array Slot} {w : zWd} {G : zG} {own : String} {σ σ' : SF}
theorem z_iret {rt : FieldType} {r v : Int32} (hx : p.tables.exec = Jvm.exec) (hb : c.code = cc) (hr : meth.sig.returnType = some rt) (hlk : meth.locks = false) (hI : zI w G s σ H locs) (hn : narrow rt (.int v) = .int v) (hv : v = r ∧ σ = σ') (hdg : decode cc pc = .ok (.ireturn, 1)) :
    W p l e R s m args below meth c H locs 0 0 (MQ below (va_Qi (fun r1 (_ : Unit) => r1 = r) (zPo w G σ') (zAA w G s.heap.size)) args s 0 0 (zAA w G s.heap.size)) (F0 m pc ls [.int v]) := by
  obtain ⟨rfl, rfl⟩ := hv
  exact W.zret hx hb hr hn (fun t ht hW => ⟨⟨v, (), rfl, rfl, by show va_P _ _ _ _; rw [ht]; exact hI.1⟩, hI.2.F ht⟩) hI.2.2.2 hdg hlk
theorem z_lret {r v : Int64} (hx : p.tables.exec = Jvm.exec) (hb : c.code = cc) (hr : meth.sig.returnType = some .long) (hlk : meth.locks = false) (hI : zI w G s σ H locs) (hv : v = r ∧ σ = σ') (hdg : decode cc pc = .ok (.lreturn, 1)) :
    W p l e R s m args below meth c H locs 0 0 (MQ below (va_Ql (fun r1 (_ : Unit) => r1 = r) (zPo w G σ') (zAA w G s.heap.size)) args s 0 0 (zAA w G s.heap.size)) (F0 m pc ls [.long v]) := by
  obtain ⟨rfl, rfl⟩ := hv
  exact W.lret hx hb hr (fun t ht hW => ⟨⟨v, (), rfl, rfl, by show va_P _ _ _ _; rw [ht]; exact hI.1⟩, hI.2.F ht⟩) hI.2.2.2 hdg hlk
theorem z_vret (hx : p.tables.exec = Jvm.exec) (hb : c.code = cc) (hr : meth.sig.returnType = none) (hlk : meth.locks = false) (hI : zI w G s σ H locs) (hv : σ = σ') (hdg : decode cc pc = .ok (.return_, 1)) :
    W p l e R s m args below meth c H locs 0 0 (MQ below (va_Qv (fun (_ : Unit) => True) (zPo w G σ') (zAA w G s.heap.size)) args s 0 0 (zAA w G s.heap.size)) (F0 m pc ls []) := by
  subst hv
  exact W.vret hx hb hr (fun t ht hW => ⟨⟨(), rfl, trivial, by show va_P _ _ _ _; rw [ht]; exact hI.1⟩, hI.2.F ht⟩) hI.2.2.2 hdg hlk
end ZRET
theorem zb_s {α β : Type} {x : α} {f : α → Option β} {z : β} (h : zb (some x) f = some z) : f x = some z := h
theorem zb2_s {A B β : Type} {x : A} {y : B} {f : A → B → Option β} {z : β} (h : zb2 (some (x, y)) f = some z) : f x y = some z := h
theorem zb3_s {A B C β : Type} {x : A} {y : B} {t : C} {f : A → B → C → Option β} {z : β} (h : zb3 (some (x, y, t)) f = some z) : f x y t = some z := h
theorem zb4_s {A B C D β : Type} {x : A} {y : B} {t : C} {u : D} {f : A → B → C → D → Option β} {z : β} (h : zb4 (some (x, y, t, u)) f = some z) : f x y t u = some z := h
theorem zb5_s {A B C D E β : Type} {x : A} {y : B} {t : C} {u : D} {v : E} {f : A → B → C → D → E → Option β} {z : β} (h : zb5 (some (x, y, t, u, v)) f = some z) : f x y t u v = some z := h
theorem zb6_s {A B C D E F β : Type} {x : A} {y : B} {t : C} {u : D} {v : E} {w : F} {f : A → B → C → D → E → F → Option β} {z : β} (h : zb6 (some (x, y, t, u, v, w)) f = some z) : f x y t u v w = some z := h
theorem zko {x k : Int32} {a : Int} (h : ¬ x = k) (ha : k.toInt = a) : (a = x.toInt) = False := eq_false (fun e => h (Int32.toInt_inj.mp (by rw [ha]; exact e.symm)))
section ZT
variable {p : Program} {l : Launch} {e : Env} {R : Room} {s : State} {m : MethodId} {args : Array Value} {below : List Frame} {meth : Method} {c : Code} {H : Heap} {locs : List Loc} {cells slots : Nat} {Q : State → Prop}
variable {cc : ByteArray} {pc : Nat} {ls : Array Slot} {rest : List Value}
theorem zTable (hx : p.tables.exec = Jvm.exec) (hb : c.code = cc) {dflt lo hi : Int} {offs : Array Int} {len : Nat} {x : Int32} {tgt : Nat} (hdg : decode cc pc = .ok (.tableswitch dflt lo hi offs, len)) (hd : ¬ x.toInt < lo → ¬ hi < x.toInt → offs[(x.toInt - lo).toNat]? = some dflt) (ht : (pc : Int) + dflt = (tgt : Int))
    (k : W p l e R s m args below meth c H locs cells slots Q (F0 m tgt ls rest)) : W p l e R s m args below meth c H locs cells slots Q (F0 m pc ls (.int x :: rest)) := by
  by_cases h1 : x.toInt < lo
  · exact lv_tableOut hx hb hdg (Or.inl h1) ht k
  · by_cases h2 : hi < x.toInt
    · exact lv_tableOut hx hb hdg (Or.inr h2) ht k
    · exact lv_tableIn hx hb hdg h1 h2 (hd h1 h2) ht k
end ZT
section ZOF
variable {l : Launch} {w : zWd} {G : zG} {y : MethodName} {cc : ByteArray} {nL d : Nat} {av : List Value} {σ σ' : SF}
theorem zMi_of {rt : FieldType} {r : Int32} (hy : plainName y.cls = true) (hn : (lg_sl av).length ≤ nL)
    (body : ∀ (p : Program) (e : Env) (s : State) (m : MethodId) (args : Array Value) (below : List Frame) (meth : Method) (c : Code) (ls : Array Slot) (Q : State → Prop), p.tables.exec = Jvm.exec → c.code = cc → meth.sig.returnType = some rt → meth.locks = false → c.maxLocals = nL → zC w G y.cls args s m → zI w G s σ s.heap [] → lv_has ls nL (lv_args 0 av) →
      (∀ {H : Heap} {locs : List Loc} {ls : Array Slot} {pc : Nat} {v : Int32} {σ1 : SF}, v = r ∧ σ1 = σ' → zI w G s σ1 H locs → narrow rt (.int v) = .int v → decode cc pc = .ok (.ireturn, 1) → W p l e (zR d) s m args below meth c H locs 0 0 Q (F0 m pc ls [.int v])) →
      W p l e (zR d) s m args below meth c s.heap [] 0 0 Q (F0 m 0 ls [])) : zMi l w G y cc nL rt d av σ r σ' := by
  intro sz
  refine Met.ofW (cc := cc) (maxL := nL) (ret := some rt) hy rfl ?_
  intro p e s m args below meth c s₁ B hml hv
  obtain ⟨rfl, hsz, hK, hP⟩ := hv
  subst hsz
  rw [lg_entry_eq]
  have hts := atoms_spec (ws := .code y cc nL (some rt) :: AW) B.pre
  exact body p e s m _ below meth c _ _ B.exec B.bytes B.returns B.notSynchronized hml ⟨findClass_of_methodNamed B.named, fun x hx => hts x (List.mem_cons_of_mem _ hx), hK⟩ ⟨hP, va_S.rf⟩ (lv_entry av hn) (fun hv hI hn hd => z_iret B.exec B.bytes B.returns B.notSynchronized hI hn hv hd)
theorem zMl_of {r : Int64} (hy : plainName y.cls = true) (hn : (lg_sl av).length ≤ nL)
    (body : ∀ (p : Program) (e : Env) (s : State) (m : MethodId) (args : Array Value) (below : List Frame) (meth : Method) (c : Code) (ls : Array Slot) (Q : State → Prop), p.tables.exec = Jvm.exec → c.code = cc → meth.sig.returnType = some .long → meth.locks = false → c.maxLocals = nL → zC w G y.cls args s m → zI w G s σ s.heap [] → lv_has ls nL (lv_args 0 av) →
      (∀ {H : Heap} {locs : List Loc} {ls : Array Slot} {pc : Nat} {v : Int64} {σ1 : SF}, v = r ∧ σ1 = σ' → zI w G s σ1 H locs → decode cc pc = .ok (.lreturn, 1) → W p l e (zR d) s m args below meth c H locs 0 0 Q (F0 m pc ls [.long v])) →
      W p l e (zR d) s m args below meth c s.heap [] 0 0 Q (F0 m 0 ls [])) : zMl l w G y cc nL d av σ r σ' := by
  intro sz
  refine Met.ofW (cc := cc) (maxL := nL) (ret := some .long) hy rfl ?_
  intro p e s m args below meth c s₁ B hml hv
  obtain ⟨rfl, hsz, hK, hP⟩ := hv
  subst hsz
  rw [lg_entry_eq]
  have hts := atoms_spec (ws := .code y cc nL (some .long) :: AW) B.pre
  exact body p e s m _ below meth c _ _ B.exec B.bytes B.returns B.notSynchronized hml ⟨findClass_of_methodNamed B.named, fun x hx => hts x (List.mem_cons_of_mem _ hx), hK⟩ ⟨hP, va_S.rf⟩ (lv_entry av hn) (fun hv hI hd => z_lret B.exec B.bytes B.returns B.notSynchronized hI hv hd)
theorem zMv_of (hy : plainName y.cls = true) (hn : (lg_sl av).length ≤ nL)
    (body : ∀ (p : Program) (e : Env) (s : State) (m : MethodId) (args : Array Value) (below : List Frame) (meth : Method) (c : Code) (ls : Array Slot) (Q : State → Prop), p.tables.exec = Jvm.exec → c.code = cc → meth.sig.returnType = none → meth.locks = false → c.maxLocals = nL → zC w G y.cls args s m → zI w G s σ s.heap [] → lv_has ls nL (lv_args 0 av) →
      (∀ {H : Heap} {locs : List Loc} {ls : Array Slot} {pc : Nat} {σ1 : SF}, σ1 = σ' → zI w G s σ1 H locs → decode cc pc = .ok (.return_, 1) → W p l e (zR d) s m args below meth c H locs 0 0 Q (F0 m pc ls [])) →
      W p l e (zR d) s m args below meth c s.heap [] 0 0 Q (F0 m 0 ls [])) : zMv l w G y cc nL d av σ σ' := by
  intro sz
  refine Met.ofW (cc := cc) (maxL := nL) (ret := none) hy rfl ?_
  intro p e s m args below meth c s₁ B hml hv
  obtain ⟨rfl, hsz, hK, hP⟩ := hv
  subst hsz
  rw [lg_entry_eq]
  have hts := atoms_spec (ws := .code y cc nL none :: AW) B.pre
  exact body p e s m _ below meth c _ _ B.exec B.bytes B.returns B.notSynchronized hml ⟨findClass_of_methodNamed B.named, fun x hx => hts x (List.mem_cons_of_mem _ hx), hK⟩ ⟨hP, va_S.rf⟩ (lv_entry av hn) (fun hv hI hd => z_vret B.exec B.bytes B.returns B.notSynchronized hI hv hd)
end ZOF
def zbl (r : Int32) : Bool := decide (r = 0) || decide (r = 1)
theorem zbl_p {r : Int32} (h : zbl r = true) : narrow .boolean (.int r) = .int r := by
  simp only [zbl, Bool.or_eq_true, decide_eq_true_eq] at h
  rcases h with rfl | rfl <;> rfl
/-- the letters of the kinds' text -/
def kb (j : Nat) : Int32 := ([110, 102, 101, 120, 116] : List Int32).getD j 0
section ZSTR
variable {p : Program} {l : Launch} {e : Env} {R : Room} {s : State} {m : MethodId} {args : Array Value} {below : List Frame} {meth : Method} {c : Code} {H : Heap} {locs : List Loc} {cells slots : Nat} {Q : State → Prop}
variable {cc : ByteArray} {pc : Nat} {ls : Array Slot} {rest st0 : List Value} {w : zWd} {G : zG} {own : String} {σ σ' : SF} {y : MethodName} {bytes : ByteArray} {maxL d k index : Nat} {rt : FieldType} {As : List Value}
/-- a call on the kinds' text -/
theorem z_cTi {r : Int32} (hx : p.tables.exec = Jvm.exec) (hb : c.code = cc) (hC : zC w G own args s m) (hml : c.maxLocals = ls.size) (hI : zI w G s σ H locs) (hM : zMi l w G y bytes maxL rt d (.ref G.2.2.2.2.1 :: As) σ r σ') (hy : zYv y bytes maxL (some rt) "java/lang/String" k) (hl : Cond.methodLink own index y ∈ AW) (hR : d + 1 ≤ R.frames ∧ 8 + (maxL + 11) + 100 * d ≤ R.locals) (hn : As.length = k) (hst : st0 = As.reverse ++ .ref G.2.2.2.2.1 :: rest) (hrest : (rest.map fun v => v.category).sum ≤ 8) (hf : cells ≤ R.cells ∧ slots ≤ R.slots) (hdg : decode cc pc = .ok (.invokevirtual index, 3))
    (kk : ∀ (H1 : Heap) (locs1 : List Loc), zI w G s σ' H1 locs1 → W p l e R s m args below meth c H1 locs1 cells slots Q (F0 m (pc + 3) ls (.int r :: rest))) : W p l e R s m args below meth c H locs cells slots Q (F0 m pc ls st0) :=
  z_runi hI (va_runV (As := As) (rest := rest) (nL := ls.size) ⟨hx, hb, hml, hC.1, hC.2.1⟩ (hM H.size) ⟨zB_of hC hl hy.2.2.1 hy.2.2.2.1 hy.2.2.2.2 hR, hC.ts hy.1, hC.ts hy.2.1⟩ ⟨zPr_blind, vk_recv hC.2.2.2.2.2.2.2 (i := 0) (by decide) hI.2, zPr_call hC.2.2 hI⟩ rfl hn rfl hst (lv_room hrest) hdg hf) kk
end ZSTR
