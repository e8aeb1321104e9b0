/-! THE STATE AS A MEMORY: cells by their number, each a row of ints; a world is the list of these cells at their addresses -/
abbrev SF : Type := Nat → Nat → Int32
def zsr (σ : SF) (c : Nat) (r : Nat → Int32) : SF := fun i => if i = c then r else σ i
def zst (σ : SF) (c k : Nat) (v : Int32) : SF := zsr σ c (upd (σ c) k v)
/-- a long in two ints -/
def zLo (v : Int64) : Int32 := Int32.ofBitVec (v.toBitVec.extractLsb' 0 32)
def zHi (v : Int64) : Int32 := Int32.ofBitVec (v.toBitVec.extractLsb' 32 32)
def zLg (a b : Int32) : Int64 := Int64.ofBitVec (b.toBitVec ++ a.toBitVec)
theorem zLg_of (v : Int64) : zLg (zLo v) (zHi v) = v := by
  apply Int64.toBitVec_inj.mp
  show (v.toBitVec.extractLsb' 32 32 ++ v.toBitVec.extractLsb' 0 32) = v.toBitVec
  apply BitVec.eq_of_getLsbD_eq
  intro i hi
  simp only [BitVec.getLsbD_append, BitVec.getLsbD_extractLsb']
  by_cases h : i < 32
  · simp [h]
  · simp [h]
    have h2 : i - 32 < 32 := by omega
    have h3 : 32 + (i - 32) = i := by omega
    simp [h2, h3]
def zgL (σ : SF) (c k : Nat) : Int64 := zLg (σ c k) (σ c (k + 100))
def zsL (σ : SF) (c k : Nat) (v : Int64) : SF := zsr σ c (upd (upd (σ c) k (zLo v)) (k + 100) (zHi v))
abbrev zG : Type := va_G × (Nat → Nat) × ClassId × ClassId × Nat × Nat
abbrev za (G : zG) (i : Nat) : Nat := G.2.1 i
abbrev zB : Type := Nat → (Nat → Int32) → va_E
abbrev zWd : Type := Nat × (zG → zB)
def zFW (N : Nat) (B : zB) (a : Nat → Nat) (σ : SF) : va_W := (List.range N).map (fun i => (a i, B i (σ i)))
theorem zFW_at {N : Nat} {B : zB} {a : Nat → Nat} {σ : SF} {c : Nat} (hc : c < N) : (zFW N B a σ)[c]? = some (a c, B c (σ c)) := by
  simp [zFW, hc]
theorem zFW_set {N : Nat} {B : zB} {a : Nat → Nat} {σ : SF} {c : Nat} {r : Nat → Int32} (hc : c < N) : (zFW N B a σ).set c (a c, B c r) = zFW N B a (zsr σ c r) := by
  apply List.ext_getElem?
  intro i
  by_cases hi : i = c
  · subst hi
    rw [List.getElem?_set_self (by simp [zFW, hc]), zFW_at hc]
    simp [zsr]
  · rw [List.getElem?_set_ne (Ne.symm hi)]
    by_cases h2 : i < N
    · rw [zFW_at h2, zFW_at h2]; simp [zsr, hi]
    · simp [zFW, h2]
def zA (N : Nat) (a : Nat → Nat) (sz : Nat) : Nat → Prop := fun q => (∃ k, k < N ∧ q = a k) ∨ sz ≤ q
theorem zA_D {N : Nat} {B : zB} {a : Nat → Nat} {σ : SF} {sz : Nat} (inj : ∀ i j, i < N → j < N → a i = a j → i = j) : va_D (zA N a sz) (zFW N B a σ) := by
  have key : ∀ (i : Nat) (p : Nat × va_E), (zFW N B a σ)[i]? = some p → i < N ∧ p.1 = a i := by
    intro i p h
    have hi : i < N := by
      have := (List.getElem?_eq_some_iff.mp h).1
      simpa [zFW] using this
    rw [zFW_at hi] at h
    cases h
    exact ⟨hi, rfl⟩
  refine ⟨fun i j p q hp hq e => ?_, fun k q hq => ?_⟩
  · obtain ⟨h1, h2⟩ := key i p hp
    obtain ⟨h3, h4⟩ := key j q hq
    exact inj i j h1 h3 (by rw [← h2, ← h4]; exact e)
  · obtain ⟨h1, h2⟩ := key k q hq
    exact Or.inl ⟨k, h1, h2⟩
theorem zA_mono {N : Nat} {a : Nat → Nat} {s1 s2 : Nat} (h : s1 ≤ s2) {q : Nat} (hq : zA N a s2 q) : zA N a s1 q := hq.elim Or.inl (fun z => Or.inr (Nat.le_trans h z))
def zW (w : zWd) (G : zG) (σ : SF) : va_W := zFW w.1 (w.2 G) G.2.1 σ
abbrev zAA (w : zWd) (G : zG) (sz : Nat) : Nat → Prop := zA w.1 G.2.1 sz
/-- what never changes: the cells' numbers are apart, the tables, the nest's links, the text of the kinds -/
def zK (w : zWd) (G : zG) (sz : Nat) (U : State) : Prop :=
  (∀ i j, i < w.1 → j < w.1 → G.2.1 i = G.2.1 j → i = j) ∧ va_K G.1 vwCl [(G.2.2.1, .int), (G.2.2.2.1, .byte)] U ∧ (∀ x ∈ NL, va_Nw x U) ∧ vk_R RX2 41 "nfext" G.2.2.2.2.1 U ∧
  va_Z "java/lang/String" "COMPACT_STRINGS" "Z" (.int 1) (zAA w G sz) U U.heap ∧ vk_S 1 [5] [[110, 102, 101, 120, 116]] (fun _ => G.2.2.2.2.1) (fun _ => G.2.2.2.2.2) (zAA w G sz) U U.heap
theorem zNL_warm {s U : State} (hW : s.WarmedH U.vm) (h : ∀ x ∈ NL, va_Nw x s) : ∀ x ∈ NL, va_Nw x U := by
  intro x hx
  have h1 := h x hx
  simp only [NL, List.mem_cons, List.not_mem_nil, or_false] at hx
  rcases hx with rfl | rfl | rfl | rfl | rfl | rfl | rfl | rfl | rfl | rfl | rfl <;> exact va_Nw.warmM hW h1
theorem zNL_same {s U : State} (hv : s.vm = U.vm) (h : ∀ x ∈ NL, va_Nw x s) : ∀ x ∈ NL, va_Nw x U := by
  intro x hx
  have h1 := h x hx
  simp only [NL, List.mem_cons, List.not_mem_nil, or_false] at hx
  rcases hx with rfl | rfl | rfl | rfl | rfl | rfl | rfl | rfl | rfl | rfl | rfl <;> exact va_Nw.same rfl hv h1
/-- the state of a walk -/
def zI (w : zWd) (G : zG) (s : State) (σ : SF) (H : Heap) (locs : List Loc) : Prop := va_P G.1 vwCl (zW w G σ) H ∧ va_S (zAA w G s.heap.size) s.heap H locs
def zC (w : zWd) (G : zG) (own : String) (args : Array Value) (s : State) (m : MethodId) : Prop := s.vm.findClass own = some m.cls ∧ (∀ x ∈ AW, x.before args s = true) ∧ zK w G s.heap.size s
theorem zC.ts {w : zWd} {G : zG} {own : String} {args : Array Value} {s : State} {m : MethodId} (h : zC w G own args s m) {x : Cond} (hx : x ∈ AW) : x.before args s = true := h.2.1 x hx
theorem zC.D {w : zWd} {G : zG} {own : String} {args : Array Value} {s : State} {m : MethodId} (h : zC w G own args s m) (σ : SF) : va_D (zAA w G s.heap.size) (zW w G σ) := zA_D h.2.2.1
theorem zC.K {w : zWd} {G : zG} {own : String} {args : Array Value} {s : State} {m : MethodId} (h : zC w G own args s m) : va_K G.1 vwCl [(G.2.2.1, .int), (G.2.2.2.1, .byte)] s := h.2.2.2.1
/-- the room of a method that calls at most d deep -/
abbrev zR (d : Nat) : Room := { frames := d, cells := 0, slots := 0, locals := 100 * d }
def zPr (w : zWd) (G : zG) (av : List Value) (σ : SF) (sz : Nat) : Array Value → State → Prop := va_Pc av (fun U => U.heap.size = sz ∧ zK w G sz U ∧ va_P G.1 vwCl (zW w G σ) U.heap)
def zPo (w : zWd) (G : zG) (σ : SF) (_ : Unit) (t : State) : Prop := va_P G.1 vwCl (zW w G σ) t.heap
def zMi (l : Launch) (w : zWd) (G : zG) (y : MethodName) (c : ByteArray) (n : Nat) (rt : FieldType) (d : Nat) (av : List Value) (σ : SF) (r : Int32) (σ' : SF) : Prop :=
  ∀ sz, Met l y (.code y c n (some rt) :: AW) (zR d) (zPr w G av σ sz) (va_Qi (fun r1 (_ : Unit) => r1 = r) (zPo w G σ') (zAA w G sz)) 0 0 (zAA w G sz)
def zMl (l : Launch) (w : zWd) (G : zG) (y : MethodName) (c : ByteArray) (n : Nat) (d : Nat) (av : List Value) (σ : SF) (r : Int64) (σ' : SF) : Prop :=
  ∀ sz, Met l y (.code y c n (some .long) :: AW) (zR d) (zPr w G av σ sz) (va_Ql (fun r1 (_ : Unit) => r1 = r) (zPo w G σ') (zAA w G sz)) 0 0 (zAA w G sz)
def zMv (l : Launch) (w : zWd) (G : zG) (y : MethodName) (c : ByteArray) (n : Nat) (d : Nat) (av : List Value) (σ : SF) (σ' : SF) : Prop :=
  ∀ sz, Met l y (.code y c n none :: AW) (zR d) (zPr w G av σ sz) (va_Qv (fun (_ : Unit) => True) (zPo w G σ') (zAA w G sz)) 0 0 (zAA w G sz)
theorem zGood {w1 w2 : Cond} (h : w2 ∈ AW) : GoodIn (w1 :: AW) (w2 :: AW) := fun w hw => (List.mem_cons.mp hw).elim (fun e => by subst e; exact ⟨List.mem_cons_of_mem _ h, AW_good h⟩) (fun h' => ⟨List.mem_cons_of_mem _ h', AW_good h'⟩)
theorem zGoodA {w2 : Cond} (h : w2 ∈ AW) : GoodIn AW (w2 :: AW) := fun w hw => (List.mem_cons.mp hw).elim (fun e => by subst e; exact ⟨h, AW_good h⟩) (fun h' => ⟨h', AW_good h'⟩)
theorem zK_blind {w : zWd} {G : zG} {sz : Nat} {U : State} {g : JFrame} {mk : MethodId} {a : Array Value} (h : zK w G sz U) : zK w G sz (U.calling g mk a) := by
  obtain ⟨h1, h2, h3, h4, h5, h6⟩ := h
  exact ⟨h1, va_K.moved (u := U) (U := U.calling g mk a) (Vm.Alike.refl U.vm) h2, zNL_same (s := U) (U := U.calling g mk a) rfl h3, vk_R.same (u := U) (U := U.calling g mk a) rfl h4,
    va_Z.moved (u := U) (U := U.calling g mk a) (Vm.Alike.refl U.vm) h5, vk_S.moved (u := U) (U := U.calling g mk a) (Vm.Alike.refl U.vm) h6⟩
theorem zPr_blind {w : zWd} {G : zG} {av : List Value} {σ : SF} {sz : Nat} : FrameBlind (zPr w G av σ sz) := fun _ _ _ _ q => ⟨q.1, q.2.1, zK_blind q.2.2.1, q.2.2.2⟩
theorem zK_call {w : zWd} {G : zG} {s U : State} {H : Heap} {locs : List Loc} (h : zK w G s.heap.size s) (hS : va_S (zAA w G s.heap.size) s.heap H locs) (hU : U.heap = H) (hW : s.WarmedH U.vm) : zK w G H.size U := by
  obtain ⟨h1, h2, h3, h4, h5, h6⟩ := h
  have hk : ∀ q : Nat, zAA w G H.size q → zAA w G s.heap.size q := fun q hq => zA_mono hS.1 hq
  refine ⟨h1, va_K.moved hW.alike h2, zNL_warm hW h3, vk_R.warm hW h4, ?_, ?_⟩
  · rw [hU]
    exact ((va_Z.moved hW.alike h5).kept hS.2.1).narrow hk
  · rw [hU]
    exact ((vk_S.moved hW.alike h6).kept hS.2.1).narrow hk
theorem zPr_call {w : zWd} {G : zG} {av : List Value} {σ : SF} {s : State} {H : Heap} {locs : List Loc} (h : zK w G s.heap.size s) (hI : zI w G s σ H locs) : ∀ U : State, U.heap = H → s.WarmedH U.vm → zPr w G av σ H.size av.toArray U :=
  fun U hU hW => ⟨rfl, by rw [hU], zK_call h hI.2 hU hW, by rw [hU]; exact hI.1⟩
/-- what the tables say of a method that is called -/
def zYv (y : MethodName) (c : ByteArray) (n : Nat) (rt : Option FieldType) (C : String) (k : Nat) : Prop :=
  Cond.instanceMethod y ∈ AW ∧ Cond.selects C y y ∈ AW ∧ Cond.code y c n rt ∈ AW ∧ Cond.initialized y.cls ∈ AW ∧ y.cls ≠ "java/lang/invoke/MethodHandle" ∧ y.cls ≠ "java/lang/invoke/VarHandle" ∧ (parseMethodDescriptor y.desc).map (fun d => d.parameters.length) = some k
def zYs (y : MethodName) (c : ByteArray) (n : Nat) (rt : Option FieldType) (k : Nat) : Prop :=
  Cond.static y ∈ AW ∧ Cond.code y c n rt ∈ AW ∧ Cond.initialized y.cls ∈ AW ∧ y.cls ≠ "java/lang/invoke/MethodHandle" ∧ y.cls ≠ "java/lang/invoke/VarHandle" ∧ (parseMethodDescriptor y.desc).map (fun d => d.parameters.length) = some k
/-- a cell that is an object of class ci, its fields by its row; an array of ints, of bytes -/
def zO (w : zWd) (G : zG) (c ci : Nat) (f : (Nat → Int32) → List Value) : Prop := c < w.1 ∧ ∀ r, w.2 G c r = .inr (ci, f r)
def zV (w : zWd) (G : zG) (c n : Nat) : Prop := c < w.1 ∧ ∀ r, w.2 G c r = .inl (G.2.2.1, n, .inl r)
def zV8 (w : zWd) (G : zG) (c n : Nat) : Prop := c < w.1 ∧ ∀ r, w.2 G c r = .inl (G.2.2.2.1, n, .inl r)
theorem zO.at {w : zWd} {G : zG} {c ci : Nat} {f : (Nat → Int32) → List Value} (h : zO w G c ci f) (σ : SF) : (zW w G σ)[c]? = some (za G c, .inr (ci, f (σ c))) := by
  rw [← h.2 (σ c)]; exact zFW_at h.1
theorem zV.at {w : zWd} {G : zG} {c n : Nat} (h : zV w G c n) (σ : SF) : (zW w G σ)[c]? = some (za G c, .inl (G.2.2.1, n, .inl (σ c))) := by
  rw [← h.2 (σ c)]; exact zFW_at h.1
theorem zV8.at {w : zWd} {G : zG} {c n : Nat} (h : zV8 w G c n) (σ : SF) : (zW w G σ)[c]? = some (za G c, .inl (G.2.2.2.1, n, .inl (σ c))) := by
  rw [← h.2 (σ c)]; exact zFW_at h.1
/-! the parts of the pure functions: a name, a guard, a call -/
def zl {α β : Type} (e : α) (f : α → Option β) : Option β := f e
def zg {β : Type} (b : Bool) (x : Option β) : Option β := if b then x else none
def zb {α β : Type} (m : Option α) (f : α → Option β) : Option β := match m with
  | none => none
  | some x => f x
def zb2 {A B β : Type} (m : Option (A × B)) (f : A → B → Option β) : Option β := match m with
  | none => none
  | some (x, y) => f x y
def zb3 {A B C β : Type} (m : Option (A × B × C)) (f : A → B → C → Option β) : Option β := match m with
  | none => none
  | some (x, y, z) => f x y z
def zb4 {A B C D β : Type} (m : Option (A × B × C × D)) (f : A → B → C → D → Option β) : Option β := match m with
  | none => none
  | some (x, y, z, u) => f x y z u
def zb5 {A B C D E β : Type} (m : Option (A × B × C × D × E)) (f : A → B → C → D → E → Option β) : Option β := match m with
  | none => none
  | some (x, y, z, u, v) => f x y z u v
def zb6 {A B C D E F β : Type} (m : Option (A × B × C × D × E × F)) (f : A → B → C → D → E → F → Option β) : Option β := match m with
  | none => none
  | some (x, y, z, u, v, t) => f x y z u v t
/-- a loop that may end its method (inl) or be left (inr) -/
def zs {ρ α β : Type} (m : Option (ρ ⊕ α)) (g : ρ → Option β) (f : α → Option β) : Option β := match m with
  | none => none
  | some (.inl r) => g r
  | some (.inr x) => f x
theorem zl_e {α β : Type} {e : α} {f : α → Option β} {z : β} (h : zl e f = some z) {x : α} (hx : x = e) : f x = some z := by subst hx; exact h
theorem zg_e {β : Type} {b : Bool} {x : Option β} {z : β} (h : zg b x = some z) : b = true ∧ x = some z := by
  unfold zg at h
  cases b with
  | true => exact ⟨rfl, h⟩
  | false => cases h
theorem zb_e {α β : Type} {m : Option α} {f : α → Option β} {z : β} (h : zb m f = some z) : ∃ x, m = some x ∧ f x = some z := by
  cases m with
  | none => cases h
  | some x => exact ⟨x, rfl, h⟩
theorem zb2_e {A B β : Type} {m : Option (A × B)} {f : A → B → Option β} {z : β} (h : zb2 m f = some z) : ∃ x y, m = some (x, y) ∧ f x y = some z := by
  cases m with
  | none => cases h
  | some u => obtain ⟨x, y⟩ := u; exact ⟨x, y, rfl, h⟩
theorem zb3_e {A B C β : Type} {m : Option (A × B × C)} {f : A → B → C → Option β} {z : β} (h : zb3 m f = some z) : ∃ x y t, m = some (x, y, t) ∧ f x y t = some z := by
  cases m with
  | none => cases h
  | some u => obtain ⟨x, y, t⟩ := u; exact ⟨x, y, t, rfl, h⟩
theorem zb4_e {A B C D β : Type} {m : Option (A × B × C × D)} {f : A → B → C → D → Option β} {z : β} (h : zb4 m f = some z) : ∃ x y t u, m = some (x, y, t, u) ∧ f x y t u = some z := by
  cases m with
  | none => cases h
  | some u => obtain ⟨x, y, t, v⟩ := u; exact ⟨x, y, t, v, rfl, h⟩
theorem zb5_e {A B C D E β : Type} {m : Option (A × B × C × D × E)} {f : A → B → C → D → E → Option β} {z : β} (h : zb5 m f = some z) : ∃ x y t u v, m = some (x, y, t, u, v) ∧ f x y t u v = some z := by
  cases m with
  | none => cases h
  | some u => obtain ⟨x, y, t, v, w⟩ := u; exact ⟨x, y, t, v, w, rfl, h⟩
theorem zb6_e {A B C D E F β : Type} {m : Option (A × B × C × D × E × F)} {f : A → B → C → D → E → F → Option β} {z : β} (h : zb6 m f = some z) : ∃ x y t u v w, m = some (x, y, t, u, v, w) ∧ f x y t u v w = some z := by
  cases m with
  | none => cases h
  | some u => obtain ⟨x, y, t, v, w, q⟩ := u; exact ⟨x, y, t, v, w, q, rfl, h⟩
theorem zs_e {ρ α β : Type} {m : Option (ρ ⊕ α)} {g : ρ → Option β} {f : α → Option β} {z : β} (h : zs m g f = some z) : ∃ u, m = some u ∧ (∀ r, u = .inl r → g r = some z) ∧ (∀ x, u = .inr x → f x = some z) := by
  cases m with
  | none => cases h
  | some u =>
    refine ⟨u, rfl, ?_, ?_⟩
    · intro r hr; subst hr; exact h
    · intro r hr; subst hr; exact h
theorem zi_t {α : Type} {c : Prop} {dc : Decidable c} {x y : Option α} {z : α} (hc : c) (h : (@ite _ c dc x y) = some z) : x = some z := by rw [if_pos hc] at h; exact h
theorem zi_f {α : Type} {c : Prop} {dc : Decidable c} {x y : Option α} {z : α} (hc : ¬ c) (h : (@ite _ c dc x y) = some z) : y = some z := by rw [if_neg hc] at h; exact h
/-- an index within, as a bool -/
def zin (i : Int32) (n : Nat) : Bool := !(decide (i < 0) || decide (n ≤ i.toNatClampNeg))
theorem zin_p {i : Int32} {n : Nat} (h : zin i n = true) : vp_in i n := by
  intro q
  simp only [zin, Bool.not_eq_true', Bool.or_eq_false_iff, decide_eq_false_iff_not] at h
  exact q.elim h.1 h.2
def znz (i : Int32) : Bool := !(decide (i = 0))
theorem znz_p {i : Int32} (h : znz i = true) : ¬ i = 0 := by
  simpa [znz] using h
def znzL (i : Int64) : Bool := !(decide (i = 0))
theorem znzL_p {i : Int64} (h : znzL i = true) : ¬ i = 0 := by
  simpa [znzL] using h
theorem zne_toInt {x k : Int32} (h : ¬ x = k) : x.toInt ≠ k.toInt := fun e => h (Int32.toInt_inj.mp e)
