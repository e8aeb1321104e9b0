/-! THE LAW'S CASES (by wip/whole/gen/law.py) -/
section LC
variable {p : Program} {l : Launch} {e : Env} {s : State} {m : MethodId} {below : List Frame} {meth : Method} {c : Code} {H : Heap} {locs : List Loc} {cells slots : Nat} {Q : State → Prop}
variable {ls : Array Slot} {G1 G2 : zG} {σ τ : SF} {b L k : Nat} {xs : Nat → Int32} {i : Int32}
/-- what a case stands on -/
def lcS (p : Program) (s : State) (m : MethodId) (c : Code) (ls : Array Slot) (G1 G2 : zG) (σ τ : SF) (b L k : Nat) (xs : Nat → Int32) (i : Int32) (cells slots : Nat) (H : Heap) (locs : List Loc) : Prop :=
  p.tables.exec = Jvm.exec ∧ c.code = code ∧ lqC WF WM G1 G2 #[Value.ref b] s m ∧ c.maxLocals = ls.size ∧ (cells ≤ room_1.cells ∧ slots ≤ room_1.slots) ∧ va_X b L xs s s.heap ∧ b < s.heap.size ∧ vp_in (i + 1) L ∧ vp_in (i + 2) L ∧ vp_in (i + 3) L ∧ lv_has ls 4 [(0, .ref b), (1, .ref (za G1 0)), (2, .ref (za G2 0)), (3, .int i)] ∧ lqI WF WM G1 G2 s σ τ H locs ∧ k < 2 ^ 20 ∧ Inv k σ τ
def lcE (p : Program) (l : Launch) (e : Env) (s : State) (m : MethodId) (below : List Frame) (meth : Method) (c : Code) (ls : Array Slot) (G1 G2 : zG) (b k : Nat) (cells slots : Nat) (Q : State → Prop) : Prop :=
  ∀ (σ1 τ1 : SF) (H1 : Heap) (locs1 : List Loc), Inv (k + 1) σ1 τ1 → lqI WF WM G1 G2 s σ1 τ1 H1 locs1 → W p l e room_1 s m #[Value.ref b] below meth c H1 locs1 cells slots Q (F0 m 683 ls [])
theorem lc_cmp (r : Int64) : lg_cmp r r = 0 := by
  unfold lg_cmp
  rw [if_neg (fun h => absurd h (Int64.lt_irrefl)), if_pos rfl]
theorem law_c0 (S : lcS p s m c ls G1 G2 σ τ b L k xs i cells slots H locs) (E : lcE p l e s m below meth c ls G1 G2 b k cells slots Q) : W p l e room_1 s m #[Value.ref b] below meth c H locs cells slots Q (F0 m 136 ls []) := by
  obtain ⟨hx, hb, hC, hml, hf, hX, hbl, hi1, hi2, hi3, hl, hI, hk, hv⟩ := S
  have hbA : ¬ (fun q : Nat => s.heap.size ≤ q) b := Nat.not_le.mpr hbl
  obtain ⟨r, σ1, τ1, h1, h2, h3⟩ := op_letter hv (xs (i + 1).toNatClampNeg)
  refine lv_aload_n hx hb dL_136 rfl (lv_at hl 1 rfl) ?_
  refine lv_aload_n hx hb dL_137 rfl (lv_at hl 0 rfl) ?_
  refine lv_iload_n hx hb dL_138 rfl (lv_at hl 3 rfl) ?_
  refine lv_iconst (v := 1) hx hb dL_139 (by decide) ?_
  refine lv_iadd hx hb dL_140 ?_
  refine va_sld hx hb hX hbl hbA hI.2.2 hi1 dL_141 ?_
  refine lq_i (As := [.int (xs (i + 1).toNatClampNeg)]) (rest := []) hx hb hC hml hI (c_X6_letter l G1 h1) yyX6_letter q_ml_L_13 (oX6 G1) rfl ⟨Nat.le_of_ble_eq_true rfl, Nat.le_of_ble_eq_true rfl⟩ rfl rfl (Nat.le_of_ble_eq_true rfl) hf dL_142 (fun H locs hI => ?_)
  refine lv_aload_n hx hb dL_145 rfl (lv_at hl 2 rfl) ?_
  refine lv_aload_n hx hb dL_146 rfl (lv_at hl 0 rfl) ?_
  refine lv_iload_n hx hb dL_147 rfl (lv_at hl 3 rfl) ?_
  refine lv_iconst (v := 1) hx hb dL_148 (by decide) ?_
  refine lv_iadd hx hb dL_149 ?_
  refine va_sld hx hb hX hbl hbA hI.2.2 hi1 dL_150 ?_
  refine lq_i (As := [.int (xs (i + 1).toNatClampNeg)]) (rest := [.int r]) hx hb hC.sw hml hI.sw (c_X7_letter l G2 h2) yyX7_letter q_ml_L_17 (oX7 G2) rfl ⟨Nat.le_of_ble_eq_true rfl, Nat.le_of_ble_eq_true rfl⟩ rfl rfl (Nat.le_of_ble_eq_true rfl) hf dL_151 (fun H locs hI => ?_)
  have hI := hI.sw
  exact lv_icmp_eq (tgt := 683) hx hb dL_154 (by decide) (fun _ => E _ _ _ _ h3 hI) (fun hne => absurd rfl hne)
theorem law_c1 (S : lcS p s m c ls G1 G2 σ τ b L k xs i cells slots H locs) (E : lcE p l e s m below meth c ls G1 G2 b k cells slots Q) : W p l e room_1 s m #[Value.ref b] below meth c H locs cells slots Q (F0 m 159 ls []) := by
  obtain ⟨hx, hb, hC, hml, hf, hX, hbl, hi1, hi2, hi3, hl, hI, hk, hv⟩ := S
  have hbA : ¬ (fun q : Nat => s.heap.size ≤ q) b := Nat.not_le.mpr hbl
  obtain ⟨r, σ1, τ1, h1, h2, h3⟩ := op_blank hv
  refine lv_aload_n hx hb dL_159 rfl (lv_at hl 1 rfl) ?_
  refine lq_i (As := []) (rest := []) hx hb hC hml hI (c_X6_blank l G1 h1) yyX6_blank q_ml_L_18 (oX6 G1) rfl ⟨Nat.le_of_ble_eq_true rfl, Nat.le_of_ble_eq_true rfl⟩ rfl rfl (Nat.le_of_ble_eq_true rfl) hf dL_160 (fun H locs hI => ?_)
  refine lv_aload_n hx hb dL_163 rfl (lv_at hl 2 rfl) ?_
  refine lq_i (As := []) (rest := [.int r]) hx hb hC.sw hml hI.sw (c_X7_blank l G2 h2) yyX7_blank q_ml_L_22 (oX7 G2) rfl ⟨Nat.le_of_ble_eq_true rfl, Nat.le_of_ble_eq_true rfl⟩ rfl rfl (Nat.le_of_ble_eq_true rfl) hf dL_164 (fun H locs hI => ?_)
  have hI := hI.sw
  exact lv_icmp_eq (tgt := 683) hx hb dL_167 (by decide) (fun _ => E _ _ _ _ h3 hI) (fun hne => absurd rfl hne)
theorem law_c2 (S : lcS p s m c ls G1 G2 σ τ b L k xs i cells slots H locs) (E : lcE p l e s m below meth c ls G1 G2 b k cells slots Q) : W p l e room_1 s m #[Value.ref b] below meth c H locs cells slots Q (F0 m 172 ls []) := by
  obtain ⟨hx, hb, hC, hml, hf, hX, hbl, hi1, hi2, hi3, hl, hI, hk, hv⟩ := S
  have hbA : ¬ (fun q : Nat => s.heap.size ≤ q) b := Nat.not_le.mpr hbl
  obtain ⟨r, σ1, τ1, h1, h2, h3⟩ := op_fault hv
  refine lv_aload_n hx hb dL_172 rfl (lv_at hl 1 rfl) ?_
  refine lq_i (As := []) (rest := []) hx hb hC hml hI (c_X6_fault l G1 h1) yyX6_fault q_ml_L_23 (oX6 G1) rfl ⟨Nat.le_of_ble_eq_true rfl, Nat.le_of_ble_eq_true rfl⟩ rfl rfl (Nat.le_of_ble_eq_true rfl) hf dL_173 (fun H locs hI => ?_)
  refine lv_aload_n hx hb dL_176 rfl (lv_at hl 2 rfl) ?_
  refine lq_i (As := []) (rest := [.int r]) hx hb hC.sw hml hI.sw (c_X7_fault l G2 h2) yyX7_fault q_ml_L_26 (oX7 G2) rfl ⟨Nat.le_of_ble_eq_true rfl, Nat.le_of_ble_eq_true rfl⟩ rfl rfl (Nat.le_of_ble_eq_true rfl) hf dL_177 (fun H locs hI => ?_)
  have hI := hI.sw
  exact lv_icmp_eq (tgt := 683) hx hb dL_180 (by decide) (fun _ => E _ _ _ _ h3 hI) (fun hne => absurd rfl hne)
theorem law_c3 (S : lcS p s m c ls G1 G2 σ τ b L k xs i cells slots H locs) (E : lcE p l e s m below meth c ls G1 G2 b k cells slots Q) : W p l e room_1 s m #[Value.ref b] below meth c H locs cells slots Q (F0 m 185 ls []) := by
  obtain ⟨hx, hb, hC, hml, hf, hX, hbl, hi1, hi2, hi3, hl, hI, hk, hv⟩ := S
  have hbA : ¬ (fun q : Nat => s.heap.size ≤ q) b := Nat.not_le.mpr hbl
  obtain ⟨r, σ1, τ1, h1, h2, h3⟩ := op_graph hk hv
  refine lv_aload_n hx hb dL_185 rfl (lv_at hl 1 rfl) ?_
  refine lq_i (As := []) (rest := []) hx hb hC hml hI (c_X6_graph l G1 h1) yyX6_graph q_ml_L_27 (oX6 G1) rfl ⟨Nat.le_of_ble_eq_true rfl, Nat.le_of_ble_eq_true rfl⟩ rfl rfl (Nat.le_of_ble_eq_true rfl) hf dL_186 (fun H locs hI => ?_)
  refine lv_aload_n hx hb dL_189 rfl (lv_at hl 2 rfl) ?_
  refine lq_i (As := []) (rest := [.int r]) hx hb hC.sw hml hI.sw (c_X7_graph l G2 h2) yyX7_graph q_ml_L_30 (oX7 G2) rfl ⟨Nat.le_of_ble_eq_true rfl, Nat.le_of_ble_eq_true rfl⟩ rfl rfl (Nat.le_of_ble_eq_true rfl) hf dL_190 (fun H locs hI => ?_)
  have hI := hI.sw
  exact lv_icmp_eq (tgt := 683) hx hb dL_193 (by decide) (fun _ => E _ _ _ _ h3 hI) (fun hne => absurd rfl hne)
theorem law_c4 (S : lcS p s m c ls G1 G2 σ τ b L k xs i cells slots H locs) (E : lcE p l e s m below meth c ls G1 G2 b k cells slots Q) : W p l e room_1 s m #[Value.ref b] below meth c H locs cells slots Q (F0 m 198 ls []) := by
  obtain ⟨hx, hb, hC, hml, hf, hX, hbl, hi1, hi2, hi3, hl, hI, hk, hv⟩ := S
  have hbA : ¬ (fun q : Nat => s.heap.size ≤ q) b := Nat.not_le.mpr hbl
  obtain ⟨r, τ1, h1, h2, h3⟩ := op_node hv (xs (i + 1).toNatClampNeg) (xs (i + 2).toNatClampNeg)
  refine lv_aload_n hx hb dL_198 rfl (lv_at hl 1 rfl) ?_
  refine lv_aload_n hx hb dL_199 rfl (lv_at hl 0 rfl) ?_
  refine lv_iload_n hx hb dL_200 rfl (lv_at hl 3 rfl) ?_
  refine lv_iconst (v := 1) hx hb dL_201 (by decide) ?_
  refine lv_iadd hx hb dL_202 ?_
  refine va_sld hx hb hX hbl hbA hI.2.2 hi1 dL_203 ?_
  refine lv_aload_n hx hb dL_204 rfl (lv_at hl 0 rfl) ?_
  refine lv_iload_n hx hb dL_205 rfl (lv_at hl 3 rfl) ?_
  refine lv_iconst (v := 2) hx hb dL_206 (by decide) ?_
  refine lv_iadd hx hb dL_207 ?_
  refine va_sld hx hb hX hbl hbA hI.2.2 hi2 dL_208 ?_
  refine lq_i (As := [.int (xs (i + 1).toNatClampNeg), .int (xs (i + 2).toNatClampNeg)]) (rest := []) hx hb hC hml hI (c_X6_node l G1 h1) yyX6_node q_ml_L_31 (oX6 G1) rfl ⟨Nat.le_of_ble_eq_true rfl, Nat.le_of_ble_eq_true rfl⟩ rfl rfl (Nat.le_of_ble_eq_true rfl) hf dL_209 (fun H locs hI => ?_)
  refine lv_aload_n hx hb dL_212 rfl (lv_at hl 2 rfl) ?_
  refine lv_aload_n hx hb dL_213 rfl (lv_at hl 0 rfl) ?_
  refine lv_iload_n hx hb dL_214 rfl (lv_at hl 3 rfl) ?_
  refine lv_iconst (v := 1) hx hb dL_215 (by decide) ?_
  refine lv_iadd hx hb dL_216 ?_
  refine va_sld hx hb hX hbl hbA hI.2.2 hi1 dL_217 ?_
  refine lv_aload_n hx hb dL_218 rfl (lv_at hl 0 rfl) ?_
  refine lv_iload_n hx hb dL_219 rfl (lv_at hl 3 rfl) ?_
  refine lv_iconst (v := 2) hx hb dL_220 (by decide) ?_
  refine lv_iadd hx hb dL_221 ?_
  refine va_sld hx hb hX hbl hbA hI.2.2 hi2 dL_222 ?_
  refine lq_i (As := [.int (xs (i + 1).toNatClampNeg), .int (xs (i + 2).toNatClampNeg)]) (rest := [.int r]) hx hb hC.sw hml hI.sw (c_X7_node l G2 h2) yyX7_node q_ml_L_35 (oX7 G2) rfl ⟨Nat.le_of_ble_eq_true rfl, Nat.le_of_ble_eq_true rfl⟩ rfl rfl (Nat.le_of_ble_eq_true rfl) hf dL_223 (fun H locs hI => ?_)
  have hI := hI.sw
  exact lv_icmp_eq (tgt := 683) hx hb dL_226 (by decide) (fun _ => E _ _ _ _ h3 hI) (fun hne => absurd rfl hne)
theorem law_c5 (S : lcS p s m c ls G1 G2 σ τ b L k xs i cells slots H locs) (E : lcE p l e s m below meth c ls G1 G2 b k cells slots Q) : W p l e room_1 s m #[Value.ref b] below meth c H locs cells slots Q (F0 m 231 ls []) := by
  obtain ⟨hx, hb, hC, hml, hf, hX, hbl, hi1, hi2, hi3, hl, hI, hk, hv⟩ := S
  have hbA : ¬ (fun q : Nat => s.heap.size ≤ q) b := Nat.not_le.mpr hbl
  obtain ⟨r, h1, h2, h3⟩ := op_as hv (xs (i + 1).toNatClampNeg) (xs (i + 2).toNatClampNeg)
  refine lv_aload_n hx hb dL_231 rfl (lv_at hl 1 rfl) ?_
  refine lv_aload_n hx hb dL_232 rfl (lv_at hl 0 rfl) ?_
  refine lv_iload_n hx hb dL_233 rfl (lv_at hl 3 rfl) ?_
  refine lv_iconst (v := 1) hx hb dL_234 (by decide) ?_
  refine lv_iadd hx hb dL_235 ?_
  refine va_sld hx hb hX hbl hbA hI.2.2 hi1 dL_236 ?_
  refine lv_aload_n hx hb dL_237 rfl (lv_at hl 0 rfl) ?_
  refine lv_iload_n hx hb dL_238 rfl (lv_at hl 3 rfl) ?_
  refine lv_iconst (v := 2) hx hb dL_239 (by decide) ?_
  refine lv_iadd hx hb dL_240 ?_
  refine va_sld hx hb hX hbl hbA hI.2.2 hi2 dL_241 ?_
  refine lq_i (As := [.int (xs (i + 1).toNatClampNeg), .int (xs (i + 2).toNatClampNeg)]) (rest := []) hx hb hC hml hI (c_X6_as l G1 h1) yyX6_as q_ml_L_36 (oX6 G1) rfl ⟨Nat.le_of_ble_eq_true rfl, Nat.le_of_ble_eq_true rfl⟩ rfl rfl (Nat.le_of_ble_eq_true rfl) hf dL_242 (fun H locs hI => ?_)
  refine lv_aload_n hx hb dL_245 rfl (lv_at hl 2 rfl) ?_
  refine lv_aload_n hx hb dL_246 rfl (lv_at hl 0 rfl) ?_
  refine lv_iload_n hx hb dL_247 rfl (lv_at hl 3 rfl) ?_
  refine lv_iconst (v := 1) hx hb dL_248 (by decide) ?_
  refine lv_iadd hx hb dL_249 ?_
  refine va_sld hx hb hX hbl hbA hI.2.2 hi1 dL_250 ?_
  refine lv_aload_n hx hb dL_251 rfl (lv_at hl 0 rfl) ?_
  refine lv_iload_n hx hb dL_252 rfl (lv_at hl 3 rfl) ?_
  refine lv_iconst (v := 2) hx hb dL_253 (by decide) ?_
  refine lv_iadd hx hb dL_254 ?_
  refine va_sld hx hb hX hbl hbA hI.2.2 hi2 dL_255 ?_
  refine lq_i (As := [.int (xs (i + 1).toNatClampNeg), .int (xs (i + 2).toNatClampNeg)]) (rest := [.int r]) hx hb hC.sw hml hI.sw (c_X7_as l G2 h2) yyX7_as q_ml_L_39 (oX7 G2) rfl ⟨Nat.le_of_ble_eq_true rfl, Nat.le_of_ble_eq_true rfl⟩ rfl rfl (Nat.le_of_ble_eq_true rfl) hf dL_256 (fun H locs hI => ?_)
  have hI := hI.sw
  exact lv_icmp_eq (tgt := 683) hx hb dL_259 (by decide) (fun _ => E _ _ _ _ h3 hI) (fun hne => absurd rfl hne)
theorem law_c6 (S : lcS p s m c ls G1 G2 σ τ b L k xs i cells slots H locs) (E : lcE p l e s m below meth c ls G1 G2 b k cells slots Q) : W p l e room_1 s m #[Value.ref b] below meth c H locs cells slots Q (F0 m 264 ls []) := by
  obtain ⟨hx, hb, hC, hml, hf, hX, hbl, hi1, hi2, hi3, hl, hI, hk, hv⟩ := S
  have hbA : ¬ (fun q : Nat => s.heap.size ≤ q) b := Nat.not_le.mpr hbl
  obtain ⟨r, τ1, h1, h2, h3⟩ := op_dominates hv (xs (i + 1).toNatClampNeg) (xs (i + 2).toNatClampNeg)
  refine lv_aload_n hx hb dL_264 rfl (lv_at hl 1 rfl) ?_
  refine lv_aload_n hx hb dL_265 rfl (lv_at hl 0 rfl) ?_
  refine lv_iload_n hx hb dL_266 rfl (lv_at hl 3 rfl) ?_
  refine lv_iconst (v := 1) hx hb dL_267 (by decide) ?_
  refine lv_iadd hx hb dL_268 ?_
  refine va_sld hx hb hX hbl hbA hI.2.2 hi1 dL_269 ?_
  refine lv_aload_n hx hb dL_270 rfl (lv_at hl 0 rfl) ?_
  refine lv_iload_n hx hb dL_271 rfl (lv_at hl 3 rfl) ?_
  refine lv_iconst (v := 2) hx hb dL_272 (by decide) ?_
  refine lv_iadd hx hb dL_273 ?_
  refine va_sld hx hb hX hbl hbA hI.2.2 hi2 dL_274 ?_
  refine lq_i (As := [.int (xs (i + 1).toNatClampNeg), .int (xs (i + 2).toNatClampNeg)]) (rest := []) hx hb hC hml hI (c_X6_dominates l G1 h1) yyX6_dominates q_ml_L_40 (oX6 G1) rfl ⟨Nat.le_of_ble_eq_true rfl, Nat.le_of_ble_eq_true rfl⟩ rfl rfl (Nat.le_of_ble_eq_true rfl) hf dL_275 (fun H locs hI => ?_)
  refine lv_aload_n hx hb dL_278 rfl (lv_at hl 2 rfl) ?_
  refine lv_aload_n hx hb dL_279 rfl (lv_at hl 0 rfl) ?_
  refine lv_iload_n hx hb dL_280 rfl (lv_at hl 3 rfl) ?_
  refine lv_iconst (v := 1) hx hb dL_281 (by decide) ?_
  refine lv_iadd hx hb dL_282 ?_
  refine va_sld hx hb hX hbl hbA hI.2.2 hi1 dL_283 ?_
  refine lv_aload_n hx hb dL_284 rfl (lv_at hl 0 rfl) ?_
  refine lv_iload_n hx hb dL_285 rfl (lv_at hl 3 rfl) ?_
  refine lv_iconst (v := 2) hx hb dL_286 (by decide) ?_
  refine lv_iadd hx hb dL_287 ?_
  refine va_sld hx hb hX hbl hbA hI.2.2 hi2 dL_288 ?_
  refine lq_i (As := [.int (xs (i + 1).toNatClampNeg), .int (xs (i + 2).toNatClampNeg)]) (rest := [.int r]) hx hb hC.sw hml hI.sw (c_X7_dominates l G2 h2) yyX7_dominates q_ml_L_43 (oX7 G2) rfl ⟨Nat.le_of_ble_eq_true rfl, Nat.le_of_ble_eq_true rfl⟩ rfl rfl (Nat.le_of_ble_eq_true rfl) hf dL_289 (fun H locs hI => ?_)
  have hI := hI.sw
  exact lv_icmp_eq (tgt := 683) hx hb dL_292 (by decide) (fun _ => E _ _ _ _ h3 hI) (fun hne => absurd rfl hne)
theorem law_c7 (S : lcS p s m c ls G1 G2 σ τ b L k xs i cells slots H locs) (E : lcE p l e s m below meth c ls G1 G2 b k cells slots Q) : W p l e room_1 s m #[Value.ref b] below meth c H locs cells slots Q (F0 m 297 ls []) := by
  obtain ⟨hx, hb, hC, hml, hf, hX, hbl, hi1, hi2, hi3, hl, hI, hk, hv⟩ := S
  have hbA : ¬ (fun q : Nat => s.heap.size ≤ q) b := Nat.not_le.mpr hbl
  obtain ⟨r, τ1, h1, h2, h3⟩ := op_edge hv (xs (i + 1).toNatClampNeg) (xs (i + 2).toNatClampNeg)
  refine lv_aload_n hx hb dL_297 rfl (lv_at hl 1 rfl) ?_
  refine lv_aload_n hx hb dL_298 rfl (lv_at hl 0 rfl) ?_
  refine lv_iload_n hx hb dL_299 rfl (lv_at hl 3 rfl) ?_
  refine lv_iconst (v := 1) hx hb dL_300 (by decide) ?_
  refine lv_iadd hx hb dL_301 ?_
  refine va_sld hx hb hX hbl hbA hI.2.2 hi1 dL_302 ?_
  refine lv_aload_n hx hb dL_303 rfl (lv_at hl 0 rfl) ?_
  refine lv_iload_n hx hb dL_304 rfl (lv_at hl 3 rfl) ?_
  refine lv_iconst (v := 2) hx hb dL_305 (by decide) ?_
  refine lv_iadd hx hb dL_306 ?_
  refine va_sld hx hb hX hbl hbA hI.2.2 hi2 dL_307 ?_
  refine lq_i (As := [.int (xs (i + 1).toNatClampNeg), .int (xs (i + 2).toNatClampNeg)]) (rest := []) hx hb hC hml hI (c_X6_edge l G1 h1) yyX6_edge q_ml_L_44 (oX6 G1) rfl ⟨Nat.le_of_ble_eq_true rfl, Nat.le_of_ble_eq_true rfl⟩ rfl rfl (Nat.le_of_ble_eq_true rfl) hf dL_308 (fun H locs hI => ?_)
  refine lv_aload_n hx hb dL_311 rfl (lv_at hl 2 rfl) ?_
  refine lv_aload_n hx hb dL_312 rfl (lv_at hl 0 rfl) ?_
  refine lv_iload_n hx hb dL_313 rfl (lv_at hl 3 rfl) ?_
  refine lv_iconst (v := 1) hx hb dL_314 (by decide) ?_
  refine lv_iadd hx hb dL_315 ?_
  refine va_sld hx hb hX hbl hbA hI.2.2 hi1 dL_316 ?_
  refine lv_aload_n hx hb dL_317 rfl (lv_at hl 0 rfl) ?_
  refine lv_iload_n hx hb dL_318 rfl (lv_at hl 3 rfl) ?_
  refine lv_iconst (v := 2) hx hb dL_319 (by decide) ?_
  refine lv_iadd hx hb dL_320 ?_
  refine va_sld hx hb hX hbl hbA hI.2.2 hi2 dL_321 ?_
  refine lq_i (As := [.int (xs (i + 1).toNatClampNeg), .int (xs (i + 2).toNatClampNeg)]) (rest := [.int r]) hx hb hC.sw hml hI.sw (c_X7_edge l G2 h2) yyX7_edge q_ml_L_47 (oX7 G2) rfl ⟨Nat.le_of_ble_eq_true rfl, Nat.le_of_ble_eq_true rfl⟩ rfl rfl (Nat.le_of_ble_eq_true rfl) hf dL_322 (fun H locs hI => ?_)
  have hI := hI.sw
  exact lv_icmp_eq (tgt := 683) hx hb dL_325 (by decide) (fun _ => E _ _ _ _ h3 hI) (fun hne => absurd rfl hne)
theorem law_c8 (S : lcS p s m c ls G1 G2 σ τ b L k xs i cells slots H locs) (E : lcE p l e s m below meth c ls G1 G2 b k cells slots Q) : W p l e room_1 s m #[Value.ref b] below meth c H locs cells slots Q (F0 m 330 ls []) := by
  obtain ⟨hx, hb, hC, hml, hf, hX, hbl, hi1, hi2, hi3, hl, hI, hk, hv⟩ := S
  have hbA : ¬ (fun q : Nat => s.heap.size ≤ q) b := Nat.not_le.mpr hbl
  obtain ⟨r, σ1, τ1, h1, h2, h3⟩ := op_aim hv (xs (i + 1).toNatClampNeg) (xs (i + 2).toNatClampNeg) (xs (i + 3).toNatClampNeg)
  refine lv_aload_n hx hb dL_330 rfl (lv_at hl 1 rfl) ?_
  refine lv_aload_n hx hb dL_331 rfl (lv_at hl 0 rfl) ?_
  refine lv_iload_n hx hb dL_332 rfl (lv_at hl 3 rfl) ?_
  refine lv_iconst (v := 1) hx hb dL_333 (by decide) ?_
  refine lv_iadd hx hb dL_334 ?_
  refine va_sld hx hb hX hbl hbA hI.2.2 hi1 dL_335 ?_
  refine lv_aload_n hx hb dL_336 rfl (lv_at hl 0 rfl) ?_
  refine lv_iload_n hx hb dL_337 rfl (lv_at hl 3 rfl) ?_
  refine lv_iconst (v := 2) hx hb dL_338 (by decide) ?_
  refine lv_iadd hx hb dL_339 ?_
  refine va_sld hx hb hX hbl hbA hI.2.2 hi2 dL_340 ?_
  refine lv_aload_n hx hb dL_341 rfl (lv_at hl 0 rfl) ?_
  refine lv_iload_n hx hb dL_342 rfl (lv_at hl 3 rfl) ?_
  refine lv_iconst (v := 3) hx hb dL_343 (by decide) ?_
  refine lv_iadd hx hb dL_344 ?_
  refine va_sld hx hb hX hbl hbA hI.2.2 hi3 dL_345 ?_
  refine lq_i (As := [.int (xs (i + 1).toNatClampNeg), .int (xs (i + 2).toNatClampNeg), .int (xs (i + 3).toNatClampNeg)]) (rest := []) hx hb hC hml hI (c_X6_aim l G1 h1) yyX6_aim q_ml_L_48 (oX6 G1) rfl ⟨Nat.le_of_ble_eq_true rfl, Nat.le_of_ble_eq_true rfl⟩ rfl rfl (Nat.le_of_ble_eq_true rfl) hf dL_346 (fun H locs hI => ?_)
  refine lv_aload_n hx hb dL_349 rfl (lv_at hl 2 rfl) ?_
  refine lv_aload_n hx hb dL_350 rfl (lv_at hl 0 rfl) ?_
  refine lv_iload_n hx hb dL_351 rfl (lv_at hl 3 rfl) ?_
  refine lv_iconst (v := 1) hx hb dL_352 (by decide) ?_
  refine lv_iadd hx hb dL_353 ?_
  refine va_sld hx hb hX hbl hbA hI.2.2 hi1 dL_354 ?_
  refine lv_aload_n hx hb dL_355 rfl (lv_at hl 0 rfl) ?_
  refine lv_iload_n hx hb dL_356 rfl (lv_at hl 3 rfl) ?_
  refine lv_iconst (v := 2) hx hb dL_357 (by decide) ?_
  refine lv_iadd hx hb dL_358 ?_
  refine va_sld hx hb hX hbl hbA hI.2.2 hi2 dL_359 ?_
  refine lv_aload_n hx hb dL_360 rfl (lv_at hl 0 rfl) ?_
  refine lv_iload_n hx hb dL_361 rfl (lv_at hl 3 rfl) ?_
  refine lv_iconst (v := 3) hx hb dL_362 (by decide) ?_
  refine lv_iadd hx hb dL_363 ?_
  refine va_sld hx hb hX hbl hbA hI.2.2 hi3 dL_364 ?_
  refine lq_i (As := [.int (xs (i + 1).toNatClampNeg), .int (xs (i + 2).toNatClampNeg), .int (xs (i + 3).toNatClampNeg)]) (rest := [.int r]) hx hb hC.sw hml hI.sw (c_X7_aim l G2 h2) yyX7_aim q_ml_L_52 (oX7 G2) rfl ⟨Nat.le_of_ble_eq_true rfl, Nat.le_of_ble_eq_true rfl⟩ rfl rfl (Nat.le_of_ble_eq_true rfl) hf dL_365 (fun H locs hI => ?_)
  have hI := hI.sw
  exact lv_icmp_eq (tgt := 683) hx hb dL_368 (by decide) (fun _ => E _ _ _ _ h3 hI) (fun hne => absurd rfl hne)
theorem law_c9 (S : lcS p s m c ls G1 G2 σ τ b L k xs i cells slots H locs) (E : lcE p l e s m below meth c ls G1 G2 b k cells slots Q) : W p l e room_1 s m #[Value.ref b] below meth c H locs cells slots Q (F0 m 373 ls []) := by
  obtain ⟨hx, hb, hC, hml, hf, hX, hbl, hi1, hi2, hi3, hl, hI, hk, hv⟩ := S
  have hbA : ¬ (fun q : Nat => s.heap.size ≤ q) b := Nat.not_le.mpr hbl
  obtain ⟨r, σ1, τ1, h1, h2, h3⟩ := op_be hv (xs (i + 1).toNatClampNeg) (xs (i + 2).toNatClampNeg)
  refine lv_aload_n hx hb dL_373 rfl (lv_at hl 1 rfl) ?_
  refine lv_aload_n hx hb dL_374 rfl (lv_at hl 0 rfl) ?_
  refine lv_iload_n hx hb dL_375 rfl (lv_at hl 3 rfl) ?_
  refine lv_iconst (v := 1) hx hb dL_376 (by decide) ?_
  refine lv_iadd hx hb dL_377 ?_
  refine va_sld hx hb hX hbl hbA hI.2.2 hi1 dL_378 ?_
  refine lv_aload_n hx hb dL_379 rfl (lv_at hl 0 rfl) ?_
  refine lv_iload_n hx hb dL_380 rfl (lv_at hl 3 rfl) ?_
  refine lv_iconst (v := 2) hx hb dL_381 (by decide) ?_
  refine lv_iadd hx hb dL_382 ?_
  refine va_sld hx hb hX hbl hbA hI.2.2 hi2 dL_383 ?_
  refine lq_i (As := [.int (xs (i + 1).toNatClampNeg), .int (xs (i + 2).toNatClampNeg)]) (rest := []) hx hb hC hml hI (c_X6_be l G1 h1) yyX6_be q_ml_L_53 (oX6 G1) rfl ⟨Nat.le_of_ble_eq_true rfl, Nat.le_of_ble_eq_true rfl⟩ rfl rfl (Nat.le_of_ble_eq_true rfl) hf dL_384 (fun H locs hI => ?_)
  refine lv_aload_n hx hb dL_387 rfl (lv_at hl 2 rfl) ?_
  refine lv_aload_n hx hb dL_388 rfl (lv_at hl 0 rfl) ?_
  refine lv_iload_n hx hb dL_389 rfl (lv_at hl 3 rfl) ?_
  refine lv_iconst (v := 1) hx hb dL_390 (by decide) ?_
  refine lv_iadd hx hb dL_391 ?_
  refine va_sld hx hb hX hbl hbA hI.2.2 hi1 dL_392 ?_
  refine lv_aload_n hx hb dL_393 rfl (lv_at hl 0 rfl) ?_
  refine lv_iload_n hx hb dL_394 rfl (lv_at hl 3 rfl) ?_
  refine lv_iconst (v := 2) hx hb dL_395 (by decide) ?_
  refine lv_iadd hx hb dL_396 ?_
  refine va_sld hx hb hX hbl hbA hI.2.2 hi2 dL_397 ?_
  refine lq_i (As := [.int (xs (i + 1).toNatClampNeg), .int (xs (i + 2).toNatClampNeg)]) (rest := [.int r]) hx hb hC.sw hml hI.sw (c_X7_be l G2 h2) yyX7_be q_ml_L_56 (oX7 G2) rfl ⟨Nat.le_of_ble_eq_true rfl, Nat.le_of_ble_eq_true rfl⟩ rfl rfl (Nat.le_of_ble_eq_true rfl) hf dL_398 (fun H locs hI => ?_)
  have hI := hI.sw
  exact lv_icmp_eq (tgt := 683) hx hb dL_401 (by decide) (fun _ => E _ _ _ _ h3 hI) (fun hne => absurd rfl hne)
theorem law_c10 (S : lcS p s m c ls G1 G2 σ τ b L k xs i cells slots H locs) (E : lcE p l e s m below meth c ls G1 G2 b k cells slots Q) : W p l e room_1 s m #[Value.ref b] below meth c H locs cells slots Q (F0 m 406 ls []) := by
  obtain ⟨hx, hb, hC, hml, hf, hX, hbl, hi1, hi2, hi3, hl, hI, hk, hv⟩ := S
  have hbA : ¬ (fun q : Nat => s.heap.size ≤ q) b := Nat.not_le.mpr hbl
  obtain ⟨r, σ1, τ1, h1, h2, h3⟩ := op_walk hv (xs (i + 1).toNatClampNeg)
  refine lv_aload_n hx hb dL_406 rfl (lv_at hl 1 rfl) ?_
  refine lv_aload_n hx hb dL_407 rfl (lv_at hl 0 rfl) ?_
  refine lv_iload_n hx hb dL_408 rfl (lv_at hl 3 rfl) ?_
  refine lv_iconst (v := 1) hx hb dL_409 (by decide) ?_
  refine lv_iadd hx hb dL_410 ?_
  refine va_sld hx hb hX hbl hbA hI.2.2 hi1 dL_411 ?_
  refine lq_i (As := [.int (xs (i + 1).toNatClampNeg)]) (rest := []) hx hb hC hml hI (c_X6_walk l G1 h1) yyX6_walk q_ml_L_57 (oX6 G1) rfl ⟨Nat.le_of_ble_eq_true rfl, Nat.le_of_ble_eq_true rfl⟩ rfl rfl (Nat.le_of_ble_eq_true rfl) hf dL_412 (fun H locs hI => ?_)
  refine lv_aload_n hx hb dL_415 rfl (lv_at hl 2 rfl) ?_
  refine lv_aload_n hx hb dL_416 rfl (lv_at hl 0 rfl) ?_
  refine lv_iload_n hx hb dL_417 rfl (lv_at hl 3 rfl) ?_
  refine lv_iconst (v := 1) hx hb dL_418 (by decide) ?_
  refine lv_iadd hx hb dL_419 ?_
  refine va_sld hx hb hX hbl hbA hI.2.2 hi1 dL_420 ?_
  refine lq_i (As := [.int (xs (i + 1).toNatClampNeg)]) (rest := [.int r]) hx hb hC.sw hml hI.sw (c_X7_walk l G2 h2) yyX7_walk q_ml_L_60 (oX7 G2) rfl ⟨Nat.le_of_ble_eq_true rfl, Nat.le_of_ble_eq_true rfl⟩ rfl rfl (Nat.le_of_ble_eq_true rfl) hf dL_421 (fun H locs hI => ?_)
  have hI := hI.sw
  exact lv_icmp_eq (tgt := 683) hx hb dL_424 (by decide) (fun _ => E _ _ _ _ h3 hI) (fun hne => absurd rfl hne)
theorem law_c11 (S : lcS p s m c ls G1 G2 σ τ b L k xs i cells slots H locs) (E : lcE p l e s m below meth c ls G1 G2 b k cells slots Q) : W p l e room_1 s m #[Value.ref b] below meth c H locs cells slots Q (F0 m 429 ls []) := by
  obtain ⟨hx, hb, hC, hml, hf, hX, hbl, hi1, hi2, hi3, hl, hI, hk, hv⟩ := S
  have hbA : ¬ (fun q : Nat => s.heap.size ≤ q) b := Nat.not_le.mpr hbl
  obtain ⟨r, h1, h2, h3⟩ := op_visit hv (xs (i + 1).toNatClampNeg)
  refine lv_aload_n hx hb dL_429 rfl (lv_at hl 1 rfl) ?_
  refine lv_aload_n hx hb dL_430 rfl (lv_at hl 0 rfl) ?_
  refine lv_iload_n hx hb dL_431 rfl (lv_at hl 3 rfl) ?_
  refine lv_iconst (v := 1) hx hb dL_432 (by decide) ?_
  refine lv_iadd hx hb dL_433 ?_
  refine va_sld hx hb hX hbl hbA hI.2.2 hi1 dL_434 ?_
  refine lq_i (As := [.int (xs (i + 1).toNatClampNeg)]) (rest := []) hx hb hC hml hI (c_X6_visit l G1 h1) yyX6_visit q_ml_L_61 (oX6 G1) rfl ⟨Nat.le_of_ble_eq_true rfl, Nat.le_of_ble_eq_true rfl⟩ rfl rfl (Nat.le_of_ble_eq_true rfl) hf dL_435 (fun H locs hI => ?_)
  refine lv_aload_n hx hb dL_438 rfl (lv_at hl 2 rfl) ?_
  refine lv_aload_n hx hb dL_439 rfl (lv_at hl 0 rfl) ?_
  refine lv_iload_n hx hb dL_440 rfl (lv_at hl 3 rfl) ?_
  refine lv_iconst (v := 1) hx hb dL_441 (by decide) ?_
  refine lv_iadd hx hb dL_442 ?_
  refine va_sld hx hb hX hbl hbA hI.2.2 hi1 dL_443 ?_
  refine lq_i (As := [.int (xs (i + 1).toNatClampNeg)]) (rest := [.int r]) hx hb hC.sw hml hI.sw (c_X7_visit l G2 h2) yyX7_visit q_ml_L_64 (oX7 G2) rfl ⟨Nat.le_of_ble_eq_true rfl, Nat.le_of_ble_eq_true rfl⟩ rfl rfl (Nat.le_of_ble_eq_true rfl) hf dL_444 (fun H locs hI => ?_)
  have hI := hI.sw
  exact lv_icmp_eq (tgt := 683) hx hb dL_447 (by decide) (fun _ => E _ _ _ _ h3 hI) (fun hne => absurd rfl hne)
theorem law_c12 (S : lcS p s m c ls G1 G2 σ τ b L k xs i cells slots H locs) (E : lcE p l e s m below meth c ls G1 G2 b k cells slots Q) : W p l e room_1 s m #[Value.ref b] below meth c H locs cells slots Q (F0 m 452 ls []) := by
  obtain ⟨hx, hb, hC, hml, hf, hX, hbl, hi1, hi2, hi3, hl, hI, hk, hv⟩ := S
  have hbA : ¬ (fun q : Nat => s.heap.size ≤ q) b := Nat.not_le.mpr hbl
  obtain ⟨r, τ1, h1, h2, h3⟩ := op_sign hv (xs (i + 1).toNatClampNeg)
  refine lv_aload_n hx hb dL_452 rfl (lv_at hl 1 rfl) ?_
  refine lv_aload_n hx hb dL_453 rfl (lv_at hl 0 rfl) ?_
  refine lv_iload_n hx hb dL_454 rfl (lv_at hl 3 rfl) ?_
  refine lv_iconst (v := 1) hx hb dL_455 (by decide) ?_
  refine lv_iadd hx hb dL_456 ?_
  refine va_sld hx hb hX hbl hbA hI.2.2 hi1 dL_457 ?_
  refine lq_i (As := [.int (xs (i + 1).toNatClampNeg)]) (rest := []) hx hb hC hml hI (c_X6_sign l G1 h1) yyX6_sign q_ml_L_65 (oX6 G1) rfl ⟨Nat.le_of_ble_eq_true rfl, Nat.le_of_ble_eq_true rfl⟩ rfl rfl (Nat.le_of_ble_eq_true rfl) hf dL_458 (fun H locs hI => ?_)
  refine lv_aload_n hx hb dL_461 rfl (lv_at hl 2 rfl) ?_
  refine lv_aload_n hx hb dL_462 rfl (lv_at hl 0 rfl) ?_
  refine lv_iload_n hx hb dL_463 rfl (lv_at hl 3 rfl) ?_
  refine lv_iconst (v := 1) hx hb dL_464 (by decide) ?_
  refine lv_iadd hx hb dL_465 ?_
  refine va_sld hx hb hX hbl hbA hI.2.2 hi1 dL_466 ?_
  refine lq_i (As := [.int (xs (i + 1).toNatClampNeg)]) (rest := [.int r]) hx hb hC.sw hml hI.sw (c_X7_sign l G2 h2) yyX7_sign q_ml_L_68 (oX7 G2) rfl ⟨Nat.le_of_ble_eq_true rfl, Nat.le_of_ble_eq_true rfl⟩ rfl rfl (Nat.le_of_ble_eq_true rfl) hf dL_467 (fun H locs hI => ?_)
  have hI := hI.sw
  exact lv_icmp_eq (tgt := 683) hx hb dL_470 (by decide) (fun _ => E _ _ _ _ h3 hI) (fun hne => absurd rfl hne)
theorem law_c13 (S : lcS p s m c ls G1 G2 σ τ b L k xs i cells slots H locs) (E : lcE p l e s m below meth c ls G1 G2 b k cells slots Q) : W p l e room_1 s m #[Value.ref b] below meth c H locs cells slots Q (F0 m 475 ls []) := by
  obtain ⟨hx, hb, hC, hml, hf, hX, hbl, hi1, hi2, hi3, hl, hI, hk, hv⟩ := S
  have hbA : ¬ (fun q : Nat => s.heap.size ≤ q) b := Nat.not_le.mpr hbl
  obtain ⟨r, τ1, h1, h2, h3⟩ := op_fold hv (xs (i + 1).toNatClampNeg)
  refine lv_aload_n hx hb dL_475 rfl (lv_at hl 1 rfl) ?_
  refine lv_aload_n hx hb dL_476 rfl (lv_at hl 0 rfl) ?_
  refine lv_iload_n hx hb dL_477 rfl (lv_at hl 3 rfl) ?_
  refine lv_iconst (v := 1) hx hb dL_478 (by decide) ?_
  refine lv_iadd hx hb dL_479 ?_
  refine va_sld hx hb hX hbl hbA hI.2.2 hi1 dL_480 ?_
  refine lq_i (As := [.int (xs (i + 1).toNatClampNeg)]) (rest := []) hx hb hC hml hI (c_X6_fold l G1 h1) yyX6_fold q_ml_L_69 (oX6 G1) rfl ⟨Nat.le_of_ble_eq_true rfl, Nat.le_of_ble_eq_true rfl⟩ rfl rfl (Nat.le_of_ble_eq_true rfl) hf dL_481 (fun H locs hI => ?_)
  refine lv_aload_n hx hb dL_484 rfl (lv_at hl 2 rfl) ?_
  refine lv_aload_n hx hb dL_485 rfl (lv_at hl 0 rfl) ?_
  refine lv_iload_n hx hb dL_486 rfl (lv_at hl 3 rfl) ?_
  refine lv_iconst (v := 1) hx hb dL_487 (by decide) ?_
  refine lv_iadd hx hb dL_488 ?_
  refine va_sld hx hb hX hbl hbA hI.2.2 hi1 dL_489 ?_
  refine lq_i (As := [.int (xs (i + 1).toNatClampNeg)]) (rest := [.int r]) hx hb hC.sw hml hI.sw (c_X7_fold l G2 h2) yyX7_fold q_ml_L_72 (oX7 G2) rfl ⟨Nat.le_of_ble_eq_true rfl, Nat.le_of_ble_eq_true rfl⟩ rfl rfl (Nat.le_of_ble_eq_true rfl) hf dL_490 (fun H locs hI => ?_)
  have hI := hI.sw
  exact lv_icmp_eq (tgt := 683) hx hb dL_493 (by decide) (fun _ => E _ _ _ _ h3 hI) (fun hne => absurd rfl hne)
theorem law_c14 (S : lcS p s m c ls G1 G2 σ τ b L k xs i cells slots H locs) (E : lcE p l e s m below meth c ls G1 G2 b k cells slots Q) : W p l e room_1 s m #[Value.ref b] below meth c H locs cells slots Q (F0 m 498 ls []) := by
  obtain ⟨hx, hb, hC, hml, hf, hX, hbl, hi1, hi2, hi3, hl, hI, hk, hv⟩ := S
  have hbA : ¬ (fun q : Nat => s.heap.size ≤ q) b := Nat.not_le.mpr hbl
  obtain ⟨r, σ1, τ1, h1, h2, h3⟩ := op_mend hv (xs (i + 1).toNatClampNeg)
  refine lv_aload_n hx hb dL_498 rfl (lv_at hl 1 rfl) ?_
  refine lv_aload_n hx hb dL_499 rfl (lv_at hl 0 rfl) ?_
  refine lv_iload_n hx hb dL_500 rfl (lv_at hl 3 rfl) ?_
  refine lv_iconst (v := 1) hx hb dL_501 (by decide) ?_
  refine lv_iadd hx hb dL_502 ?_
  refine va_sld hx hb hX hbl hbA hI.2.2 hi1 dL_503 ?_
  refine lq_i (As := [.int (xs (i + 1).toNatClampNeg)]) (rest := []) hx hb hC hml hI (c_X6_mend l G1 h1) yyX6_mend q_ml_L_73 (oX6 G1) rfl ⟨Nat.le_of_ble_eq_true rfl, Nat.le_of_ble_eq_true rfl⟩ rfl rfl (Nat.le_of_ble_eq_true rfl) hf dL_504 (fun H locs hI => ?_)
  refine lv_aload_n hx hb dL_507 rfl (lv_at hl 2 rfl) ?_
  refine lv_aload_n hx hb dL_508 rfl (lv_at hl 0 rfl) ?_
  refine lv_iload_n hx hb dL_509 rfl (lv_at hl 3 rfl) ?_
  refine lv_iconst (v := 1) hx hb dL_510 (by decide) ?_
  refine lv_iadd hx hb dL_511 ?_
  refine va_sld hx hb hX hbl hbA hI.2.2 hi1 dL_512 ?_
  refine lq_i (As := [.int (xs (i + 1).toNatClampNeg)]) (rest := [.int r]) hx hb hC.sw hml hI.sw (c_X7_mend l G2 h2) yyX7_mend q_ml_L_76 (oX7 G2) rfl ⟨Nat.le_of_ble_eq_true rfl, Nat.le_of_ble_eq_true rfl⟩ rfl rfl (Nat.le_of_ble_eq_true rfl) hf dL_513 (fun H locs hI => ?_)
  have hI := hI.sw
  exact lv_icmp_eq (tgt := 683) hx hb dL_516 (by decide) (fun _ => E _ _ _ _ h3 hI) (fun hne => absurd rfl hne)
theorem law_c15 (S : lcS p s m c ls G1 G2 σ τ b L k xs i cells slots H locs) (E : lcE p l e s m below meth c ls G1 G2 b k cells slots Q) : W p l e room_1 s m #[Value.ref b] below meth c H locs cells slots Q (F0 m 521 ls []) := by
  obtain ⟨hx, hb, hC, hml, hf, hX, hbl, hi1, hi2, hi3, hl, hI, hk, hv⟩ := S
  have hbA : ¬ (fun q : Nat => s.heap.size ≤ q) b := Nat.not_le.mpr hbl
  obtain ⟨r, σ1, τ1, h1, h2, h3⟩ := op_see hv (xs (i + 1).toNatClampNeg) (xs (i + 2).toNatClampNeg) (xs (i + 3).toNatClampNeg)
  refine lv_aload_n hx hb dL_521 rfl (lv_at hl 1 rfl) ?_
  refine lv_aload_n hx hb dL_522 rfl (lv_at hl 0 rfl) ?_
  refine lv_iload_n hx hb dL_523 rfl (lv_at hl 3 rfl) ?_
  refine lv_iconst (v := 1) hx hb dL_524 (by decide) ?_
  refine lv_iadd hx hb dL_525 ?_
  refine va_sld hx hb hX hbl hbA hI.2.2 hi1 dL_526 ?_
  refine lv_aload_n hx hb dL_527 rfl (lv_at hl 0 rfl) ?_
  refine lv_iload_n hx hb dL_528 rfl (lv_at hl 3 rfl) ?_
  refine lv_iconst (v := 2) hx hb dL_529 (by decide) ?_
  refine lv_iadd hx hb dL_530 ?_
  refine va_sld hx hb hX hbl hbA hI.2.2 hi2 dL_531 ?_
  refine lv_aload_n hx hb dL_532 rfl (lv_at hl 0 rfl) ?_
  refine lv_iload_n hx hb dL_533 rfl (lv_at hl 3 rfl) ?_
  refine lv_iconst (v := 3) hx hb dL_534 (by decide) ?_
  refine lv_iadd hx hb dL_535 ?_
  refine va_sld hx hb hX hbl hbA hI.2.2 hi3 dL_536 ?_
  refine lq_i (As := [.int (xs (i + 1).toNatClampNeg), .int (xs (i + 2).toNatClampNeg), .int (xs (i + 3).toNatClampNeg)]) (rest := []) hx hb hC hml hI (c_X6_see l G1 h1) yyX6_see q_ml_L_77 (oX6 G1) rfl ⟨Nat.le_of_ble_eq_true rfl, Nat.le_of_ble_eq_true rfl⟩ rfl rfl (Nat.le_of_ble_eq_true rfl) hf dL_537 (fun H locs hI => ?_)
  refine lv_aload_n hx hb dL_540 rfl (lv_at hl 2 rfl) ?_
  refine lv_aload_n hx hb dL_541 rfl (lv_at hl 0 rfl) ?_
  refine lv_iload_n hx hb dL_542 rfl (lv_at hl 3 rfl) ?_
  refine lv_iconst (v := 1) hx hb dL_543 (by decide) ?_
  refine lv_iadd hx hb dL_544 ?_
  refine va_sld hx hb hX hbl hbA hI.2.2 hi1 dL_545 ?_
  refine lv_aload_n hx hb dL_546 rfl (lv_at hl 0 rfl) ?_
  refine lv_iload_n hx hb dL_547 rfl (lv_at hl 3 rfl) ?_
  refine lv_iconst (v := 2) hx hb dL_548 (by decide) ?_
  refine lv_iadd hx hb dL_549 ?_
  refine va_sld hx hb hX hbl hbA hI.2.2 hi2 dL_550 ?_
  refine lv_aload_n hx hb dL_551 rfl (lv_at hl 0 rfl) ?_
  refine lv_iload_n hx hb dL_552 rfl (lv_at hl 3 rfl) ?_
  refine lv_iconst (v := 3) hx hb dL_553 (by decide) ?_
  refine lv_iadd hx hb dL_554 ?_
  refine va_sld hx hb hX hbl hbA hI.2.2 hi3 dL_555 ?_
  refine lq_i (As := [.int (xs (i + 1).toNatClampNeg), .int (xs (i + 2).toNatClampNeg), .int (xs (i + 3).toNatClampNeg)]) (rest := [.int r]) hx hb hC.sw hml hI.sw (c_X7_see l G2 h2) yyX7_see q_ml_L_80 (oX7 G2) rfl ⟨Nat.le_of_ble_eq_true rfl, Nat.le_of_ble_eq_true rfl⟩ rfl rfl (Nat.le_of_ble_eq_true rfl) hf dL_556 (fun H locs hI => ?_)
  have hI := hI.sw
  exact lv_icmp_eq (tgt := 683) hx hb dL_559 (by decide) (fun _ => E _ _ _ _ h3 hI) (fun hne => absurd rfl hne)
theorem law_c16 (S : lcS p s m c ls G1 G2 σ τ b L k xs i cells slots H locs) (E : lcE p l e s m below meth c ls G1 G2 b k cells slots Q) : W p l e room_1 s m #[Value.ref b] below meth c H locs cells slots Q (F0 m 564 ls []) := by
  obtain ⟨hx, hb, hC, hml, hf, hX, hbl, hi1, hi2, hi3, hl, hI, hk, hv⟩ := S
  have hbA : ¬ (fun q : Nat => s.heap.size ≤ q) b := Nat.not_le.mpr hbl
  obtain ⟨r, σ1, τ1, h1, h2, h3⟩ := op_forget hv
  refine lv_aload_n hx hb dL_564 rfl (lv_at hl 1 rfl) ?_
  refine lq_i (As := []) (rest := []) hx hb hC hml hI (c_X6_forget l G1 h1) yyX6_forget q_ml_L_81 (oX6 G1) rfl ⟨Nat.le_of_ble_eq_true rfl, Nat.le_of_ble_eq_true rfl⟩ rfl rfl (Nat.le_of_ble_eq_true rfl) hf dL_565 (fun H locs hI => ?_)
  refine lv_aload_n hx hb dL_568 rfl (lv_at hl 2 rfl) ?_
  refine lq_i (As := []) (rest := [.int r]) hx hb hC.sw hml hI.sw (c_X7_forget l G2 h2) yyX7_forget q_ml_L_84 (oX7 G2) rfl ⟨Nat.le_of_ble_eq_true rfl, Nat.le_of_ble_eq_true rfl⟩ rfl rfl (Nat.le_of_ble_eq_true rfl) hf dL_569 (fun H locs hI => ?_)
  have hI := hI.sw
  exact lv_icmp_eq (tgt := 683) hx hb dL_572 (by decide) (fun _ => E _ _ _ _ h3 hI) (fun hne => absurd rfl hne)
theorem law_c17 (S : lcS p s m c ls G1 G2 σ τ b L k xs i cells slots H locs) (E : lcE p l e s m below meth c ls G1 G2 b k cells slots Q) : W p l e room_1 s m #[Value.ref b] below meth c H locs cells slots Q (F0 m 577 ls []) := by
  obtain ⟨hx, hb, hC, hml, hf, hX, hbl, hi1, hi2, hi3, hl, hI, hk, hv⟩ := S
  have hbA : ¬ (fun q : Nat => s.heap.size ≤ q) b := Nat.not_le.mpr hbl
  obtain ⟨r, σ1, τ1, h1, h2, h3⟩ := op_drawn hv (xs (i + 1).toNatClampNeg) (xs (i + 2).toNatClampNeg) (xs (i + 3).toNatClampNeg)
  refine lv_aload_n hx hb dL_577 rfl (lv_at hl 1 rfl) ?_
  refine lv_aload_n hx hb dL_578 rfl (lv_at hl 0 rfl) ?_
  refine lv_iload_n hx hb dL_579 rfl (lv_at hl 3 rfl) ?_
  refine lv_iconst (v := 1) hx hb dL_580 (by decide) ?_
  refine lv_iadd hx hb dL_581 ?_
  refine va_sld hx hb hX hbl hbA hI.2.2 hi1 dL_582 ?_
  refine lv_aload_n hx hb dL_583 rfl (lv_at hl 0 rfl) ?_
  refine lv_iload_n hx hb dL_584 rfl (lv_at hl 3 rfl) ?_
  refine lv_iconst (v := 2) hx hb dL_585 (by decide) ?_
  refine lv_iadd hx hb dL_586 ?_
  refine va_sld hx hb hX hbl hbA hI.2.2 hi2 dL_587 ?_
  refine lv_aload_n hx hb dL_588 rfl (lv_at hl 0 rfl) ?_
  refine lv_iload_n hx hb dL_589 rfl (lv_at hl 3 rfl) ?_
  refine lv_iconst (v := 3) hx hb dL_590 (by decide) ?_
  refine lv_iadd hx hb dL_591 ?_
  refine va_sld hx hb hX hbl hbA hI.2.2 hi3 dL_592 ?_
  refine lq_i (As := [.int (xs (i + 1).toNatClampNeg), .int (xs (i + 2).toNatClampNeg), .int (xs (i + 3).toNatClampNeg)]) (rest := []) hx hb hC hml hI (c_X6_drawn l G1 h1) yyX6_drawn q_ml_L_85 (oX6 G1) rfl ⟨Nat.le_of_ble_eq_true rfl, Nat.le_of_ble_eq_true rfl⟩ rfl rfl (Nat.le_of_ble_eq_true rfl) hf dL_593 (fun H locs hI => ?_)
  refine lv_aload_n hx hb dL_596 rfl (lv_at hl 2 rfl) ?_
  refine lv_aload_n hx hb dL_597 rfl (lv_at hl 0 rfl) ?_
  refine lv_iload_n hx hb dL_598 rfl (lv_at hl 3 rfl) ?_
  refine lv_iconst (v := 1) hx hb dL_599 (by decide) ?_
  refine lv_iadd hx hb dL_600 ?_
  refine va_sld hx hb hX hbl hbA hI.2.2 hi1 dL_601 ?_
  refine lv_aload_n hx hb dL_602 rfl (lv_at hl 0 rfl) ?_
  refine lv_iload_n hx hb dL_603 rfl (lv_at hl 3 rfl) ?_
  refine lv_iconst (v := 2) hx hb dL_604 (by decide) ?_
  refine lv_iadd hx hb dL_605 ?_
  refine va_sld hx hb hX hbl hbA hI.2.2 hi2 dL_606 ?_
  refine lv_aload_n hx hb dL_607 rfl (lv_at hl 0 rfl) ?_
  refine lv_iload_n hx hb dL_608 rfl (lv_at hl 3 rfl) ?_
  refine lv_iconst (v := 3) hx hb dL_609 (by decide) ?_
  refine lv_iadd hx hb dL_610 ?_
  refine va_sld hx hb hX hbl hbA hI.2.2 hi3 dL_611 ?_
  refine lq_i (As := [.int (xs (i + 1).toNatClampNeg), .int (xs (i + 2).toNatClampNeg), .int (xs (i + 3).toNatClampNeg)]) (rest := [.int r]) hx hb hC.sw hml hI.sw (c_X7_drawn l G2 h2) yyX7_drawn q_ml_L_88 (oX7 G2) rfl ⟨Nat.le_of_ble_eq_true rfl, Nat.le_of_ble_eq_true rfl⟩ rfl rfl (Nat.le_of_ble_eq_true rfl) hf dL_612 (fun H locs hI => ?_)
  have hI := hI.sw
  exact lv_icmp_eq (tgt := 683) hx hb dL_615 (by decide) (fun _ => E _ _ _ _ h3 hI) (fun hne => absurd rfl hne)
theorem law_c18 (S : lcS p s m c ls G1 G2 σ τ b L k xs i cells slots H locs) (E : lcE p l e s m below meth c ls G1 G2 b k cells slots Q) : W p l e room_1 s m #[Value.ref b] below meth c H locs cells slots Q (F0 m 620 ls []) := by
  obtain ⟨hx, hb, hC, hml, hf, hX, hbl, hi1, hi2, hi3, hl, hI, hk, hv⟩ := S
  have hbA : ¬ (fun q : Nat => s.heap.size ≤ q) b := Nat.not_le.mpr hbl
  obtain ⟨r, σ1, τ1, h1, h2, h3⟩ := op_image hv
  refine lv_aload_n hx hb dL_620 rfl (lv_at hl 1 rfl) ?_
  refine lq_i (As := []) (rest := []) hx hb hC hml hI (c_X6_image l G1 h1) yyX6_image q_ml_L_89 (oX6 G1) rfl ⟨Nat.le_of_ble_eq_true rfl, Nat.le_of_ble_eq_true rfl⟩ rfl rfl (Nat.le_of_ble_eq_true rfl) hf dL_621 (fun H locs hI => ?_)
  refine lv_aload_n hx hb dL_624 rfl (lv_at hl 2 rfl) ?_
  refine lq_i (As := []) (rest := [.int r]) hx hb hC.sw hml hI.sw (c_X7_image l G2 h2) yyX7_image q_ml_L_92 (oX7 G2) rfl ⟨Nat.le_of_ble_eq_true rfl, Nat.le_of_ble_eq_true rfl⟩ rfl rfl (Nat.le_of_ble_eq_true rfl) hf dL_625 (fun H locs hI => ?_)
  have hI := hI.sw
  exact lv_icmp_eq (tgt := 683) hx hb dL_628 (by decide) (fun _ => E _ _ _ _ h3 hI) (fun hne => absurd rfl hne)
theorem law_c19 (S : lcS p s m c ls G1 G2 σ τ b L k xs i cells slots H locs) (E : lcE p l e s m below meth c ls G1 G2 b k cells slots Q) : W p l e room_1 s m #[Value.ref b] below meth c H locs cells slots Q (F0 m 633 ls []) := by
  obtain ⟨hx, hb, hC, hml, hf, hX, hbl, hi1, hi2, hi3, hl, hI, hk, hv⟩ := S
  have hbA : ¬ (fun q : Nat => s.heap.size ≤ q) b := Nat.not_le.mpr hbl
  obtain ⟨r, σ1, τ1, h1, h2, h3⟩ := op_restore hk hv
  refine lv_aload_n hx hb dL_633 rfl (lv_at hl 1 rfl) ?_
  refine lq_i (As := []) (rest := []) hx hb hC hml hI (c_X6_restore l G1 h1) yyX6_restore q_ml_L_93 (oX6 G1) rfl ⟨Nat.le_of_ble_eq_true rfl, Nat.le_of_ble_eq_true rfl⟩ rfl rfl (Nat.le_of_ble_eq_true rfl) hf dL_634 (fun H locs hI => ?_)
  refine lv_aload_n hx hb dL_637 rfl (lv_at hl 2 rfl) ?_
  refine lq_i (As := []) (rest := [.int r]) hx hb hC.sw hml hI.sw (c_X7_restore l G2 h2) yyX7_restore q_ml_L_96 (oX7 G2) rfl ⟨Nat.le_of_ble_eq_true rfl, Nat.le_of_ble_eq_true rfl⟩ rfl rfl (Nat.le_of_ble_eq_true rfl) hf dL_638 (fun H locs hI => ?_)
  have hI := hI.sw
  exact lv_icmp_eq (tgt := 683) hx hb dL_641 (by decide) (fun _ => E _ _ _ _ h3 hI) (fun hne => absurd rfl hne)
theorem law_c20 (S : lcS p s m c ls G1 G2 σ τ b L k xs i cells slots H locs) (E : lcE p l e s m below meth c ls G1 G2 b k cells slots Q) : W p l e room_1 s m #[Value.ref b] below meth c H locs cells slots Q (F0 m 646 ls []) := by
  obtain ⟨hx, hb, hC, hml, hf, hX, hbl, hi1, hi2, hi3, hl, hI, hk, hv⟩ := S
  have hbA : ¬ (fun q : Nat => s.heap.size ≤ q) b := Nat.not_le.mpr hbl
  obtain ⟨r, τ1, h1, h2, h3⟩ := op_count hv (xs (i + 1).toNatClampNeg)
  refine lv_aload_n hx hb dL_646 rfl (lv_at hl 1 rfl) ?_
  refine lv_aload_n hx hb dL_647 rfl (lv_at hl 0 rfl) ?_
  refine lv_iload_n hx hb dL_648 rfl (lv_at hl 3 rfl) ?_
  refine lv_iconst (v := 1) hx hb dL_649 (by decide) ?_
  refine lv_iadd hx hb dL_650 ?_
  refine va_sld hx hb hX hbl hbA hI.2.2 hi1 dL_651 ?_
  refine lq_i (As := [.int (xs (i + 1).toNatClampNeg)]) (rest := []) hx hb hC hml hI (c_X6_count l G1 h1) yyX6_count q_ml_L_97 (oX6 G1) rfl ⟨Nat.le_of_ble_eq_true rfl, Nat.le_of_ble_eq_true rfl⟩ rfl rfl (Nat.le_of_ble_eq_true rfl) hf dL_652 (fun H locs hI => ?_)
  refine lv_aload_n hx hb dL_655 rfl (lv_at hl 2 rfl) ?_
  refine lv_aload_n hx hb dL_656 rfl (lv_at hl 0 rfl) ?_
  refine lv_iload_n hx hb dL_657 rfl (lv_at hl 3 rfl) ?_
  refine lv_iconst (v := 1) hx hb dL_658 (by decide) ?_
  refine lv_iadd hx hb dL_659 ?_
  refine va_sld hx hb hX hbl hbA hI.2.2 hi1 dL_660 ?_
  refine lq_i (As := [.int (xs (i + 1).toNatClampNeg)]) (rest := [.int r]) hx hb hC.sw hml hI.sw (c_X7_count l G2 h2) yyX7_count q_ml_L_100 (oX7 G2) rfl ⟨Nat.le_of_ble_eq_true rfl, Nat.le_of_ble_eq_true rfl⟩ rfl rfl (Nat.le_of_ble_eq_true rfl) hf dL_661 (fun H locs hI => ?_)
  have hI := hI.sw
  exact lv_icmp_eq (tgt := 683) hx hb dL_664 (by decide) (fun _ => E _ _ _ _ h3 hI) (fun hne => absurd rfl hne)
theorem law_c21 (S : lcS p s m c ls G1 G2 σ τ b L k xs i cells slots H locs) (E : lcE p l e s m below meth c ls G1 G2 b k cells slots Q) : W p l e room_1 s m #[Value.ref b] below meth c H locs cells slots Q (F0 m 669 ls []) := by
  obtain ⟨hx, hb, hC, hml, hf, hX, hbl, hi1, hi2, hi3, hl, hI, hk, hv⟩ := S
  have hbA : ¬ (fun q : Nat => s.heap.size ≤ q) b := Nat.not_le.mpr hbl
  obtain ⟨r, τ1, h1, h2, h3⟩ := op_digest hv
  refine lv_aload_n hx hb dL_669 rfl (lv_at hl 1 rfl) ?_
  refine lq_l (As := []) (rest := []) hx hb hC hml hI (c_X6_digest l G1 h1) yyX6_digest q_ml_L_101 (oX6 G1) rfl ⟨Nat.le_of_ble_eq_true rfl, Nat.le_of_ble_eq_true rfl⟩ rfl rfl (Nat.le_of_ble_eq_true rfl) hf dL_670 (fun H locs hI => ?_)
  refine lv_aload_n hx hb dL_673 rfl (lv_at hl 2 rfl) ?_
  refine lq_l (As := []) (rest := [.long r]) hx hb hC.sw hml hI.sw (c_X7_digest l G2 h2) yyX7_digest q_ml_L_105 (oX7 G2) rfl ⟨Nat.le_of_ble_eq_true rfl, Nat.le_of_ble_eq_true rfl⟩ rfl rfl (Nat.le_of_ble_eq_true rfl) hf dL_674 (fun H locs hI => ?_)
  have hI := hI.sw
  refine W.lcmp hx hb dL_677 ?_
  exact lv_if_eq (tgt := 683) hx hb dL_678 (by decide) (fun _ => E _ _ _ _ h3 hI) (fun hne => absurd (lc_cmp r) hne)
end LC
