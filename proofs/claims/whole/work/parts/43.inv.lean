/-! WHAT THE TWO MEMORIES HAVE TO DO WITH EACH OTHER -/
/-- the signs that are kept -/
def SGs (σ : SF) (t : St) : Prop := σ 13 3 = nI t.1.length ∧ σ 13 4 = nI t.2.1 ∧ σ 13 5 = nI t.2.2.1 ∧ σ 13 6 = nI t.2.2.2.1 ∧ STK (σ 14) t.1 ∧ t.1.length ≤ 72
def IG (σ τ : SF) (n : Nat) (kd f0 f1 : Nat → Nat) : Prop := gwf n kd f0 f1 ∧ JIs σ 3 n kd f0 f1 ∧ RIs τ n kd f0 f1 ∧ (0 < n → FlowIs σ 3 (mkG n kd f0 f1 0) ∧ SGs σ (FT (mkG n kd f0 f1 0) kd)) ∧ (n = 0 → σ 7 6 = 0 ∧ σ 7 8 = 0 ∧ σ 7 9 = 0 ∧ σ 7 10 = 0 ∧ σ 7 11 = 0 ∧ σ 7 12 = 0 ∧ σ 13 3 = 0)
def IS (σ τ : SF) (s : Nat) (nd vs dd : Nat → Nat) : Prop := SIs (σ 19 0) (σ 20) (σ 21) (σ 22) s nd vs dd ∧ SIs (τ 0 7) (τ 4) (τ 5) (τ 6) s nd vs dd ∧ SOk s nd vs dd
def IP (σ τ : SF) (L : Nat) (pg : Nat → Nat) : Prop := PIs (σ 1 1) (σ 2) L pg ∧ PIs (τ 0 11) (τ 7) L pg ∧ POk L pg
def IW (σ τ : SF) (K : Nat) : Prop := K ≤ 30 ∧ σ 16 1 = nI K ∧ τ 0 4 = nI K ∧ ∀ i, i < K → σ 17 i = τ 3 i
def IM (σ τ : SF) (k m r : Nat) : Prop := m ≤ 5 ∧ σ 0 12 = nI m ∧ τ 0 6 = nI m ∧ r ≤ k ∧ σ 0 11 = nI r ∧ τ 0 0 = nI r
def IK (σ τ : SF) (n r : Nat) : Prop := (σ 0 10 = 0 ∧ (τ 0 46 = 0 ∨ (τ 0 46 = 1 ∧ ∃ r', r' < r ∧ τ 0 47 = nI r'))) ∨ (σ 0 10 = 1 ∧ τ 0 46 = 1 ∧ τ 0 47 = nI r ∧ 0 < n ∧ (∃ kd f0 f1, gwf n kd f0 f1 ∧ JIs σ 23 n kd f0 f1 ∧ ∀ v, v < n → τ 22 v = nI (kd v) ∧ τ 23 (2 * v) = nI (f0 v) ∧ τ 23 (2 * v + 1) = nI (f1 v)) ∧ ∃ s nd vs dd, SIs (σ 27 0) (σ 28) (σ 29) (σ 30) s nd vs dd ∧ SIs (τ 0 48) (τ 24) (τ 25) (τ 26) s nd vs dd ∧ SOk s nd vs dd)
def Inv (k : Nat) (σ τ : SF) : Prop := ∃ n kd f0 f1 s nd vs dd L pg K m r, IG σ τ n kd f0 f1 ∧ IS σ τ s nd vs dd ∧ IP σ τ L pg ∧ IW σ τ K ∧ IM σ τ k m r ∧ IK σ τ n r
section FR
variable {σ σ' τ τ' : SF}
theorem IG.fr {n : Nat} {kd f0 f1 : Nat → Nat} (h : IG σ τ n kd f0 f1) (hS : ∀ c, 3 ≤ c → c ≤ 14 → σ' c = σ c) (h0 : τ' 0 1 = τ 0 1) (h1 : τ' 1 = τ 1) (h2 : τ' 2 = τ 2) : IG σ' τ' n kd f0 f1 := by
  unfold IG JIs RIs FlowIs SGs at *
  rw [hS 3 (by decide) (by decide), hS (3 + 1) (by decide) (by decide), hS (3 + 2) (by decide) (by decide), hS (3 + 3) (by decide) (by decide), hS (3 + 4) (by decide) (by decide), hS (3 + 6) (by decide) (by decide), hS (3 + 7) (by decide) (by decide), hS (3 + 8) (by decide) (by decide), hS (3 + 9) (by decide) (by decide), hS 13 (by decide) (by decide), hS 14 (by decide) (by decide), h0, h1, h2]
  exact h
theorem IS.fr {s : Nat} {nd vs dd : Nat → Nat} (h : IS σ τ s nd vs dd) (hS : ∀ c, 19 ≤ c → c ≤ 22 → σ' c = σ c) (h7 : τ' 0 7 = τ 0 7) (hT : ∀ c, 4 ≤ c → c ≤ 6 → τ' c = τ c) : IS σ' τ' s nd vs dd := by
  unfold IS at *
  rw [hS 19 (by decide) (by decide), hS 20 (by decide) (by decide), hS 21 (by decide) (by decide), hS 22 (by decide) (by decide), h7, hT 4 (by decide) (by decide), hT 5 (by decide) (by decide), hT 6 (by decide) (by decide)]
  exact h
theorem IP.fr {L : Nat} {pg : Nat → Nat} (h : IP σ τ L pg) (h1 : σ' 1 1 = σ 1 1) (h2 : σ' 2 = σ 2) (h3 : τ' 0 11 = τ 0 11) (h4 : τ' 7 = τ 7) : IP σ' τ' L pg := by
  unfold IP at *
  rw [h1, h2, h3, h4]
  exact h
theorem IW.fr {K : Nat} (h : IW σ τ K) (h1 : σ' 16 1 = σ 16 1) (h2 : σ' 17 = σ 17) (h3 : τ' 0 4 = τ 0 4) (h4 : τ' 3 = τ 3) : IW σ' τ' K := by
  unfold IW at *
  rw [h1, h2, h3, h4]
  exact h
theorem IM.fr {k k' m r : Nat} (h : IM σ τ k m r) (hk : k ≤ k') (h1 : σ' 0 12 = σ 0 12) (h2 : σ' 0 11 = σ 0 11) (h3 : τ' 0 6 = τ 0 6) (h4 : τ' 0 0 = τ 0 0) : IM σ' τ' k' m r := by
  unfold IM at *
  rw [h1, h2, h3, h4]
  exact ⟨h.1, h.2.1, h.2.2.1, by omega, h.2.2.2.2⟩
theorem IK.fr {n r : Nat} (h : IK σ τ n r) (h0 : σ' 0 10 = σ 0 10) (hS : ∀ c, 23 ≤ c → c ≤ 30 → σ' c = σ c) (h1 : τ' 0 46 = τ 0 46) (h2 : τ' 0 47 = τ 0 47) (h3 : τ' 0 48 = τ 0 48) (hT : ∀ c, 22 ≤ c → c ≤ 26 → τ' c = τ c) : IK σ' τ' n r := by
  unfold IK JIs at *
  rw [h0, hS 23 (by decide) (by decide), hS (23 + 1) (by decide) (by decide), hS (23 + 2) (by decide) (by decide), hS (23 + 3) (by decide) (by decide), hS 27 (by decide) (by decide), hS 28 (by decide) (by decide), hS 29 (by decide) (by decide), hS 30 (by decide) (by decide), h1, h2, h3, hT 22 (by decide) (by decide), hT 23 (by decide) (by decide), hT 24 (by decide) (by decide), hT 25 (by decide) (by decide), hT 26 (by decide) (by decide)]
  exact h
theorem Inv.fr {k k' : Nat} (h : Inv k σ τ) (hk : k ≤ k') (hS : ∀ c, c < 31 → σ' c = σ c) (hK : Kp τ τ') : Inv k' σ' τ' := by
  obtain ⟨n, kd, f0, f1, s, nd, vs, dd, L, pg, K, m, r, a1, a2, a3, a4, a5, a6⟩ := h
  refine ⟨n, kd, f0, f1, s, nd, vs, dd, L, pg, K, m, r, a1.fr (fun c _ _ => hS c (by omega)) (hK.2 1 (by omega)) (hK.1 1 (by omega)) (hK.1 2 (by omega)), a2.fr (fun c _ _ => hS c (by omega)) (hK.2 7 (by omega)) (fun c _ _ => hK.1 c (by omega)), a3.fr (by rw [hS 1 (by decide)]) (hS 2 (by decide)) (hK.2 11 (by omega)) (hK.1 7 (by omega)), a4.fr (by rw [hS 16 (by decide)]) (hS 17 (by decide)) (hK.2 4 (by omega)) (hK.1 3 (by omega)), a5.fr hk (by rw [hS 0 (by decide)]) (by rw [hS 0 (by decide)]) (hK.2 6 (by omega)) (hK.2 0 (by omega)), a6.fr (by rw [hS 0 (by decide)]) (fun c _ _ => hS c (by omega)) (hK.2 46 (by omega)) (hK.2 47 (by omega)) (hK.2 48 (by omega)) (fun c _ _ => hK.1 c (by omega))⟩
theorem Inv.step {k : Nat} (h : Inv k σ τ) (hK : Kp τ τ') : Inv (k + 1) σ τ' := h.fr (by omega) (fun _ _ => rfl) hK
end FR
/-- whether there is such a node -/
theorem node_any {σ τ : SF} {n : Nat} {kd f0 f1 : Nat → Nat} (h : IG σ τ n kd f0 f1) (x : Int32) : (∃ v, v < n ∧ x = nI v ∧ F_X1_has σ 3 x = some 1 ∧ F_X7_isNode τ x = some 1) ∨ (F_X1_has σ 3 x = some 0 ∧ F_X7_isNode τ x = some 0) := by
  have hn := h.1.1
  unfold F_X7_isNode
  rw [within_eq, h.2.2.1.1]
  rcases F_has_any h.2.1.1 (show n < 2 ^ 31 by omega) x with ⟨v, h1, h2, h3⟩ | ⟨h1, h2⟩
  · left
    refine ⟨v, h1, h2, h3, ?_⟩
    have e : nI n - 1 = nI (n - 1) := by rw [nl_1, pk_sub (by omega)]
    rw [h2, e, if_neg (fun z => z.elim (nI_pos (by omega)) (nI_nlt (by omega) (by omega))), zb_q, zg_q (by decide)]
  · right
    refine ⟨h2, ?_⟩
    have hc : x < 0 ∨ nI n - 1 < x := by
      rcases h1 with q | q
      · exact Or.inl q
      · by_cases q0 : x < 0
        · exact Or.inl q0
        · right
          obtain ⟨j, j1, rfl⟩ := nI_of q0
          have hnj : n ≤ j := (nI_leI (by omega) j1).mp q
          by_cases z : n = 0
          · subst z
            have e : nI 0 - 1 = -1 := by decide
            rw [e, Int32.lt_iff_toInt_lt, nI_toInt j1]
            have : (-1 : Int32).toInt = -1 := rfl
            omega
          · have e : nI n - 1 = nI (n - 1) := by rw [nl_1, pk_sub (by omega)]
            rw [e]
            exact nI_lt (by omega) j1
    rw [if_pos hc, zb_q, zg_q (by decide)]
