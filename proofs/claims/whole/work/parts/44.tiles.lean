/-! node -/
theorem lp_addNode (N : Nat) {nn : Nat} (hnn : nn ≤ 8) : ∀ (d n i : Nat) (σ : St), σ.1 15 = nI nn → i + d = nn → d < n → (∀ v, v < i → σ.2.1 15 v = nI v) → ∃ σ1, lp_X5_addNode_23 N n σ (nI i) = some (nI nn - 1, σ1) ∧ O1 15 σ σ1 ∧ ∀ v, v < nn → σ1.2.1 15 v = nI v := by
  intro d
  induction d with
  | zero =>
    intro n i σ h15 hi hn hv
    obtain ⟨n, rfl⟩ : ∃ m, n = m + 1 := ⟨n - 1, by omega⟩
    exact ⟨σ, by rw [lp_X5_addNode_23, h15, if_pos (nI_le (by omega) (by omega))], O1.rf, fun v hv' => hv v (by omega)⟩
  | succ d ih =>
    intro n i σ h15 hi hn hv
    obtain ⟨n, rfl⟩ : ∃ m, n = m + 1 := ⟨n - 1, by omega⟩
    obtain ⟨σ1, e1, e2, e3⟩ := ih n (i + 1) (sA σ 15 (nI i) (nI i)) h15 (by omega) (by omega) (fun v hv' => by
      rw [sA_21 σ 15 i v _ 15 (by omega)]
      by_cases e : v = i
      · rw [if_pos ⟨rfl, e⟩, e]
      · rw [if_neg (fun q => e q.2)]; exact hv v (by omega))
    refine ⟨σ1, ?_, (O1.sA _ _).tr e2, e3⟩
    rw [lp_X5_addNode_23, h15, if_neg (nI_ge (by omega) (by omega)), gd_t (okx_nI (by omega) (by omega)), nm_eq, nm_eq, nI_1]
    exact e1
theorem lp_nodeR (N : Nat) {nn : Nat} (hnn : nn ≤ 8) : ∀ (d n i : Nat) (σ : St), σ.1 9 = nI nn → i + d = nn → d < n → (∀ v, v < i → σ.2.1 14 v = nI v) → ∃ σ1, lp_X7_node_28 N n σ (nI i) = some (nI nn - 1, σ1) ∧ O1 14 σ σ1 ∧ ∀ v, v < nn → σ1.2.1 14 v = nI v := by
  intro d
  induction d with
  | zero =>
    intro n i σ h15 hi hn hv
    obtain ⟨n, rfl⟩ : ∃ m, n = m + 1 := ⟨n - 1, by omega⟩
    exact ⟨σ, by rw [lp_X7_node_28, h15, if_pos (nI_le (by omega) (by omega))], O1.rf, fun v hv' => hv v (by omega)⟩
  | succ d ih =>
    intro n i σ h15 hi hn hv
    obtain ⟨n, rfl⟩ : ∃ m, n = m + 1 := ⟨n - 1, by omega⟩
    obtain ⟨σ1, e1, e2, e3⟩ := ih n (i + 1) (sA σ 14 (nI i) (nI i)) h15 (by omega) (by omega) (fun v hv' => by
      rw [sA_21 σ 14 i v _ 14 (by omega)]
      by_cases e : v = i
      · rw [if_pos ⟨rfl, e⟩, e]
      · rw [if_neg (fun q => e q.2)]; exact hv v (by omega))
    refine ⟨σ1, ?_, (O1.sA _ _).tr e2, e3⟩
    rw [lp_X7_node_28, h15, if_neg (nI_ge (by omega) (by omega)), gd_t (okx_nI (by omega) (by omega)), nm_eq, nm_eq, nI_1]
    exact e1
/-- the relation, when tiles alone have changed -/
theorem RT_tiles {nn : Nat} {σ τ σ1 τ1 : St} {t : Nat → Nat} (hT : RT nn σ τ) (o1 : O1 15 σ σ1) (o2 : O1 14 τ τ1) (hp : perm nn t) (hv : ∀ v, v < nn → σ1.2.1 15 v = nI (t v) ∧ τ1.2.1 14 v = nI (t v)) : RT nn σ1 τ1 := by
  obtain ⟨h1, h2, h3, -, h5⟩ := hT
  refine ⟨h1, by rw [o1.1]; exact h2, by rw [o2.1]; exact h3, ⟨t, hp, hv⟩, ?_⟩
  rw [o1.2.1 16 (by omega), o2.2.1 13 (by omega)]
  exact h5
theorem Rel_tiles {σ τ σ1 τ1 : St} {w h nb ng nn : Nat} (hB : RB w h nb σ τ) (hG : RG nb ng σ τ) (hS : RS σ τ) (hC : RC σ) (hM : RM σ) (hT : RT nn σ1 τ1) (h1 : ∀ j, j ≠ 15 → σ1.1 j = σ.1 j) (h2 : ∀ b, b ≠ 15 → b ≠ 16 → b ≠ 17 → σ1.2.1 b = σ.2.1 b) (h3 : σ1.2.2 = σ.2.2) (k1 : ∀ j, j ≠ 0 → j ≠ 9 → τ1.1 j = τ.1 j) (k2 : ∀ b, b < 13 → τ1.2.1 b = τ.2.1 b) : Rel σ1 τ1 := by
  refine ⟨w, h, nb, ng, nn, RB_fr hB (fun j hj => h1 j (by omega)) (h2 0 (by omega) (by omega) (by omega)) (h2 1 (by omega) (by omega) (by omega)) (fun j _ _ => k1 j (by omega) (by omega)) (k2 0 (by omega)) (k2 1 (by omega)), ?_, ?_, ?_, hT, ?_⟩
  · exact RG_fr hG (h1 8 (by omega)) (h2 2 (by omega) (by omega) (by omega)) (h2 3 (by omega) (by omega) (by omega)) (h2 4 (by omega) (by omega) (by omega)) (k1 5 (by omega) (by omega)) (k2 2 (by omega)) (k2 3 (by omega))
  · exact RS_fr hS (h1 13 (by omega)) (h1 14 (by omega)) (h2 14 (by omega) (by omega) (by omega)) (k1 7 (by omega) (by omega)) (k1 8 (by omega) (by omega)) (k2 12 (by omega))
  · exact RC_fr hC (h1 12 (by omega)) (h2 12 (by omega) (by omega) (by omega)) (by rw [h3])
  · exact RM_fr hM (h1 16 (by omega)) (h2 18 (by omega) (by omega) (by omega)) (by rw [h3])
theorem pg_14 {σ τ : St} (hR : Rel σ τ) {N : Nat} (hN : 100 ≤ N) (xs : Nat → Int32) (L : Nat) (i : Int32) (K : St → St → Option Int32) : ∃ σ1 τ1, Rel σ1 τ1 ∧ g_law_14 N xs L σ τ i K = K σ1 τ1 := by
  have hR' := hR
  obtain ⟨w, h, nb, ng, nn, hB, hG, hS, hC, hT, hM⟩ := hR'
  have hT' := hT
  obtain ⟨hnn, s15, t9, -, ⟨ln, l1, l2, l3, l4, l5⟩⟩ := hT'
  unfold g_law_14 f_X6_node f_X7_node f_X5_addNode
  rw [nm_eq, nm_eq, nm_eq, s15, show (sI τ 0 0).1 9 = nI nn from t9]
  rcases Nat.lt_or_ge nn 8 with h8 | h8
  · obtain ⟨σ1, e1, e2, e3⟩ := lp_addNode N (nn := nn + 1) (by omega) (nn + 1) N 0 (sI σ 15 (nI nn + 1)) (by rw [nI_1]; rfl) (by omega) (by omega) (fun v hv => by omega)
    obtain ⟨τ1, f1, f2, f3⟩ := lp_nodeR N (nn := nn + 1) (by omega) (nn + 1) N 0 (sI (sI τ 0 0) 9 (nI nn + 1)) (by rw [nI_1]; rfl) (by omega) (by omega) (fun v hv => by omega)
    have e1 : lp_X5_addNode_23 N N (sI σ 15 (nI nn + 1)) 0 = some (nI (nn + 1) - 1, σ1) := e1
    have f1 : lp_X7_node_28 N N (sI (sI τ 0 0) 9 (nI nn + 1)) 0 = some (nI (nn + 1) - 1, τ1) := f1
    refine ⟨σ1, τ1, ?_, ?_⟩
    · refine Rel_tiles (nn := nn + 1) hB hG hS hC hM ⟨by omega, ?_, ?_, ⟨fun v => v, ⟨fun v hv => hv, fun u v _ _ h => h⟩, fun v hv => ⟨e3 v hv, f3 v hv⟩⟩, ln, l1, l2, ?_, ?_, ?_⟩ ?_ ?_ ?_ ?_ ?_
      · rw [e2.1, sI_1, if_pos rfl, nI_1]
      · rw [f2.1, sI_1, if_pos rfl, nI_1]
      · intro a b ha hb hab
        have := l3 a b ha hb hab
        omega
      · rw [e2.2.1 16 (by omega)]; exact l4
      · rw [f2.2.1 13 (by omega)]; exact l5
      · intro j hj; rw [e2.1, sI_1, if_neg hj]
      · intro b h1 h2 h3; exact e2.2.1 b h1
      · exact e2.2.2
      · intro j h0 h9; rw [f2.1, sI_1, if_neg h9, sI_1, if_neg h0]
      · intro b hb; exact f2.2.1 b (by omega)
    · rw [if_pos (show nI nn < 8 from nI_lt (b := 8) h8 (by omega)), if_neg (show ¬ nI nn = 8 from fun e => by have := (nI_eq (a := nn) (b := 8) (by omega) (by omega)).mp e; omega), e1, bd_some, bd_some, f1, bd_some, if_pos rfl]
  · have e8 : nn = 8 := by omega
    refine ⟨σ, sI τ 0 0, th_rel hR 0, ?_⟩
    rw [if_neg (show ¬ nI nn < 8 from nI_nlt (b := 8) h8 (by omega)), if_pos (show nI nn = 8 by rw [e8]; rfl), bd_some, bd_some, bd_some, if_pos rfl]
/-! lines -/
theorem ushr0 {x : Int32} {c : Nat} (hc : c < 32) : (jushr x (nI c) &&& 1 = 0) ↔ bt x c = false := by
  have key : ∀ i, i < 32 → bt (jushr x (nI c) &&& 1) i = (decide (i = 0) && bt x c) := by
    intro i hi
    rw [b_and, bt_ushr hc x, bt_one]
    by_cases e : i = 0
    · subst e; simp
    · simp [e]
  constructor
  · intro h
    have := key 0 (by omega)
    rw [h, b_0] at this
    simpa using this.symm
  · intro h
    apply b_ext
    intro i hi
    rw [key i hi, b_0, h]
    simp
def LN (ln : Nat → Nat → Bool) (σ τ : St) : Prop := (∀ a, a < 8 → ∀ b, b < 32 → bt (σ.2.1 16 a) b = (decide (b < 8) && ln a b)) ∧ (∀ a b, a < 8 → b < 8 → τ.2.1 13 (8 * a + b) = if ln a b then 1 else 0)
theorem joinedC (N : Nat) {σ τ : St} {ln : Nat → Nat → Bool} (h : LN ln σ τ) {a b : Nat} (ha : a < 8) (hb : b < 8) : f_X5_areJoined N σ (nI a) (nI b) = some (if ln a b then 1 else 0) := by
  unfold f_X5_areJoined
  rw [gd_t (okx_nI ha (by omega)), ra_nI _ _ (by omega)]
  have h1 := h.1 a ha b (by omega)
  rw [decide_eq_true hb, Bool.true_and] at h1
  cases e : ln a b
  · rw [e] at h1
    rw [if_pos ((ushr0 (by omega)).mpr h1)]; rfl
  · rw [e] at h1
    rw [if_neg (fun q => by rw [(ushr0 (by omega)).mp q] at h1; cases h1)]; rfl
theorem joinedM (N : Nat) {σ τ : St} {ln : Nat → Nat → Bool} (h : LN ln σ τ) {a b : Nat} (ha : a < 8) (hb : b < 8) : f_X7_isJoined N τ (nI a) (nI b) = some (if ln a b then 1 else 0) := by
  unfold f_X7_isJoined
  rw [show (8 : Int32) * nI a = nI (8 * a) from pk_mul 8 a, nI_add, gd_t (okx_nI (by omega) (by omega)), ra_nI _ _ (by omega), h.2 a b ha hb]
  cases ln a b <;> rfl
theorem pr_join {N : Nat} {σ τ : St} (hR : Rel σ τ) (x y : Int32) : Pr hf0 (f_X6_join N σ x y) (f_X7_join N τ x y) := by
  have hR' := hR
  obtain ⟨w, h, nb, ng, nn, hB, hG, hS, hC, hT, hM⟩ := hR'
  have hT' := hT
  obtain ⟨hnn, s15, t9, htl, ⟨ln, l1, l2, l3, l4, l5⟩⟩ := hT'
  have bad : ∀ (a : Option XR) (b : Option (Int32 × St)), a = some (.inr 0, σ) → b = some (0, sI τ 0 1) → Pr hf0 a b := by
    intro a b ha hb
    exact Or.inr ⟨0, 0, 1, σ, sI τ 0 1, ha, hb, rfl, by decide, rfl, th_rel hR 1⟩
  unfold f_X6_join f_X7_join
  rw [needNode_nI N s15, isNode_nI N t9]
  rcases cases_n x (n := nn) (by omega) with h1 | ⟨h1, h2⟩ | ⟨a, ha, rfl⟩
  · simp only [h1, if_true]; exact bad _ _ rfl rfl
  · simp only [h1, h2, if_true, if_false]; exact bad _ _ rfl rfl
  · have q1 := nI_pos (n := a) (by omega)
    have q2 : ¬ nI nn ≤ nI a := nI_ge ha (by omega)
    simp only [q1, q2, if_false]
    rw [bx_inl, bd1_some, if_neg (show ¬ (1 : Int32) = 0 by decide), needNode_nI N s15, isNode_nI N t9]
    rcases cases_n y (n := nn) (by omega) with h1 | ⟨h1, h2⟩ | ⟨b, hb, rfl⟩
    · simp only [h1, if_true]; exact bad _ _ rfl rfl
    · simp only [h1, h2, if_true, if_false]; exact bad _ _ rfl rfl
    · have q1 := nI_pos (n := b) (by omega)
      have q2 : ¬ nI nn ≤ nI b := nI_ge hb (by omega)
      simp only [q1, q2, if_false]
      rw [bx_inl, bd1_some, if_neg (show ¬ (1 : Int32) = 0 by decide)]
      unfold jn_X7_join_23 f_X5_addLine
      rw [throwsIf_0, bd_some, if_pos rfl]
      by_cases hab : a = b
      · subst hab
        rw [if_pos rfl, if_pos rfl]
        exact Or.inl ⟨0, σ, sI τ 0 0, rfl, rfl, rfl, th_rel hR 0⟩
      · have hab' : ¬ nI a = nI b := fun e => hab ((nI_eq (by omega) (by omega)).mp e)
        have hl : LN ln σ (sI τ 0 0) := ⟨l4, l5⟩
        rw [if_neg hab', if_neg hab', joinedC N hl (by omega) (by omega), joinedM N hl (by omega) (by omega), bd1_some, bd1_some]
        cases el : ln a b
        · rw [if_neg (by decide : ¬ false = true), if_pos rfl, if_pos rfl]
          have oa : okx (nI a) 8 = true := okx_nI (by omega) (by omega)
          have ob : okx (nI b) 8 = true := okx_nI (by omega) (by omega)
          rw [show (8 : Int32) * nI a = nI (8 * a) from pk_mul 8 a, show (8 : Int32) * nI b = nI (8 * b) from pk_mul 8 b, nI_add, nI_add]
          simp only [gd_t oa, gd_t ob, gd_t (okx_nI (show 8 * a + b < 64 by omega) (by omega)), gd_t (okx_nI (show 8 * b + a < 64 by omega) (by omega)), nm_eq, nar1]
          rw [ra_nI _ _ (by omega), ra_nI _ _ (by omega)]
          refine Or.inl ⟨1, _, _, rfl, rfl, rfl, ?_⟩
          have c16 : ∀ v, (sA (sA σ 16 (nI a) (σ.2.1 16 a ||| jshl 1 (nI b))) 16 (nI b) ((sA σ 16 (nI a) (σ.2.1 16 a ||| jshl 1 (nI b))).2.1 16 b ||| jshl 1 (nI a))).2.1 16 v = if v = b then σ.2.1 16 b ||| one a else if v = a then σ.2.1 16 a ||| one b else σ.2.1 16 v := by
            intro v
            rw [sA_21 _ 16 b v _ 16 (by omega), sA_21 σ 16 a v _ 16 (by omega), sA_21 σ 16 a b _ 16 (by omega), if_neg (show ¬ ((16 : Nat) = 16 ∧ b = a) from fun q => hab q.2.symm)]
            simp only [true_and]
            rfl
          have c13 : ∀ v, (sA (sA (sI τ 0 0) 13 (nI (8 * a + b)) 1) 13 (nI (8 * b + a)) 1).2.1 13 v = if v = 8 * b + a then 1 else if v = 8 * a + b then 1 else τ.2.1 13 v := by
            intro v
            rw [sA_21 _ 13 (8 * b + a) v _ 13 (by omega), sA_21 _ 13 (8 * a + b) v _ 13 (by omega)]
            simp only [true_and, sI_2]
          refine Rel_tiles (nn := nn) hB hG hS hC hM ⟨hnn, s15, t9, htl, fun u v => ln u v || (decide (u = a) && decide (v = b)) || (decide (u = b) && decide (v = a)), ?_, ?_, ?_, ?_, ?_⟩ (fun _ _ => rfl) ?_ rfl ?_ ?_
          · intro u v hu hv
            show (ln u v || (decide (u = a) && decide (v = b)) || (decide (u = b) && decide (v = a))) = (ln v u || (decide (v = a) && decide (u = b)) || (decide (v = b) && decide (u = a)))
            rw [l1 u v hu hv]
            cases ln v u <;> cases (decide (u = a)) <;> cases (decide (v = b)) <;> cases (decide (u = b)) <;> cases (decide (v = a)) <;> rfl
          · intro u
            show (ln u u || (decide (u = a) && decide (u = b)) || (decide (u = b) && decide (u = a))) = false
            rw [l2 u]
            by_cases h1 : u = a
            · rw [decide_eq_false (show ¬ u = b by omega)]; simp
            · rw [decide_eq_false h1]; simp
          · intro u v hu hv huv
            have huv : (ln u v || (decide (u = a) && decide (v = b)) || (decide (u = b) && decide (v = a))) = true := huv
            rw [Bool.or_eq_true, Bool.or_eq_true, Bool.and_eq_true, Bool.and_eq_true, decide_eq_true_eq, decide_eq_true_eq, decide_eq_true_eq, decide_eq_true_eq] at huv
            rcases huv with (huv | huv) | huv
            · exact l3 u v hu hv huv
            · omega
            · omega
          · intro u hu v hv
            show bt _ v = (decide (v < 8) && (ln u v || (decide (u = a) && decide (v = b)) || (decide (u = b) && decide (v = a))))
            rw [c16]
            by_cases e1 : u = b
            · rw [if_pos e1, b_or, bt_one' (by omega) hv, l4 b (by omega) v hv, e1, decide_eq_false (show ¬ b = a by omega), decide_eq_true (show b = b from rfl)]
              by_cases e2 : v = a
              · subst e2; rw [decide_eq_true (show v < 8 by omega)]; simp
              · rw [decide_eq_false e2]; simp
            · rw [if_neg e1]
              by_cases e2 : u = a
              · rw [if_pos e2, b_or, bt_one' (by omega) hv, l4 a (by omega) v hv, e2, decide_eq_false (show ¬ a = b by omega), decide_eq_true (show a = a from rfl)]
                by_cases e2 : v = b
                · subst e2; rw [decide_eq_true (show v < 8 by omega)]; simp
                · rw [decide_eq_false e2]; simp
              · rw [if_neg e2, l4 u hu v hv, decide_eq_false e1, decide_eq_false e2]; simp
          · intro u v hu hv
            show _ = if (ln u v || (decide (u = a) && decide (v = b)) || (decide (u = b) && decide (v = a))) = true then 1 else 0
            rw [c13]
            by_cases e1 : u = b ∧ v = a
            · rw [if_pos (by omega), if_pos (by rw [e1.1, e1.2]; simp)]
            · rw [if_neg (by omega)]
              by_cases e2 : u = a ∧ v = b
              · rw [if_pos (by omega), if_pos (by rw [e2.1, e2.2]; simp)]
              · rw [if_neg (by omega), l5 u v hu hv]
                have f1 : (decide (u = a) && decide (v = b)) = false := by
                  cases e : (decide (u = a) && decide (v = b))
                  · rfl
                  · rw [Bool.and_eq_true, decide_eq_true_eq, decide_eq_true_eq] at e; exact absurd e e2
                have f2 : (decide (u = b) && decide (v = a)) = false := by
                  cases e : (decide (u = b) && decide (v = a))
                  · rfl
                  · rw [Bool.and_eq_true, decide_eq_true_eq, decide_eq_true_eq] at e; exact absurd e e1
                rw [f1, f2, Bool.or_false, Bool.or_false]
          · intro c k1 k2 k3
            show (if c = 16 then _ else (if c = 16 then _ else σ.2.1 c)) = _
            rw [if_neg k2, if_neg k2]
          · intro c k0 k9
            show (sI τ 0 0).1 c = _
            rw [sI_1, if_neg k0]
          · intro c hc
            show (if c = 13 then _ else (if c = 13 then _ else τ.2.1 c)) = _
            rw [if_neg (by omega), if_neg (by omega)]
        · rw [if_pos rfl, if_neg (show ¬ (1 : Int32) = 0 by decide), if_neg (show ¬ (1 : Int32) = 0 by decide)]
          exact Or.inl ⟨0, σ, sI τ 0 0, rfl, rfl, rfl, th_rel hR 0⟩
theorem pg_15 {σ τ : St} (hR : Rel σ τ) {N : Nat} {xs : Nat → Int32} {L : Nat} {i : Int32} (ho1 : okx (i + 1) L = true) (ho2 : okx (i + 2) L = true) (K : St → St → Option Int32) : ∃ σ1 τ1, Rel σ1 τ1 ∧ g_law_15 N xs L σ τ i K = K σ1 τ1 := by
  obtain ⟨σ1, τ1, h1, h2⟩ := cl_bool (pr_join (N := N) hR (rs xs (i + 1)) (rs xs (i + 2))) K
  refine ⟨σ1, τ1, h1, ?_⟩
  rw [← h2]
  unfold g_law_15 f_L_join
  simp only [gd_t ho1, gd_t ho2]
  rfl
/-! tiles change places -/
def exch (t : Nat → Nat) (a b v : Nat) : Nat := if v = a then t b else if v = b then t a else t v
theorem perm_exch {n a b : Nat} {t : Nat → Nat} (h : perm n t) (ha : a < n) (hb : b < n) : perm n (exch t a b) := by
  obtain ⟨h1, h2⟩ := h
  have key : ∀ v, v < n → exch t a b v = t (if v = a then b else if v = b then a else v) ∧ (if v = a then b else if v = b then a else v) < n := by
    intro v hv
    unfold exch
    split
    · exact ⟨rfl, hb⟩
    · split
      · exact ⟨rfl, ha⟩
      · exact ⟨rfl, hv⟩
  constructor
  · intro v hv
    rw [(key v hv).1]
    exact h1 _ (key v hv).2
  · intro u v hu hv e
    rw [(key u hu).1, (key v hv).1] at e
    have := h2 _ _ (key u hu).2 (key v hv).2 e
    split at this <;> split at this <;> (try split at this) <;> (try split at this) <;> omega
theorem exchC (N : Nat) (σ : St) {a b : Nat} (ha : a < 8) (hb : b < 8) (hab : a ≠ b) : ∃ σ1, f_X5_exchange N σ (nI a) (nI b) = some (1, σ1) ∧ O1 15 σ σ1 ∧ ∀ v, σ1.2.1 15 v = if v = a then σ.2.1 15 b else if v = b then σ.2.1 15 a else σ.2.1 15 v := by
  have oa : okx (nI a) 8 = true := okx_nI ha (by omega)
  have ob : okx (nI b) 8 = true := okx_nI hb (by omega)
  refine ⟨sA (sA σ 15 (nI a) (σ.2.1 15 b)) 15 (nI b) (σ.2.1 15 a), ?_, (O1.sA _ _).tr (O1.sA _ _), ?_⟩
  · unfold f_X5_exchange
    rw [if_neg (fun e => hab ((nI_eq (by omega) (by omega)).mp e))]
    simp only [gd_t oa, gd_t ob, nm_eq, ra_nI _ _ (show a < 2 ^ 31 by omega), ra_nI _ _ (show b < 2 ^ 31 by omega)]
  · intro v
    rw [sA_21 _ 15 b v _ 15 (by omega), sA_21 σ 15 a v _ 15 (by omega)]
    simp only [true_and]
    by_cases e1 : v = b
    · rw [if_pos e1, if_neg (by omega), if_pos e1]
    · rw [if_neg e1]
      by_cases e2 : v = a
      · rw [if_pos e2, if_pos e2]
      · rw [if_neg e2, if_neg e2, if_neg e1]
theorem exchM (N : Nat) (σ : St) {a b : Nat} (ha : a < 8) (hb : b < 8) (hab : a ≠ b) : ∃ σ1, f_X7_exchange N σ (nI a) (nI b) = some σ1 ∧ O1 14 σ σ1 ∧ ∀ v, σ1.2.1 14 v = if v = a then σ.2.1 14 b else if v = b then σ.2.1 14 a else σ.2.1 14 v := by
  have oa : okx (nI a) 8 = true := okx_nI ha (by omega)
  have ob : okx (nI b) 8 = true := okx_nI hb (by omega)
  refine ⟨sA (sA σ 14 (nI a) (σ.2.1 14 b)) 14 (nI b) (σ.2.1 14 a), ?_, (O1.sA _ _).tr (O1.sA _ _), ?_⟩
  · unfold f_X7_exchange
    simp only [gd_t oa, gd_t ob, nm_eq, ra_nI _ _ (show a < 2 ^ 31 by omega), ra_nI _ _ (show b < 2 ^ 31 by omega)]
  · intro v
    rw [sA_21 _ 14 b v _ 14 (by omega), sA_21 σ 14 a v _ 14 (by omega)]
    simp only [true_and]
    by_cases e1 : v = b
    · rw [if_pos e1, if_neg (by omega), if_pos e1]
    · rw [if_neg e1]
      by_cases e2 : v = a
      · rw [if_pos e2, if_pos e2]
      · rw [if_neg e2, if_neg e2, if_neg e1]
/-- both exchange, the relation stays -/
theorem Rel_exch {σ τ σ1 τ1 : St} {w h nb ng nn a b : Nat} (hB : RB w h nb σ τ) (hG : RG nb ng σ τ) (hS : RS σ τ) (hC : RC σ) (hT : RT nn σ τ) (hM : RM σ) (ha : a < nn) (hb : b < nn) (o1 : O1 15 σ σ1) (v1 : ∀ v, σ1.2.1 15 v = if v = a then σ.2.1 15 b else if v = b then σ.2.1 15 a else σ.2.1 15 v) (o2 : O1 14 (sI τ 0 0) τ1) (v2 : ∀ v, τ1.2.1 14 v = if v = a then τ.2.1 14 b else if v = b then τ.2.1 14 a else τ.2.1 14 v) : Rel σ1 τ1 := by
  obtain ⟨t, hp, ht⟩ := hT.2.2.2.1
  refine Rel_tiles (nn := nn) hB hG hS hC hM (RT_tiles (τ := sI τ 0 0) hT o1 o2 (perm_exch hp ha hb) (fun v hv => ?_)) (fun j _ => by rw [o1.1]) (fun c h1 _ _ => o1.2.1 c h1) o1.2.2 (fun j h0 _ => by rw [o2.1, sI_1, if_neg h0]) (fun c hc => o2.2.1 c (by omega))
  rw [v1, v2]
  unfold exch
  split
  · exact ht b hb
  · split
    · exact ht a ha
    · exact ht v hv
theorem pr_swap {N : Nat} {σ τ : St} (hR : Rel σ τ) (x y : Int32) : Pr hf0 (f_X6_swap N σ x y) (f_X7_swap N τ x y) := by
  have hR' := hR
  obtain ⟨w, h, nb, ng, nn, hB, hG, hS, hC, hT, hM⟩ := hR'
  have hT' := hT
  obtain ⟨hnn, s15, t9, htl, ⟨ln, l1, l2, l3, l4, l5⟩⟩ := hT'
  have bad : ∀ (a : Option XR) (b : Option (Int32 × St)), a = some (.inr 0, σ) → b = some (0, sI τ 0 1) → Pr hf0 a b := by
    intro a b ha hb
    exact Or.inr ⟨0, 0, 1, σ, sI τ 0 1, ha, hb, rfl, by decide, rfl, th_rel hR 1⟩
  unfold f_X6_swap f_X7_swap
  rw [needNode_nI N s15, isNode_nI N t9]
  rcases cases_n x (n := nn) (by omega) with h1 | ⟨h1, h2⟩ | ⟨a, ha, rfl⟩
  · simp only [h1, if_true]; exact bad _ _ rfl rfl
  · simp only [h1, h2, if_true, if_false]; exact bad _ _ rfl rfl
  · have q1 := nI_pos (n := a) (by omega)
    have q2 : ¬ nI nn ≤ nI a := nI_ge ha (by omega)
    simp only [q1, q2, if_false]
    rw [bx_inl, bd1_some, if_neg (show ¬ (1 : Int32) = 0 by decide), needNode_nI N s15, isNode_nI N t9]
    rcases cases_n y (n := nn) (by omega) with h1 | ⟨h1, h2⟩ | ⟨b, hb, rfl⟩
    · simp only [h1, if_true]; exact bad _ _ rfl rfl
    · simp only [h1, h2, if_true, if_false]; exact bad _ _ rfl rfl
    · have q1 := nI_pos (n := b) (by omega)
      have q2 : ¬ nI nn ≤ nI b := nI_ge hb (by omega)
      simp only [q1, q2, if_false]
      rw [bx_inl, bd1_some, if_neg (show ¬ (1 : Int32) = 0 by decide), throwsIf_0, bd_some, if_pos rfl]
      by_cases hab : a = b
      · subst hab
        unfold f_X5_exchange
        rw [if_pos rfl, if_pos rfl]
        exact Or.inl ⟨0, σ, sI τ 0 0, rfl, rfl, rfl, th_rel hR 0⟩
      · obtain ⟨σ1, e1, e2, e3⟩ := exchC N σ (show a < 8 by omega) (show b < 8 by omega) hab
        obtain ⟨τ1, f1, f2, f3⟩ := exchM N (sI τ 0 0) (show a < 8 by omega) (show b < 8 by omega) hab
        rw [if_neg (fun e => hab ((nI_eq (by omega) (by omega)).mp e)), e1, f1, bd_some, bd1_some]
        exact Or.inl ⟨1, σ1, τ1, rfl, rfl, by rw [f2.1]; rfl, Rel_exch hB hG hS hC hT hM ha hb e2 e3 f2 f3⟩
theorem pg_18 {σ τ : St} (hR : Rel σ τ) {N : Nat} {xs : Nat → Int32} {L : Nat} {i : Int32} (ho1 : okx (i + 1) L = true) (ho2 : okx (i + 2) L = true) (K : St → St → Option Int32) : ∃ σ1 τ1, Rel σ1 τ1 ∧ g_law_18 N xs L σ τ i K = K σ1 τ1 := by
  obtain ⟨σ1, τ1, h1, h2⟩ := cl_bool (pr_swap (N := N) hR (rs xs (i + 1)) (rs xs (i + 2))) K
  refine ⟨σ1, τ1, h1, ?_⟩
  rw [← h2]
  unfold g_law_18 f_L_swap
  simp only [gd_t ho1, gd_t ho2]
  rfl
/-! the gap -/
theorem perm_onto : ∀ (n : Nat) (f : Nat → Nat), perm n f → ∀ y, y < n → ∃ v, v < n ∧ f v = y := by
  intro n
  induction n with
  | zero => intro f _ y hy; omega
  | succ n ih =>
    intro f hf y hy
    obtain ⟨h1, h2⟩ := hf
    by_cases hz : f n = n
    · by_cases e : y = n
      · exact ⟨n, by omega, by rw [hz, e]⟩
      · have hp : perm n f := ⟨fun v hv => by
          have a := h1 v (by omega)
          have b : f v ≠ n := fun q => by have := h2 v n (by omega) (by omega) (by rw [q, hz]); omega
          omega, fun u v hu hv q => h2 u v (by omega) (by omega) q⟩
        obtain ⟨v, hv, e2⟩ := ih f hp y (by omega)
        exact ⟨v, by omega, e2⟩
    · have hfn := h1 n (by omega)
      have hp : perm n (fun v => if f v = n then f n else f v) := by
        constructor
        · intro v hv
          show (if f v = n then f n else f v) < n
          have a := h1 v (by omega)
          split <;> omega
        · intro u v hu hv q
          have q : (if f u = n then f n else f u) = (if f v = n then f n else f v) := q
          by_cases e1 : f u = n
          · by_cases e2 : f v = n
            · exact h2 u v (by omega) (by omega) (by rw [e1, e2])
            · rw [if_pos e1, if_neg e2] at q
              have := h2 n v (by omega) (by omega) q
              omega
          · by_cases e2 : f v = n
            · rw [if_neg e1, if_pos e2] at q
              have := h2 u n (by omega) (by omega) q
              omega
            · rw [if_neg e1, if_neg e2] at q
              exact h2 u v (by omega) (by omega) q
      by_cases e : y = n
      · obtain ⟨v, hv, e2⟩ := ih _ hp (f n) (by omega)
        have e2 : (if f v = n then f n else f v) = f n := e2
        by_cases e3 : f v = n
        · exact ⟨v, by omega, by rw [e3, e]⟩
        · rw [if_neg e3] at e2
          have := h2 v n (by omega) (by omega) e2
          omega
      · by_cases e4 : y = f n
        · exact ⟨n, by omega, e4.symm⟩
        · obtain ⟨v, hv, e2⟩ := ih _ hp y (by omega)
          have e2 : (if f v = n then f n else f v) = y := e2
          by_cases e3 : f v = n
          · rw [if_pos e3] at e2; exact absurd e2.symm e4
          · rw [if_neg e3] at e2; exact ⟨v, by omega, e2⟩
theorem gapC (N : Nat) {σ : St} {nn g : Nat} {t : Nat → Nat} (hnn : nn ≤ 8) (s15 : σ.1 15 = nI nn) (hp : perm nn t) (ht : ∀ v, v < nn → σ.2.1 15 v = nI (t v)) (hg : g < nn) (hz : t g = 0) : ∀ (d n i : Nat), i + d = g → d < n → lp_X5_gapNode_2 N σ n (nI i) = some (nI g) := by
  intro d
  induction d with
  | zero =>
    intro n i hi hn
    obtain ⟨n, rfl⟩ : ∃ m, n = m + 1 := ⟨n - 1, by omega⟩
    rw [lp_X5_gapNode_2, show i = g by omega, gd_t (okx_nI (by omega) (by omega)), ra_nI _ _ (by omega), ht g hg, hz, if_pos (show nI 0 = 0 from rfl)]
    split <;> rfl
  | succ d ih =>
    intro n i hi hn
    obtain ⟨n, rfl⟩ : ∃ m, n = m + 1 := ⟨n - 1, by omega⟩
    have e1 : nI nn - 1 = nI (nn - 1) := by
      rw [show nn = (nn - 1) + 1 by omega, nI_pred]; rfl
    have e2 : t i ≠ 0 := fun q => by
      have := hp.2 i g (by omega) hg (by rw [q, hz])
      omega
    have e3 := hp.1 i (by omega)
    rw [lp_X5_gapNode_2, s15, e1, if_neg (nI_ge (by omega) (by omega)), gd_t (okx_nI (by omega) (by omega)), ra_nI _ _ (by omega), ht i (by omega), if_neg (nI_ne0 (by omega) (by omega)), nm_eq, nI_1]
    exact ih n (i + 1) (by omega) (by omega)
theorem gapM (N : Nat) {τ : St} {nn g : Nat} {t : Nat → Nat} (hnn : nn ≤ 8) (hp : perm nn t) (ht : ∀ v, v < nn → τ.2.1 14 v = nI (t v)) (hg : g < nn) (hz : t g = 0) : ∀ (d n i : Nat), i + d = g → d < n → lp_X7_gap_2 N τ n (nI i) = some (nI g) := by
  intro d
  induction d with
  | zero =>
    intro n i hi hn
    obtain ⟨n, rfl⟩ : ∃ m, n = m + 1 := ⟨n - 1, by omega⟩
    rw [lp_X7_gap_2, show i = g by omega, gd_t (okx_nI (by omega) (by omega)), ra_nI _ _ (by omega), ht g hg, hz, if_pos (show nI 0 = 0 from rfl)]
  | succ d ih =>
    intro n i hi hn
    obtain ⟨n, rfl⟩ : ∃ m, n = m + 1 := ⟨n - 1, by omega⟩
    have e2 : t i ≠ 0 := fun q => by
      have := hp.2 i g (by omega) hg (by rw [q, hz])
      omega
    have e3 := hp.1 i (by omega)
    rw [lp_X7_gap_2, gd_t (okx_nI (by omega) (by omega)), ra_nI _ _ (by omega), ht i (by omega), if_neg (nI_ne0 (by omega) (by omega)), nm_eq, nI_1]
    exact ih n (i + 1) (by omega) (by omega)
theorem pr_shift {N : Nat} (hN : 100 ≤ N) {σ τ : St} (hR : Rel σ τ) (x : Int32) : Pr hf0 (f_X6_shift N σ x) (f_X7_shift N τ x) := by
  have hR' := hR
  obtain ⟨w, h, nb, ng, nn, hB, hG, hS, hC, hT, hM⟩ := hR'
  have hT' := hT
  obtain ⟨hnn, s15, t9, ⟨t, hp, ht⟩, ⟨ln, l1, l2, l3, l4, l5⟩⟩ := hT'
  have bad : ∀ (a : Option XR) (b : Option (Int32 × St)), a = some (.inr 0, σ) → b = some (0, sI τ 0 1) → Pr hf0 a b := by
    intro a b ha hb
    exact Or.inr ⟨0, 0, 1, σ, sI τ 0 1, ha, hb, rfl, by decide, rfl, th_rel hR 1⟩
  unfold f_X6_shift f_X7_shift
  rw [needNode_nI N s15, isNode_nI N t9]
  rcases cases_n x (n := nn) (by omega) with h1 | ⟨h1, h2⟩ | ⟨a, ha, rfl⟩
  · simp only [h1, if_true]; exact bad _ _ rfl rfl
  · simp only [h1, h2, if_true, if_false]; exact bad _ _ rfl rfl
  · have q1 := nI_pos (n := a) (by omega)
    have q2 : ¬ nI nn ≤ nI a := nI_ge ha (by omega)
    simp only [q1, q2, if_false]
    obtain ⟨g, hg, hz⟩ := perm_onto nn t hp 0 (by omega)
    have hl : LN ln σ (sI τ 0 0) := ⟨l4, l5⟩
    have e1 : f_X5_gapNode N σ = some (nI g) := gapC N hnn s15 hp (fun v hv => (ht v hv).1) hg hz g N 0 (by omega) (by omega)
    have e2 : f_X7_gap N (sI τ 0 0) = some (nI g) := gapM N (τ := sI τ 0 0) hnn hp (fun v hv => (ht v hv).2) hg hz g N 0 (by omega) (by omega)
    rw [bx_inl, bd1_some, if_neg (show ¬ (1 : Int32) = 0 by decide), throwsIf_0, bd_some, if_pos rfl, gd_t (okx_nI (by omega) (by omega)), ra_nI _ _ (by omega), sI_2, (ht a ha).2]
    unfold f_X5_moveToGap
    rw [e1, bd1_some, joinedC N hl (show g < 8 by omega) (show a < 8 by omega), bd1_some, e2, bd1_some, joinedM N hl (show a < 8 by omega) (show g < 8 by omega), bd1_some, bd1_some, l1 g a (by omega) (by omega)]
    by_cases hag : a = g
    · rw [hag, hz, if_pos (show nI 0 = 0 from rfl), l2 g]
      exact Or.inl ⟨0, σ, sI τ 0 0, rfl, rfl, rfl, th_rel hR 0⟩
    · have hta : t a ≠ 0 := fun q => hag (hp.2 a g ha hg (by rw [q, hz]))
      have htl := hp.1 a ha
      rw [if_neg (nI_ne0 (n := t a) (by omega) (by omega))]
      cases el : ln a g
      · exact Or.inl ⟨0, σ, sI τ 0 0, rfl, rfl, rfl, th_rel hR 0⟩
      · obtain ⟨σ1, f1, f2, f3⟩ := exchC N σ (show g < 8 by omega) (show a < 8 by omega) (fun q => hag q.symm)
        obtain ⟨τ1, k1, k2, k3⟩ := exchM N (sI τ 0 0) (show a < 8 by omega) (show g < 8 by omega) hag
        rw [if_pos rfl, if_neg (show ¬ (1 : Int32) = 0 by decide), if_neg (show ¬ (1 : Int32) = 0 by decide), f1, k1, bd_some, bd1_some, if_neg (show ¬ (1 : Int32) = 0 by decide), bd_some]
        refine Or.inl ⟨1, σ1, τ1, rfl, rfl, by rw [k2.1]; rfl, Rel_exch hB hG hS hC hT hM hg ha f2 f3 k2 (fun v => ?_)⟩
        rw [k3]
        simp only [sI_2]
        by_cases c1 : v = a
        · rw [if_pos c1, if_neg (by omega), if_pos c1]
        · rw [if_neg c1]
          by_cases c2 : v = g
          · rw [if_pos c2, if_pos c2]
          · rw [if_neg c2, if_neg c2, if_neg c1]
theorem pg_17 {σ τ : St} (hR : Rel σ τ) {N : Nat} (hN : 100 ≤ N) {xs : Nat → Int32} {L : Nat} {i : Int32} (ho1 : okx (i + 1) L = true) (K : St → St → Option Int32) : ∃ σ1 τ1, Rel σ1 τ1 ∧ g_law_17 N xs L σ τ i K = K σ1 τ1 := by
  obtain ⟨σ1, τ1, h1, h2⟩ := cl_bool (pr_shift hN hR (rs xs (i + 1))) K
  refine ⟨σ1, τ1, h1, ?_⟩
  rw [← h2]
  unfold g_law_17 f_L_shift
  simp only [gd_t ho1]
  rfl
