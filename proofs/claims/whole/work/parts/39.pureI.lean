/-! goals -/
abbrev hf2 : Nat → St → Option (Int32 × St) := fun e3 σ2 => if e3 = 0 then (some ((1 : Int32), σ2)) else (if e3 = 1 then (some ((2 : Int32), σ2)) else (none))
theorem nar0 : vp_nar .boolean 0 = 0 := by decide
theorem nar1 : vp_nar .boolean 1 = 1 := by decide
/-- a goal comes, on both sides -/
theorem add_goal {N : Nat} {σ τ : St} {w h nb ng nn : Nat} (hB : RB w h nb σ τ) (hG : RG nb ng σ τ) (hS : RS σ τ) (hC : RC σ) (hT : RT nn σ τ) (hM : RM σ) (kd : Bool) {v : Nat} (hv : if kd then v < 26 else v < nb) (a b : Nat) :
    ∃ r σ1 τ1, f_X2_add N σ (if kd then 1 else 0) (nI v) (nI w * nI b + nI a) = some (r, σ1) ∧ f_X7_addGoal N (sI τ 0 0) (nI ((if kd then 100 else 0) + v)) (nI a) (nI b) = some (r, τ1) ∧ τ1.1 0 = 0 ∧ Rel σ1 τ1 := by
  have hG' := hG
  obtain ⟨g1, g2, g3, g4⟩ := hG'
  have t1 : τ.1 1 = nI w := hB.2.2.1.1
  unfold f_X2_add f_X7_addGoal
  simp only [nm]
  rw [g2, show (sI τ 0 0).1 5 = nI ng from g3]
  rcases Nat.lt_or_ge ng 6 with h6 | h6
  · rw [if_pos (show nI ng < 6 from nI_lt (b := 6) h6 (by omega)), if_neg (show ¬ nI ng = 6 from fun e => by have := (nI_eq (a := ng) (b := 6) (by omega) (by omega)).mp e; omega)]
    have q1 : ∀ u : Int32, (sA σ 2 (nI ng) u).1 8 = nI ng := fun u => g2
    have q2 : ∀ u u2 : Int32, (sA (sA σ 2 (nI ng) u) 3 (nI ng) u2).1 8 = nI ng := fun u u2 => g2
    have q3 : ∀ u u2 u3 : Int32, (sA (sA (sA σ 2 (nI ng) u) 3 (nI ng) u2) 4 (nI ng) u3).1 8 = nI ng := fun u u2 u3 => g2
    have p1 : ∀ u : Int32, (sA (sI τ 0 0) 2 (nI ng) u).1 5 = nI ng := fun u => g3
    have p2 : ∀ u : Int32, (sA (sI τ 0 0) 2 (nI ng) u).1 1 = nI w := fun u => t1
    have p3 : ∀ u u2 : Int32, (sA (sA (sI τ 0 0) 2 (nI ng) u) 3 (nI ng) u2).1 5 = nI ng := fun u u2 => g3
    rw [gd_t (okx_nI h6 (by omega)), gd_t (okx_nI h6 (by omega)), q1, gd_t (okx_nI h6 (by omega)), q2, gd_t (okx_nI h6 (by omega)), q3, p1, gd_t (okx_nI h6 (by omega)), p2, p3]
    refine ⟨nI ng + 1 - 1, _, _, rfl, rfl, rfl, w, h, nb, ng + 1, nn, hB, ?_, hS, hC, hT, hM⟩
    refine ⟨by omega, ?_, ?_, ?_⟩
    · show nI ng + 1 = _; exact nI_1 ng
    · show nI ng + 1 = _; exact nI_1 ng
    · intro g hg
      have c2 : (sI (sA (sA (sA σ 2 (nI ng) (vp_nar .boolean (if kd then 1 else 0))) 3 (nI ng) (nI v)) 4 (nI ng) (nI w * nI b + nI a)) 8 (nI ng + 1)).2.1 2 g = if g = ng then vp_nar .boolean (if kd then 1 else 0) else σ.2.1 2 g := by
        rw [sI_2, sA_21 _ 4 ng g _ 2 (by omega), if_neg (by omega), sA_21 _ 3 ng g _ 2 (by omega), if_neg (by omega), sA_21 _ 2 ng g _ 2 (by omega)]; simp
      have c3 : (sI (sA (sA (sA σ 2 (nI ng) (vp_nar .boolean (if kd then 1 else 0))) 3 (nI ng) (nI v)) 4 (nI ng) (nI w * nI b + nI a)) 8 (nI ng + 1)).2.1 3 g = if g = ng then nI v else σ.2.1 3 g := by
        rw [sI_2, sA_21 _ 4 ng g _ 3 (by omega), if_neg (by omega), sA_21 _ 3 ng g _ 3 (by omega), sA_21 _ 2 ng g _ 3 (by omega)]; simp
      have c4 : (sI (sA (sA (sA σ 2 (nI ng) (vp_nar .boolean (if kd then 1 else 0))) 3 (nI ng) (nI v)) 4 (nI ng) (nI w * nI b + nI a)) 8 (nI ng + 1)).2.1 4 g = if g = ng then nI w * nI b + nI a else σ.2.1 4 g := by
        rw [sI_2, sA_21 _ 4 ng g _ 4 (by omega), sA_21 _ 3 ng g _ 4 (by omega), if_neg (by omega : ¬ ((4 : Nat) = 3 ∧ g = ng)), sA_21 _ 2 ng g _ 4 (by omega), if_neg (by omega : ¬ ((4 : Nat) = 2 ∧ g = ng))]; simp
      have d2 : (sI (sA (sA (sI τ 0 0) 2 (nI ng) (nI ((if kd then 100 else 0) + v))) 3 (nI ng) (nI w * nI b + nI a)) 5 (nI ng + 1)).2.1 2 g = if g = ng then nI ((if kd then 100 else 0) + v) else τ.2.1 2 g := by
        rw [sI_2, sA_21 _ 3 ng g _ 2 (by omega), if_neg (by omega), sA_21 _ 2 ng g _ 2 (by omega)]; simp [sI_2]
      have d3 : (sI (sA (sA (sI τ 0 0) 2 (nI ng) (nI ((if kd then 100 else 0) + v))) 3 (nI ng) (nI w * nI b + nI a)) 5 (nI ng + 1)).2.1 3 g = if g = ng then nI w * nI b + nI a else τ.2.1 3 g := by
        rw [sI_2, sA_21 _ 3 ng g _ 3 (by omega), sA_21 _ 2 ng g _ 3 (by omega)]; simp [sI_2]
      rw [c2, c3, c4, d2, d3]
      by_cases e : g = ng
      · simp only [e, if_true]
        refine ⟨trivial, v, rfl, ?_⟩
        cases kd
        · left
          exact ⟨nar0, hv, by simp⟩
        · right
          exact ⟨nar1, hv, rfl⟩
      · simp only [e, if_false]
        exact g4 g (by omega)
  · have e6 : ng = 6 := by omega
    rw [if_neg (show ¬ nI ng < 6 from nI_nlt (b := 6) h6 (by omega)), if_pos (show nI ng = 6 by rw [e6]; rfl)]
    exact ⟨-1, σ, sI τ 0 0, rfl, rfl, rfl, w, h, nb, ng, nn, hB, hG, hS, hC, hT, hM⟩
theorem pr_goal {N : Nat} {σ τ : St} (hR : Rel σ τ) (z x y : Int32) : Pr hf0 (f_X6_goal N σ z x y) (f_X7_goal N τ z x y) := by
  have hR' := hR
  obtain ⟨w, h, nb, ng, nn, hB, hG, hS, hC, hT, hM⟩ := hR'
  have hB' := hB
  obtain ⟨⟨hw, hh, hnb⟩, ⟨s0, s1, s2, s3, s4, s5, s6⟩, ⟨t1, t2, t4, t3⟩, hbl, hz, hwi, hdj⟩ := hB'
  have bad : ∀ (a : Option XR) (b : Option (Int32 × St)), a = some (.inr 0, σ) → b = some (0, sI τ 0 1) → Pr hf0 a b := by
    intro a b ha hb
    exact Or.inr ⟨0, 0, 1, σ, sI τ 0 1, ha, hb, rfl, by decide, rfl, th_rel hR 1⟩
  unfold f_X6_goal f_X7_goal
  rw [needBlock_nI N s6, isBlock_nI N t4]
  rcases cases_n z (n := nb) (by omega) with h1 | ⟨h1, h2⟩ | ⟨j, hj, rfl⟩
  · simp only [h1, if_true]; exact bad _ _ rfl rfl
  · simp only [h1, h2, if_true, if_false]; exact bad _ _ rfl rfl
  · have q1 := nI_pos (n := j) (by omega)
    have q2 : ¬ nI nb ≤ nI j := nI_ge hj (by omega)
    simp only [q1, q2, if_false]
    rw [bx_inl, bd1_some, if_neg (show ¬ (1 : Int32) = 0 by decide), needCell_nI N s0 s1 hw.1 hh.1, isCell_nI N t1 t2 hw.1 hh.1]
    rcases cell_cases (w := w) (h := h) x y with e | ⟨a, b, ha, hb, rfl, rfl, e⟩
    · rw [if_neg e, if_neg e]; exact bad _ _ rfl rfl
    · rw [if_pos e, if_pos e]
      obtain ⟨r, σ1, τ1, e1, e2, e3, e4⟩ := add_goal (N := N) hB hG hS hC hT hM false (v := j) hj a b
      have e1' : f_X2_add N σ 0 (nI j) (nI w * nI b + nI a) = some (r, σ1) := e1
      have e2' : f_X7_addGoal N (sI τ 0 0) (nI j) (nI a) (nI b) = some (r, τ1) := by
        have := e2
        simpa using this
      refine Or.inl ⟨r, σ1, τ1, ?_, ?_, e3, e4⟩
      · unfold f_X0_cellOf
        rw [bx_inl, s0, bd1_some, e1', bd_some]
      · rw [bd1_some, if_neg (show ¬ (1 : Int32) = 0 by decide), throwsIf_0, bd_some, if_pos rfl, e2', bd_some]
theorem pr_kindGoal {N : Nat} {σ τ : St} (hR : Rel σ τ) (z x y : Int32) : Pr hf2 (f_X6_kindGoal N σ z x y) (f_X7_kindGoal N τ z x y) := by
  have hR' := hR
  obtain ⟨w, h, nb, ng, nn, hB, hG, hS, hC, hT, hM⟩ := hR'
  have hB' := hB
  obtain ⟨⟨hw, hh, hnb⟩, ⟨s0, s1, s2, s3, s4, s5, s6⟩, ⟨t1, t2, t4, t3⟩, hbl, hz, hwi, hdj⟩ := hB'
  unfold f_X6_kindGoal f_X7_kindGoal
  rw [needCell_nI N s0 s1 hw.1 hh.1, isCell_nI N t1 t2 hw.1 hh.1]
  rcases cell_cases (w := w) (h := h) x y with e | ⟨a, b, ha, hb, rfl, rfl, e⟩
  · rw [if_neg e, if_neg e]
    exact Or.inr ⟨0, 0, 1, σ, sI τ 0 1, rfl, rfl, rfl, by decide, rfl, th_rel hR 1⟩
  · rw [if_pos e, if_pos e, bx_inl, bd1_some, if_neg (show ¬ (1 : Int32) = 0 by decide)]
    unfold jn_X7_kindGoal_16
    rw [throwsIf_0, bd_some, if_pos rfl, throwsIf_1, throwsIf_0]
    unfold f_X6_needKind
    by_cases h1 : z < 0
    · rw [if_pos h1, if_pos h1]
      exact Or.inr ⟨1, 0, 2, σ, sI (sI τ 0 0) 0 2, rfl, rfl, rfl, by decide, rfl, th_rel (th_rel hR 0) 2⟩
    · rw [if_neg h1, if_neg h1]
      by_cases h2 : z ≤ 25
      · rw [if_pos h2, if_pos ((c26 h1).mpr h2)]
        obtain ⟨kd, hk, rfl⟩ := kind_nI h1 h2
        obtain ⟨r, σ1, τ1, e1, e2, e3, e4⟩ := add_goal (N := N) hB hG hS hC hT hM true (v := kd) hk a b
        have e1' : f_X2_add N σ 1 (nI kd) (nI w * nI b + nI a) = some (r, σ1) := e1
        have e2' : f_X7_addGoal N (sI (sI τ 0 0) 0 0) (100 + nI kd) (nI a) (nI b) = some (r, τ1) := by
          rw [show (100 : Int32) + nI kd = nI (100 + kd) from nI_add 100 kd, show sI (sI τ 0 0) 0 0 = sI τ 0 0 from ?_]
          · exact e2
          · unfold sI
            congr 1
            funext j
            by_cases hj : j = 0
            · subst hj; rfl
            · simp [upd, hj]
        refine Or.inl ⟨r, σ1, τ1, ?_, ?_, e3, e4⟩
        · unfold f_X0_cellOf
          rw [bx_inl, s0, bd1_some, e1', bd_some]
        · rw [bd_some, if_pos rfl, e2', bd_some]
      · rw [if_neg h2, if_neg (fun e => h2 ((c26 h1).mp e))]
        exact Or.inr ⟨1, 0, 2, σ, sI (sI τ 0 0) 0 2, rfl, rfl, rfl, by decide, rfl, th_rel (th_rel hR 0) 2⟩
theorem pg_5 {σ τ : St} (hR : Rel σ τ) {N : Nat} {xs : Nat → Int32} {L : Nat} {i : Int32} (ho1 : okx (i + 1) L = true) (ho2 : okx (i + 2) L = true) (ho3 : okx (i + 3) L = true) (K : St → St → Option Int32) : ∃ σ1 τ1, Rel σ1 τ1 ∧ g_law_5 N xs L σ τ i K = K σ1 τ1 := by
  obtain ⟨σ1, τ1, h1, h2⟩ := cl_int (pr_goal (N := N) hR (rs xs (i + 1)) (rs xs (i + 2)) (rs xs (i + 3))) K
  refine ⟨σ1, τ1, h1, ?_⟩
  rw [← h2]
  unfold g_law_5 f_L_goal
  simp only [gd_t ho1, gd_t ho2, gd_t ho3]
  rfl
theorem pg_6 {σ τ : St} (hR : Rel σ τ) {N : Nat} {xs : Nat → Int32} {L : Nat} {i : Int32} (ho1 : okx (i + 1) L = true) (ho2 : okx (i + 2) L = true) (ho3 : okx (i + 3) L = true) (K : St → St → Option Int32) : ∃ σ1 τ1, Rel σ1 τ1 ∧ g_law_6 N xs L σ τ i K = K σ1 τ1 := by
  obtain ⟨σ1, τ1, h1, h2⟩ := cl_int (pr_kindGoal (N := N) hR (rs xs (i + 1)) (rs xs (i + 2)) (rs xs (i + 3))) K
  refine ⟨σ1, τ1, h1, ?_⟩
  rw [← h2]
  unfold g_law_6 f_L_kindGoal
  simp only [gd_t ho1, gd_t ho2, gd_t ho3]
  rfl
