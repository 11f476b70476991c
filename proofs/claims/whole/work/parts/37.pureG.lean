/-! block, cell, goals -/
abbrev hf1 : Nat → St → Option (Int32 × St) := fun e3 σ2 => if e3 = 1 then (some ((1 : Int32), σ2)) else (none)
theorem c26 {x : Int32} (h1 : ¬ x < 0) : (x < 26 ↔ x ≤ 25) := by
  rw [Int32.lt_iff_toInt_lt, Int32.le_iff_toInt_le]
  have a : (26 : Int32).toInt = 26 := rfl
  have b : (25 : Int32).toInt = 25 := rfl
  omega
theorem kind_nI {x : Int32} (h1 : ¬ x < 0) (h2 : x ≤ 25) : ∃ kd : Nat, kd < 26 ∧ x = nI kd := by
  obtain ⟨j, hj, rfl⟩ := nI_of2 (M := 25) (n := 25) rfl h1 h2
  exact ⟨j, by omega, rfl⟩
theorem RB_block {w h nb kd : Nat} {σ τ : St} (hB : RB w h nb σ τ) (hnb : nb < 8) (hk : kd < 26) : RB w h (nb + 1) (sI (sA σ 0 (nI nb) (nI kd)) 6 (nI (nb + 1))) (sI (sA (sA (sI τ 0 0) 0 (nI nb) (nI kd)) 1 (nI nb) 0) 4 (nI (nb + 1))) := by
  obtain ⟨⟨hw, hh, hnb'⟩, ⟨s0, s1, s2, s3, s4, s5, s6⟩, ⟨t1, t2, t4, t3⟩, hbl, hz, hwi, hdj⟩ := hB
  have a0 : ∀ b, (sI (sA σ 0 (nI nb) (nI kd)) 6 (nI (nb + 1))).2.1 0 b = if b = nb then nI kd else σ.2.1 0 b := fun b => by
    rw [sI_2, sA_21 σ 0 nb b (nI kd) 0 (by omega)]; simp
  have a1 : ∀ b, (sI (sA σ 0 (nI nb) (nI kd)) 6 (nI (nb + 1))).2.1 1 b = σ.2.1 1 b := fun b => rfl
  have b0 : ∀ b, (sI (sA (sA (sI τ 0 0) 0 (nI nb) (nI kd)) 1 (nI nb) 0) 4 (nI (nb + 1))).2.1 0 b = if b = nb then nI kd else τ.2.1 0 b := fun b => by
    rw [sI_2, sA_21 _ 1 nb b 0 0 (by omega), if_neg (by omega), sA_21 _ 0 nb b (nI kd) 0 (by omega)]; simp [sI_2]
  have b1 : ∀ b, (sI (sA (sA (sI τ 0 0) 0 (nI nb) (nI kd)) 1 (nI nb) 0) 4 (nI (nb + 1))).2.1 1 b = if b = nb then 0 else τ.2.1 1 b := fun b => by
    rw [sI_2, sA_21 _ 1 nb b 0 1 (by omega), sA_21 _ 0 nb b (nI kd) 1 (by omega)]; simp [sI_2]
  refine ⟨⟨hw, hh, by omega⟩, ⟨s0, s1, s2, s3, s4, s5, rfl⟩, ⟨t1, t2, rfl, t3⟩, ?_, ?_, hwi, ?_, ?_⟩
  · intro b hb
    rw [a0, a1, b0, b1]
    by_cases e : b = nb
    · subst e
      rw [if_pos rfl, if_pos rfl, if_pos rfl, hz b (Nat.le_refl _) hnb]
      exact ⟨rfl, rfl, fun i _ _ => b_0 i, kd, hk, rfl⟩
    · rw [if_neg e, if_neg e, if_neg e]
      exact hbl b (by omega)
  · intro b hb hb8
    rw [a1]
    exact hz b (by omega) hb8
  · intro b hb i hi hbi
    rw [a1] at hbi
    by_cases e : b = nb
    · subst e; rw [hz b (Nat.le_refl _) hnb, b_0] at hbi; cases hbi
    · exact hdj.1 b (by omega) i hi hbi
  · intro a b ha hb hab i hi hbi
    rw [a1] at hbi ⊢
    by_cases e : a = nb
    · subst e; rw [hz a (Nat.le_refl _) hnb, b_0] at hbi; cases hbi
    · by_cases e2 : b = nb
      · subst e2; rw [hz b (Nat.le_refl _) hnb, b_0]
      · exact hdj.2 a b (by omega) (by omega) hab i hi hbi
theorem RG_more {nb ng : Nat} {σ τ : St} (h : RG nb ng σ τ) : RG (nb + 1) ng σ τ := by
  obtain ⟨h1, h2, h3, h4⟩ := h
  refine ⟨h1, h2, h3, fun g hg => ?_⟩
  obtain ⟨e, v, hv, hc⟩ := h4 g hg
  refine ⟨e, v, hv, ?_⟩
  rcases hc with ⟨c1, c2, c3⟩ | hc
  · exact Or.inl ⟨c1, by omega, c3⟩
  · exact Or.inr hc
theorem pr_block {N : Nat} {σ τ : St} (hR : Rel σ τ) (x : Int32) : Pr hf1 (f_X6_block N σ x) (f_X7_block N τ x) := by
  have hR' := hR
  obtain ⟨w, h, nb, ng, nn, hB, hG, hS, hC, hT, hM⟩ := hR'
  have hB' := hB
  obtain ⟨⟨hw, hh, hnb⟩, ⟨s0, s1, s2, s3, s4, s5, s6⟩, ⟨t1, t2, t4, t3⟩, hbl, hz, hwi, hdj⟩ := hB'
  have bad : ∀ y : Option (Int32 × St), y = jn_X7_block_12 N τ x 1 → f_X6_needKind N σ x = some (.inr 1, σ) → Pr hf1 (f_X6_block N σ x) y := by
    intro y hy hk
    refine Or.inr ⟨1, 0, 1, σ, sI τ 0 1, ?_, ?_, rfl, by decide, rfl, th_rel hR 1⟩
    · unfold f_X6_block
      rw [hk]; rfl
    · rw [hy]
      unfold jn_X7_block_12 jn_X7_block_17
      rw [throwsIf_1]; rfl
  by_cases h1 : x < 0
  · refine bad _ (by unfold f_X7_block; rw [if_pos h1]) (by unfold f_X6_needKind; rw [if_pos h1])
  · by_cases h2 : x ≤ 25
    · obtain ⟨kd, hk, rfl⟩ := kind_nI h1 h2
      have e1 : f_X6_needKind N σ (nI kd) = some (.inl 0, σ) := by unfold f_X6_needKind; rw [if_neg h1, if_pos ((c26 h1).mpr h2)]
      have e2 : f_X7_block N τ (nI kd) = jn_X7_block_17 N τ (nI kd) 0 1 := by unfold f_X7_block; rw [if_neg h1, if_pos h2]
      rw [e2]
      unfold f_X6_block jn_X7_block_17
      rw [e1, throwsIf_0, bx_inl, bd_some, if_pos rfl]
      unfold f_X0_addBlock
      simp only [nm]
      rw [s6, show (sI τ 0 0).1 4 = nI nb from t4]
      rcases Nat.lt_or_ge nb 8 with h8 | h8
      · rw [if_pos (show nI nb < 8 from nI_lt (b := 8) h8 (by omega)), gd_t (okx_nI h8 (by omega)), if_neg (show ¬ nI nb = 8 from fun e => by have := (nI_eq (a := nb) (b := 8) (by omega) (by omega)).mp e; omega), gd_t (okx_nI h8 (by omega))]
        have q1 : (sA σ 0 (nI nb) (nI kd)).1 6 + 1 = nI (nb + 1) := by rw [sA_1, s6, nI_1]
        have q2 : (sA (sI τ 0 0) 0 (nI nb) (nI kd)).1 4 = nI nb := t4
        rw [q1, q2, gd_t (okx_nI h8 (by omega))]
        have q3 : (sA (sA (sI τ 0 0) 0 (nI nb) (nI kd)) 1 (nI nb) 0).1 4 + 1 = nI (nb + 1) := by
          show τ.1 4 + 1 = _
          rw [t4, nI_1]
        rw [q3]
        refine Or.inl ⟨nI (nb + 1) - 1, _, _, rfl, rfl, rfl, w, h, nb + 1, ng, nn, RB_block hB h8 hk, RG_more ?_, hS, hC, hT, hM⟩
        obtain ⟨g1, g2, g3, g4⟩ := hG
        exact ⟨g1, g2, g3, g4⟩
      · have e8 : nb = 8 := by omega
        rw [if_neg (show ¬ nI nb < 8 from nI_nlt (b := 8) h8 (by omega)), if_pos (show nI nb = 8 by rw [e8]; rfl)]
        exact Or.inl ⟨-1, σ, sI τ 0 0, rfl, rfl, rfl, th_rel hR 0⟩
    · refine bad _ (by unfold f_X7_block; rw [if_neg h1, if_neg h2]) (by unfold f_X6_needKind; rw [if_neg h1, if_neg (fun e => h2 ((c26 h1).mp e))])
theorem pg_1 {σ τ : St} (hR : Rel σ τ) {N : Nat} {xs : Nat → Int32} {L : Nat} {i : Int32} (ho : okx (i + 1) L = true) (K : St → St → Option Int32) : ∃ σ1 τ1, Rel σ1 τ1 ∧ g_law_1 N xs L σ τ i K = K σ1 τ1 := by
  obtain ⟨σ1, τ1, h1, h2⟩ := cl_int (pr_block (N := N) hR (rs xs (i + 1))) K
  refine ⟨σ1, τ1, h1, ?_⟩
  rw [← h2]
  unfold g_law_1 f_L_block
  simp only [gd_t ho]
  rfl
