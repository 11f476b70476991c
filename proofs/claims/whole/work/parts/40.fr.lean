/-! the parts of the relation look at their own rows alone -/
theorem RB_fr {w h nb : Nat} {σ τ σ' τ' : St} (H : RB w h nb σ τ) (hI : ∀ j, j < 8 → σ'.1 j = σ.1 j) (h0 : σ'.2.1 0 = σ.2.1 0) (h1 : σ'.2.1 1 = σ.2.1 1) (tI : ∀ j, 1 ≤ j → j < 5 → τ'.1 j = τ.1 j) (t0 : τ'.2.1 0 = τ.2.1 0) (t1 : τ'.2.1 1 = τ.2.1 1) : RB w h nb σ' τ' := by
  unfold RB at *
  rw [hI 0 (by omega), hI 1 (by omega), hI 2 (by omega), hI 3 (by omega), hI 4 (by omega), hI 5 (by omega), hI 6 (by omega), hI 7 (by omega), h0, h1, tI 1 (by omega) (by omega), tI 2 (by omega) (by omega), tI 3 (by omega) (by omega), tI 4 (by omega) (by omega), t0, t1]
  exact H
theorem RG_fr {nb ng : Nat} {σ τ σ' τ' : St} (H : RG nb ng σ τ) (h8 : σ'.1 8 = σ.1 8) (h2 : σ'.2.1 2 = σ.2.1 2) (h3 : σ'.2.1 3 = σ.2.1 3) (h4 : σ'.2.1 4 = σ.2.1 4) (t5 : τ'.1 5 = τ.1 5) (t2 : τ'.2.1 2 = τ.2.1 2) (t3 : τ'.2.1 3 = τ.2.1 3) : RG nb ng σ' τ' := by
  unfold RG at *
  rw [h8, h2, h3, h4, t5, t2, t3]
  exact H
theorem RS_fr {σ τ σ' τ' : St} (H : RS σ τ) (h13 : σ'.1 13 = σ.1 13) (h14 : σ'.1 14 = σ.1 14) (ha : σ'.2.1 14 = σ.2.1 14) (t7 : τ'.1 7 = τ.1 7) (t8 : τ'.1 8 = τ.1 8) (ta : τ'.2.1 12 = τ.2.1 12) : RS σ' τ' := by
  unfold RS at *
  rw [h13, h14, ha, t7, t8, ta]
  exact H
theorem RC_fr {σ σ' : St} (H : RC σ) (h12 : σ'.1 12 = σ.1 12) (ha : σ'.2.1 12 = σ.2.1 12) (hl : σ'.2.2 0 = σ.2.2 0) : RC σ' := by
  unfold RC at *
  rw [h12, ha, hl]
  exact H
theorem RT_fr {nn : Nat} {σ τ σ' τ' : St} (H : RT nn σ τ) (h15 : σ'.1 15 = σ.1 15) (ha : σ'.2.1 15 = σ.2.1 15) (hb : σ'.2.1 16 = σ.2.1 16) (t9 : τ'.1 9 = τ.1 9) (ta : τ'.2.1 13 = τ.2.1 13) (tb : τ'.2.1 14 = τ.2.1 14) : RT nn σ' τ' := by
  unfold RT at *
  rw [h15, ha, hb, t9, ta, tb]
  exact H
theorem RM_fr {σ σ' : St} (H : RM σ) (h16 : σ'.1 16 = σ.1 16) (ha : σ'.2.1 18 = σ.2.1 18) (hl : σ'.2.2 2 = σ.2.2 2) : RM σ' := by
  unfold RM at *
  rw [h16, ha, hl]
  exact H
/-- nothing but the int row a has changed -/
def O1 (a : Nat) (σ σ' : St) : Prop := σ'.1 = σ.1 ∧ (∀ b, b ≠ a → σ'.2.1 b = σ.2.1 b) ∧ σ'.2.2 = σ.2.2
theorem O1.rf {a : Nat} {σ : St} : O1 a σ σ := ⟨rfl, fun _ _ => rfl, rfl⟩
theorem O1.tr {a : Nat} {σ σ1 σ2 : St} (h1 : O1 a σ σ1) (h2 : O1 a σ1 σ2) : O1 a σ σ2 := ⟨h2.1.trans h1.1, fun b hb => (h2.2.1 b hb).trans (h1.2.1 b hb), h2.2.2.trans h1.2.2⟩
theorem O1.sA {a : Nat} {σ : St} (i v : Int32) : O1 a σ (sA σ a i v) := ⟨rfl, fun b hb => by show (if b = a then _ else σ.2.1 b) = _; rw [if_neg hb], rfl⟩
/-! node, tile, swap, shift, join -/
theorem isNode_nI (N : Nat) {τ : St} {nn : Nat} (h9 : τ.1 9 = nI nn) (x : Int32) : f_X7_isNode N τ x = some (if x < 0 then 0 else if nI nn ≤ x then 0 else 1) := by
  unfold f_X7_isNode
  rw [h9]
  split
  · rfl
  · split <;> rfl
theorem needNode_nI (N : Nat) {σ : St} {nn : Nat} (h15 : σ.1 15 = nI nn) (x : Int32) : f_X6_needNode N σ x = some (if x < 0 then .inr 0 else if nI nn ≤ x then .inr 0 else .inl 0, σ) := by
  unfold f_X6_needNode
  rw [h15]
  by_cases h1 : x < 0
  · rw [if_pos h1, if_pos h1]
  · rw [if_neg h1, if_neg h1]
    by_cases h2 : nI nn ≤ x
    · rw [if_pos h2, if_neg (Int32.not_lt.mpr h2)]
    · rw [if_neg h2, if_pos (Int32.not_le.mp h2)]
theorem pr_tile {N : Nat} {σ τ : St} (hR : Rel σ τ) (x : Int32) : Pr hf0 (f_X6_tile N σ x) (f_X7_tile N τ x) := by
  have hR' := hR
  obtain ⟨w, h, nb, ng, nn, -, -, -, -, ⟨hnn, s15, t9, ⟨t, hp, ht⟩, -⟩, -⟩ := hR'
  unfold f_X6_tile f_X7_tile
  rw [needNode_nI N s15, isNode_nI N t9]
  rcases cases_n x (n := nn) (by omega) with h1 | ⟨h1, h2⟩ | ⟨j, hj, rfl⟩
  · refine Or.inr ⟨0, 0, 1, σ, sI τ 0 1, ?_, ?_, rfl, by decide, rfl, th_rel hR 1⟩
    · simp only [h1, if_true, bx]
    · simp only [h1, if_true, bd1, throwsIf_1, bd, show ¬ ((1 : Int32) = 0) by decide, if_false]
  · refine Or.inr ⟨0, 0, 1, σ, sI τ 0 1, ?_, ?_, rfl, by decide, rfl, th_rel hR 1⟩
    · simp only [h1, h2, if_true, if_false, bx]
    · simp only [h1, h2, if_true, if_false, bd1, throwsIf_1, bd, show ¬ ((1 : Int32) = 0) by decide]
  · have q1 := nI_pos (n := j) (by omega)
    have q2 : ¬ nI nn ≤ nI j := nI_ge hj (by omega)
    refine Or.inl ⟨nI (t j), σ, sI τ 0 0, ?_, ?_, rfl, th_rel hR 0⟩
    · simp only [q1, q2, if_false, bx]
      rw [gd_t (okx_nI (by omega) (by omega)), ra_nI _ _ (by omega), (ht j hj).1]
    · simp only [q1, q2, if_false, bd1, throwsIf_0, bd, show ¬ ((1 : Int32) = 0) by decide, if_true]
      rw [gd_t (okx_nI (by omega) (by omega)), ra_nI _ _ (by omega), sI_2, (ht j hj).2]
theorem pg_16 {σ τ : St} (hR : Rel σ τ) {N : Nat} {xs : Nat → Int32} {L : Nat} {i : Int32} (ho : okx (i + 1) L = true) (K : St → St → Option Int32) : ∃ σ1 τ1, Rel σ1 τ1 ∧ g_law_16 N xs L σ τ i K = K σ1 τ1 := by
  obtain ⟨σ1, τ1, h1, h2⟩ := cl_int (pr_tile (N := N) hR (rs xs (i + 1))) K
  refine ⟨σ1, τ1, h1, ?_⟩
  rw [← h2]
  unfold g_law_16 f_L_tile
  simp only [gd_t ho]
  rfl
