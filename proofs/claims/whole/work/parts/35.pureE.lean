/-! calls that may throw: both sides alike -/
def Pr (hf : Nat → St → Option (Int32 × St)) (x : Option XR) (y : Option (Int32 × St)) : Prop :=
  (∃ r σ1 τ1, x = some (.inl r, σ1) ∧ y = some (r, τ1) ∧ τ1.1 0 = 0 ∧ Rel σ1 τ1) ∨ (∃ e r c σ1 τ1, x = some (.inr e, σ1) ∧ y = some (r, τ1) ∧ hf e σ1 = some (c, σ1) ∧ c ≠ 0 ∧ τ1.1 0 = c ∧ Rel σ1 τ1)
theorem cl_int {x : Option XR} {y : Option (Int32 × St)} {hf : Nat → St → Option (Int32 × St)} (hP : Pr hf x y) (K : St → St → Option Int32) :
    ∃ σ1 τ1, Rel σ1 τ1 ∧ bd (bc x (fun r1 σ2 => gd (okx (0 : Int32) 1) (nm (sL σ2 3 (0 : Int32) (Int32.toInt64 r1)) (fun σ4 => some ((0 : Int32), σ4)))) hf) (fun r1 σ2 => bd y (fun r3 τ4 => bd1 (some (τ4.1 0)) (fun r5 => if r5 = r1 then (if r1 = 0 then (gd (okx (0 : Int32) 1) (if (lg_cmp (rl σ2 3 (0 : Int32)) (Int32.toInt64 r3)) = 0 then (K σ2 τ4) else (some 0))) else (K σ2 τ4)) else (some 0)))) = K σ1 τ1 := by
  rcases hP with ⟨r, σ1, τ1, rfl, rfl, h0, hR⟩ | ⟨e, r, c, σ1, τ1, rfl, rfl, hc, hc0, h0, hR⟩
  · refine ⟨_, τ1, sL_rel hR (Int32.toInt64 r), ?_⟩
    simp only [bc, bd, bd1, nm, gd_t okx0, h0, if_true, rl_sL, lg_same]
  · refine ⟨σ1, τ1, hR, ?_⟩
    simp only [bc, hc, bd, bd1, h0, if_true, hc0, if_false]
theorem cl_bool {x : Option XR} {y : Option (Int32 × St)} {hf : Nat → St → Option (Int32 × St)} (hP : Pr hf x y) (K : St → St → Option Int32) :
    ∃ σ1 τ1, Rel σ1 τ1 ∧ bd (bc x (fun r1 σ2 => if r1 = 0 then (gd (okx (0 : Int32) 1) (nm (sL σ2 3 (0 : Int32) (0 : Int64)) (fun σ4 => some ((0 : Int32), σ4)))) else (gd (okx (0 : Int32) 1) (nm (sL σ2 3 (0 : Int32) (1 : Int64)) (fun σ5 => some ((0 : Int32), σ5))))) hf) (fun r1 σ2 => bd y (fun r3 τ4 => bd1 (some (τ4.1 0)) (fun r5 => if r5 = r1 then (if r1 = 0 then (gd (okx (0 : Int32) 1) (if r3 = 0 then (if (lg_cmp (rl σ2 3 (0 : Int32)) (0 : Int64)) = 0 then (K σ2 τ4) else (some 0)) else (if (lg_cmp (rl σ2 3 (0 : Int32)) (1 : Int64)) = 0 then (K σ2 τ4) else (some 0)))) else (K σ2 τ4)) else (some 0)))) = K σ1 τ1 := by
  rcases hP with ⟨r, σ1, τ1, rfl, rfl, h0, hR⟩ | ⟨e, r, c, σ1, τ1, rfl, rfl, hc, hc0, h0, hR⟩
  · by_cases hr : r = 0
    · refine ⟨_, τ1, sL_rel hR 0, ?_⟩
      simp only [bc, bd, bd1, nm, gd_t okx0, h0, hr, if_true, rl_sL, lg_same]
    · refine ⟨_, τ1, sL_rel hR 1, ?_⟩
      simp only [bc, bd, bd1, nm, gd_t okx0, h0, hr, if_true, if_false, rl_sL, lg_same]
  · refine ⟨σ1, τ1, hR, ?_⟩
    simp only [bc, hc, bd, bd1, h0, if_true, hc0, if_false]
abbrev hf0 : Nat → St → Option (Int32 × St) := fun e3 σ2 => if e3 = 0 then (some ((1 : Int32), σ2)) else (none)
/-! place -/
theorem isBlock_nI (N : Nat) {τ : St} {nb : Nat} (h4 : τ.1 4 = nI nb) (x : Int32) : f_X7_isBlock N τ x = some (if x < 0 then 0 else if nI nb ≤ x then 0 else 1) := by
  unfold f_X7_isBlock
  rw [h4]
  split
  · rfl
  · split <;> rfl
theorem needBlock_nI (N : Nat) {σ : St} {nb : Nat} (h6 : σ.1 6 = nI nb) (x : Int32) : f_X6_needBlock N σ x = some (if x < 0 then .inr 0 else if nI nb ≤ x then .inr 0 else .inl 0, σ) := by
  unfold f_X6_needBlock
  rw [h6]
  by_cases h1 : x < 0
  · rw [if_pos h1, if_pos h1]
  · rw [if_neg h1, if_neg h1]
    by_cases h2 : nI nb ≤ x
    · rw [if_pos h2, if_neg (Int32.not_lt.mpr h2)]
    · rw [if_neg h2, if_pos (Int32.not_le.mp h2)]
theorem throwsIf_0 (N : Nat) (τ : St) (c : Int32) : f_X7_throwsIf N τ c 0 = some (0, sI τ 0 0) := rfl
theorem throwsIf_1 (N : Nat) (τ : St) (c : Int32) : f_X7_throwsIf N τ c 1 = some (1, sI τ 0 c) := rfl
theorem inb_mono {x : Int32} {m n : Nat} (h : inb x m) (hm : m ≤ n) : inb x n := fun i hi hn => h i hi (by omega)
theorem wh25 {w h : Nat} (hw : w < 6) (hh : h < 6) : w * h ≤ 25 := Nat.mul_le_mul (show w ≤ 5 by omega) (show h ≤ 5 by omega)
theorem pr_place {N : Nat} (hN : 100 ≤ N) {σ τ : St} (hR : Rel σ τ) (x : Int32) : Pr hf0 (f_X6_place N σ x) (f_X7_place N τ x) := by
  have hR' := hR
  obtain ⟨w, h, nb, ng, nn, ⟨⟨hw, hh, hnb⟩, ⟨s0, s1, s2, s3, s4, s5, s6⟩, ⟨t1, t2, t4, t3⟩, hbl, hz, hwi, hdj⟩, -⟩ := hR'
  unfold f_X6_place f_X7_place
  rw [needBlock_nI N s6, isBlock_nI N t4]
  rcases cases_n x (n := nb) (by omega) with h1 | ⟨h1, h2⟩ | ⟨j, hj, rfl⟩
  · refine Or.inr ⟨0, 0, 1, σ, sI τ 0 1, ?_, ?_, rfl, by decide, rfl, th_rel hR 1⟩
    · simp only [h1, if_true, bx]
    · simp only [h1, if_true, bd1, throwsIf_1, bd, show ¬ ((1 : Int32) = 0) by decide, if_false]
  · refine Or.inr ⟨0, 0, 1, σ, sI τ 0 1, ?_, ?_, rfl, by decide, rfl, th_rel hR 1⟩
    · simp only [h1, h2, if_true, if_false, bx]
    · simp only [h1, h2, if_true, if_false, bd1, throwsIf_1, bd, show ¬ ((1 : Int32) = 0) by decide]
  · have q1 := nI_pos (n := j) (by omega)
    have q2 : ¬ nI nb ≤ nI j := nI_ge hj (by omega)
    obtain ⟨e0, e1, hi, -⟩ := hbl j hj
    refine Or.inl ⟨plc (σ.2.1 1 j), σ, sI τ 0 0, ?_, ?_, rfl, th_rel hR 0⟩
    · simp only [q1, q2, if_false, bx]
      rw [gd_t (okx_nI (by omega) (by omega)), ra_nI _ _ (by omega), leastCell_plc N σ (inb_mono hi (wh25 hw.1 hh.1))]
      rfl
    · simp only [q1, q2, if_false, bd1, throwsIf_0, bd, show ¬ ((1 : Int32) = 0) by decide, if_true]
      rw [gd_t (okx_nI (by omega) (by omega)), ra_nI _ _ (by omega), sI_2, e1, placeOf_plc hN _ (inb_mono hi (wh25 hw.1 hh.1))]
theorem pg_3 {σ τ : St} (hR : Rel σ τ) {N : Nat} (hN : 100 ≤ N) {xs : Nat → Int32} {L : Nat} {i : Int32} (ho : okx (i + 1) L = true) (K : St → St → Option Int32) : ∃ σ1 τ1, Rel σ1 τ1 ∧ g_law_3 N xs L σ τ i K = K σ1 τ1 := by
  obtain ⟨σ1, τ1, h1, h2⟩ := cl_int (pr_place hN hR (rs xs (i + 1))) K
  refine ⟨σ1, τ1, h1, ?_⟩
  rw [← h2]
  unfold g_law_3 f_L_place
  rw [gd_t ho]
  simp only [gd_t ho]
  rfl
