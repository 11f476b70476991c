/-! picture -/
theorem lp_pic (N : Nat) {σ τ : St} {nb : Nat} (hnb : nb ≤ 8) (s6 : σ.1 6 = nI nb) (t4 : τ.1 4 = nI nb) (hr : ∀ b, b < nb → τ.2.1 0 b = σ.2.1 0 b ∧ τ.2.1 1 b = σ.2.1 1 b) (x : Int32) : ∀ (d n n' i : Nat), i + d = nb → d < n → d < n' → ∃ r, lp_X0_cellByte_14 N σ x n (nI i) = some r ∧ lp_X7_picture_79 N τ x n' (nI i) = some (r, τ) := by
  intro d
  induction d with
  | zero =>
    intro n n' i hi hn hn'
    obtain ⟨n, rfl⟩ : ∃ m, n = m + 1 := ⟨n - 1, by omega⟩
    obtain ⟨n', rfl⟩ : ∃ m, n' = m + 1 := ⟨n' - 1, by omega⟩
    refine ⟨46, ?_, ?_⟩
    · rw [lp_X0_cellByte_14, s6, if_pos (nI_le (by omega) (by omega))]
    · rw [lp_X7_picture_79, t4, if_pos (nI_le (by omega) (by omega))]
  | succ d ih =>
    intro n n' i hi hn hn'
    obtain ⟨n, rfl⟩ : ∃ m, n = m + 1 := ⟨n - 1, by omega⟩
    obtain ⟨n', rfl⟩ : ∃ m, n' = m + 1 := ⟨n' - 1, by omega⟩
    obtain ⟨r, e1, e2⟩ := ih n n' (i + 1) (by omega) (by omega) (by omega)
    obtain ⟨q0, q1⟩ := hr i (by omega)
    have o8 : okx (nI i) 8 = true := okx_nI (by omega) (by omega)
    rw [lp_X0_cellByte_14, lp_X7_picture_79, s6, t4, if_neg (nI_ge (by omega) (by omega)), if_neg (nI_ge (by omega) (by omega)), gd_t o8, gd_t o8, gd_t o8, gd_t o8, ra_nI _ _ (by omega), ra_nI _ _ (by omega), ra_nI _ _ (by omega), ra_nI _ _ (by omega), nm_eq, nm_eq, nI_1, q0, q1]
    by_cases hz : σ.2.1 1 i &&& x = 0
    · rw [if_pos hz, if_pos hz]
      exact ⟨r, e1, e2⟩
    · rw [if_neg hz, if_neg hz]
      exact ⟨_, rfl, rfl⟩
theorem picture_ok {N : Nat} (hN : 100 ≤ N) {σ τ : St} (hR : Rel σ τ) (x : Int32) : ∃ r, f_X6_picture N σ x = some r ∧ f_X7_picture N τ x = some (r, sI τ 0 0) := by
  obtain ⟨w, h, nb, ng, nn, ⟨⟨hw, hh, hnb⟩, ⟨s0, s1, s2, s3, s4, s5, s6⟩, ⟨t1, t2, t4, t3⟩, hbl, hz, hwi, hdj⟩, -⟩ := hR
  unfold f_X6_picture f_X7_picture
  rw [nm_eq]
  by_cases hx : x < 0
  · exact ⟨-1, by rw [if_neg (Int32.not_le.mpr hx)], by rw [if_pos hx]⟩
  · obtain ⟨j, hj, rfl⟩ := nI_of hx
    rw [if_neg hx, if_pos (nI_pos' hj), show (sI τ 0 0).1 1 = nI w from t1, show (sI τ 0 0).1 2 = nI h from t2, show (sI τ 0 0).1 3 = σ.1 7 from t3]
    unfold f_X0_pictureByte
    have hw1 : ¬ nI (w + 1) = 0 := nI_ne0 (by omega) (by omega)
    have hbig : (w + 1) * h ≤ 30 := Nat.mul_le_mul (show w + 1 ≤ 6 by omega) (show h ≤ 5 by omega)
    have ejr : jrem (nI j) (nI (w + 1)) = nI (j % (w + 1)) := by unfold jrem; exact pk_rem hj (by omega) (by omega)
    have ejd : nI j / nI (w + 1) = nI (j / (w + 1)) := pk_div hj (by omega) (by omega)
    have hdl : j / (w + 1) ≤ j := Nat.div_le_self _ _
    rw [s0, s1, nI_1, gd_t (decide_eq_true hw1), nm_eq, gd_t (decide_eq_true hw1), nm_eq, gd_t (decide_eq_true hw1), nm_eq, gd_t (decide_eq_true hw1), nm_eq, ejr, ejd, pk_mul]
    by_cases hl : j < (w + 1) * h
    · have hl2 : j / (w + 1) < h := Nat.div_lt_of_lt_mul hl
      rw [if_pos (nI_lt hl2 (by omega)), if_pos (nI_lt hl (by omega))]
      by_cases he : nI (j % (w + 1)) = nI w
      · rw [if_pos he, if_pos he]
        exact ⟨10, rfl, rfl⟩
      · rw [if_neg he, if_neg he, bitOf_nI N s0, bd1_some, cell_nI]
        unfold f_X0_cellByte
        rw [show jshl 1 (nI (w * (j / (w + 1)) + j % (w + 1))) = one (w * (j / (w + 1)) + j % (w + 1)) from rfl]
        by_cases hk : σ.1 7 &&& one (w * (j / (w + 1)) + j % (w + 1)) = 0
        · rw [if_pos hk, if_pos hk]
          obtain ⟨r, e1, e2⟩ := lp_pic N (τ := sI τ 0 0) hnb s6 t4 (fun b hb => ⟨(hbl b hb).1, (hbl b hb).2.1⟩) (one (w * (j / (w + 1)) + j % (w + 1))) nb N N 0 (by omega) (by omega) (by omega)
          have e1 : lp_X0_cellByte_14 N σ (one (w * (j / (w + 1)) + j % (w + 1))) N 0 = some r := e1
          rw [e1, bd1_some, bd1_some]
          exact ⟨r, rfl, e2⟩
        · rw [if_neg hk, if_neg hk]
          exact ⟨35, rfl, rfl⟩
    · have hl2 : ¬ j / (w + 1) < h := fun e => hl (by
        have := (Nat.div_lt_iff_lt_mul (show 0 < w + 1 by omega)).mp e
        rw [Nat.mul_comm]; exact this)
      rw [if_neg (nI_nlt (by omega) (by omega)), if_neg (nI_nlt (by omega) (by omega))]
      exact ⟨-1, rfl, rfl⟩
theorem pg_13 {σ τ : St} (hR : Rel σ τ) {N : Nat} (hN : 100 ≤ N) {xs : Nat → Int32} {L : Nat} {i : Int32} (ho : okx (i + 1) L = true) (K : St → St → Option Int32) : ∃ σ1 τ1, Rel σ1 τ1 ∧ g_law_13 N xs L σ τ i K = K σ1 τ1 := by
  refine ⟨σ, sI τ 0 0, th_rel hR 0, ?_⟩
  obtain ⟨r, e1, e2⟩ := picture_ok hN hR (rs xs (i + 1))
  unfold g_law_13
  rw [gd_t ho, e1, bd1_some, gd_t ho, e2, bd_some, if_pos rfl]
