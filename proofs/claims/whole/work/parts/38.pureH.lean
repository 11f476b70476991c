/-! cell, goals -/
theorem RB_cell {w h nb c j : Nat} {σ τ : St} (hB : RB w h nb σ τ) (hc : c < w * h) (hj : j < nb) (hf : bt (orm (σ.1 7) (σ.2.1 1) nb) c = false) : RB w h nb (sA σ 1 (nI j) (σ.2.1 1 j ||| one c)) (sA (sI τ 0 0) 1 (nI j) (τ.2.1 1 j ||| one c)) := by
  obtain ⟨⟨hw, hh, hnb⟩, ⟨s0, s1, s2, s3, s4, s5, s6⟩, ⟨t1, t2, t4, t3⟩, hbl, hz, hwi, hdj⟩ := hB
  have h25 := wh25 hw.1 hh.1
  have a1 : ∀ b, (sA σ 1 (nI j) (σ.2.1 1 j ||| one c)).2.1 1 b = if b = j then σ.2.1 1 j ||| one c else σ.2.1 1 b := fun b => by rw [sA_21 σ 1 j b _ 1 (by omega)]; simp
  have b1 : ∀ b, (sA (sI τ 0 0) 1 (nI j) (τ.2.1 1 j ||| one c)).2.1 1 b = if b = j then τ.2.1 1 j ||| one c else τ.2.1 1 b := fun b => by rw [sA_21 _ 1 j b _ 1 (by omega)]; simp [sI_2]
  have hno : bt (σ.1 7) c = false ∧ ∀ b, b < nb → bt (σ.2.1 1 b) c = false := by
    constructor
    · cases e : bt (σ.1 7) c
      · rfl
      · rw [(bt_orm _ _ _ _).mpr (Or.inl e)] at hf; cases hf
    · intro b hb
      cases e : bt (σ.2.1 1 b) c
      · rfl
      · rw [(bt_orm _ _ _ _).mpr (Or.inr ⟨b, hb, e⟩)] at hf; cases hf
  have key : ∀ i, i < 32 → bt (σ.2.1 1 j ||| one c) i = (bt (σ.2.1 1 j) i || decide (i = c)) := fun i hi => by rw [b_or, bt_one' (by omega) hi]
  refine ⟨⟨hw, hh, hnb⟩, ⟨s0, s1, s2, s3, s4, s5, s6⟩, ⟨t1, t2, t4, t3⟩, ?_, ?_, hwi, ?_, ?_⟩
  · intro b hb
    rw [a1, b1]
    obtain ⟨e0, e1, hi, hk⟩ := hbl b hb
    refine ⟨e0, ?_, ?_, hk⟩
    · by_cases e : b = j
      · subst e; rw [if_pos rfl, if_pos rfl, e1]
      · rw [if_neg e, if_neg e, e1]
    · by_cases e : b = j
      · subst e
        rw [if_pos rfl]
        intro i hi9 hn
        rw [key i hi9, hi i hi9 hn, decide_eq_false (by omega)]
        rfl
      · rw [if_neg e]; exact hi
  · intro b hb hb8
    rw [a1, if_neg (by omega)]
    exact hz b hb hb8
  · intro b hb i hi hbi
    rw [a1] at hbi
    by_cases e : b = j
    · rw [if_pos e, key i hi, Bool.or_eq_true] at hbi
      rcases hbi with hbi | hbi
      · exact hdj.1 j hj i hi hbi
      · rw [of_decide_eq_true hbi]; exact hno.1
    · rw [if_neg e] at hbi
      exact hdj.1 b hb i hi hbi
  · intro a b ha hb hab i hi hbi
    rw [a1] at hbi ⊢
    by_cases e : a = j
    · rw [if_pos e, key i hi, Bool.or_eq_true] at hbi
      rw [if_neg (by omega)]
      rcases hbi with hbi | hbi
      · exact hdj.2 j b hj hb (by omega) i hi hbi
      · rw [of_decide_eq_true hbi]; exact hno.2 b hb
    · rw [if_neg e] at hbi
      by_cases e2 : b = j
      · rw [if_pos e2, key i hi, hdj.2 a j ha hj (by omega) i hi hbi]
        by_cases e3 : i = c
        · subst e3; rw [hno.2 a ha] at hbi; cases hbi
        · rw [decide_eq_false e3]; rfl
      · rw [if_neg e2]
        exact hdj.2 a b ha hb hab i hi hbi
theorem pr_cell {N : Nat} (hN : 100 ≤ N) {σ τ : St} (hR : Rel σ τ) (z x y : Int32) : Pr hf0 (f_X6_cell N σ z x y) (f_X7_cell N τ z x y) := by
  have hR' := hR
  obtain ⟨w, h, nb, ng, nn, hB, hrest⟩ := hR'
  have hB' := hB
  obtain ⟨⟨hw, hh, hnb⟩, ⟨s0, s1, s2, s3, s4, s5, s6⟩, ⟨t1, t2, t4, t3⟩, hbl, hz, hwi, hdj⟩ := hB'
  have h25 := wh25 hw.1 hh.1
  have bad : ∀ (a : Option XR) (b : Option (Int32 × St)), a = some (.inr 0, σ) → b = jn_X7_cell_19 N τ z x y 1 → Pr hf0 a b := by
    intro a b ha hb
    refine Or.inr ⟨0, 0, 1, σ, sI τ 0 1, ha, ?_, rfl, by decide, rfl, th_rel hR 1⟩
    rw [hb]
    unfold jn_X7_cell_19 jn_X7_cell_24
    rw [throwsIf_1]; rfl
  unfold f_X6_cell f_X7_cell
  rw [needBlock_nI N s6, isBlock_nI N t4]
  rcases cases_n z (n := nb) (by omega) with h1 | ⟨h1, h2⟩ | ⟨j, hj, rfl⟩
  · simp only [h1, if_true]; exact bad _ _ rfl rfl
  · simp only [h1, h2, if_true, if_false]; exact bad _ _ rfl rfl
  · have q1 := nI_pos (n := j) (by omega)
    have q2 : ¬ nI nb ≤ nI j := nI_ge hj (by omega)
    simp only [q1, q2, if_false]
    rw [bx_inl, bd1_some, if_neg (show ¬ (1 : Int32) = 0 by decide), needCell_nI N s0 s1 hw.1 hh.1, isCell_nI N t1 t2 hw.1 hh.1]
    rcases cell_cases (w := w) (h := h) x y with e | ⟨a, b, ha, hb, rfl, rfl, e⟩
    · rw [if_neg e, if_neg e]; exact bad _ _ rfl rfl
    · have hc := cell_no ha hb
      rw [if_pos e, if_pos e, bx_inl, bd1_some, if_neg (show ¬ (1 : Int32) = 0 by decide), bitOf_nI N s0, bd1_some]
      unfold f_X0_addCell jn_X7_cell_24
      simp only [nm]
      rw [filled_ok hN hnb s6, throwsIf_0, bd1_some, bd_some, if_pos (show (0 : Int32) = 0 from rfl)]
      have hbk : f_X7_blocked N (sI τ 0 0) = some (orm (τ.1 3) (τ.2.1 1) nb) := blocked_ok hN hnb t4
      have eo : orm (τ.1 3) (τ.2.1 1) nb = orm (σ.1 7) (σ.2.1 1) nb := by rw [t3]; exact orm_congr (fun b hb => (hbl b hb).2.1)
      have eb : jshl 1 ((sI τ 0 0).1 1 * nI b + nI a) = one (w * b + a) := by
        rw [show (sI τ 0 0).1 1 = nI w from t1, cell_nI]; rfl
      rw [hbk, eb, eo, bd1_some]
      have i1 := and0_iff (x := orm (σ.1 7) (σ.2.1 1) nb) (k := w * b + a) (by omega)
      by_cases k : orm (σ.1 7) (σ.2.1 1) nb &&& one (w * b + a) = 0
      · rw [if_pos k, if_pos k, gd_t (okx_nI (by omega) (by omega)), gd_t (okx_nI (by omega) (by omega)), gd_t (okx_nI (by omega) (by omega)), gd_t (okx_nI (by omega) (by omega)), ra_nI _ _ (by omega), ra_nI _ _ (by omega)]
        exact Or.inl ⟨1, _, _, rfl, rfl, rfl, w, h, nb, ng, nn, RB_cell hB hc hj (i1.mp k), hrest⟩
      · rw [if_neg k, if_neg k]
        exact Or.inl ⟨0, σ, sI τ 0 0, rfl, rfl, rfl, th_rel hR 0⟩
theorem pg_2 {σ τ : St} (hR : Rel σ τ) {N : Nat} (hN : 100 ≤ N) {xs : Nat → Int32} {L : Nat} {i : Int32} (ho1 : okx (i + 1) L = true) (ho2 : okx (i + 2) L = true) (ho3 : okx (i + 3) L = true) (K : St → St → Option Int32) : ∃ σ1 τ1, Rel σ1 τ1 ∧ g_law_2 N xs L σ τ i K = K σ1 τ1 := by
  obtain ⟨σ1, τ1, h1, h2⟩ := cl_bool (pr_cell hN hR (rs xs (i + 1)) (rs xs (i + 2)) (rs xs (i + 3))) K
  refine ⟨σ1, τ1, h1, ?_⟩
  rw [← h2]
  unfold g_law_2 f_L_cell_
  simp only [gd_t ho1, gd_t ho2, gd_t ho3]
  rfl
