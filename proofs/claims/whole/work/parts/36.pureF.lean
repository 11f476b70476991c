/-! wall, cell, block -/
theorem bt_orm (w : Int32) (f : Nat → Int32) (n i : Nat) : bt (orm w f n) i = true ↔ bt w i = true ∨ ∃ b, b < n ∧ bt (f b) i = true := by
  induction n with
  | zero =>
    constructor
    · exact Or.inl
    · rintro (h | ⟨b, hb, -⟩)
      · exact h
      · omega
  | succ n ih =>
    simp only [orm]
    rw [b_or, Bool.or_eq_true, ih]
    constructor
    · rintro ((h | ⟨b, hb, h⟩) | h)
      · exact Or.inl h
      · exact Or.inr ⟨b, by omega, h⟩
      · exact Or.inr ⟨n, by omega, h⟩
    · rintro (h | ⟨b, hb, h⟩)
      · exact Or.inl (Or.inl h)
      · rcases Nat.lt_or_ge b n with e | e
        · exact Or.inl (Or.inr ⟨b, e, h⟩)
        · rw [show b = n by omega] at h; exact Or.inr h
/-- the coordinates of a cell that is there -/
theorem cell_cases {w h : Nat} (x y : Int32) : (¬ (0 ≤ x.toInt ∧ x.toInt < w ∧ 0 ≤ y.toInt ∧ y.toInt < h)) ∨ ∃ a b : Nat, a < w ∧ b < h ∧ x = nI a ∧ y = nI b ∧ (0 ≤ x.toInt ∧ x.toInt < w ∧ 0 ≤ y.toInt ∧ y.toInt < h) := by
  by_cases e : 0 ≤ x.toInt ∧ x.toInt < w ∧ 0 ≤ y.toInt ∧ y.toInt < h
  · right
    have nn : ∀ z : Int32, 0 ≤ z.toInt → ∃ j : Nat, j < 2 ^ 31 ∧ z = nI j := fun z hz => nI_of (by rw [Int32.lt_iff_toInt_lt, Int32.toInt_zero]; omega)
    obtain ⟨a, ha, rfl⟩ := nn x e.1
    obtain ⟨b, hb, rfl⟩ := nn y e.2.2.1
    refine ⟨a, b, ?_, ?_, rfl, rfl, e⟩
    · have := e.2.1; rw [nI_toInt ha] at this; omega
    · have := e.2.2.2; rw [nI_toInt hb] at this; omega
  · exact Or.inl e
theorem cell_no {w h a b : Nat} (ha : a < w) (hb : b < h) : w * b + a < w * h := by
  have h1 : w * (b + 1) ≤ w * h := Nat.mul_le_mul_left w hb
  rw [Nat.mul_add] at h1
  omega
theorem cell_nI (w a b : Nat) : nI w * nI b + nI a = nI (w * b + a) := by rw [pk_mul, nI_add]
theorem needCell_nI (N : Nat) {σ : St} {w h : Nat} (h0 : σ.1 0 = nI w) (h1 : σ.1 1 = nI h) (hw : w < 6) (hh : h < 6) (x y : Int32) : f_X6_needCell N σ x y = some (if 0 ≤ x.toInt ∧ x.toInt < w ∧ 0 ≤ y.toInt ∧ y.toInt < h then .inl 0 else .inr 0, σ) := by
  unfold f_X6_needCell
  rw [hasCell_nI N h0 h1 hw hh]
  by_cases e : 0 ≤ x.toInt ∧ x.toInt < w ∧ 0 ≤ y.toInt ∧ y.toInt < h
  · simp only [e, and_self, if_true, bd1, show ¬ ((1 : Int32) = 0) by decide, if_false]
  · simp only [e, if_false, bd1, if_true]
theorem bitOf_nI (N : Nat) {σ : St} {w a b : Nat} (h0 : σ.1 0 = nI w) : f_X0_bitOf N σ (nI a) (nI b) = some (one (w * b + a)) := by
  unfold f_X0_bitOf f_X0_cellOf
  rw [h0, cell_nI]
  rfl
theorem RB_wall {w h nb c : Nat} {σ τ : St} (hB : RB w h nb σ τ) (hc : c < w * h) (hf : bt (σ.1 7) c = true ∨ ∀ b, b < nb → bt (σ.2.1 1 b) c = false) : RB w h nb (sI σ 7 (σ.1 7 ^^^ one c)) (sI (sI τ 0 0) 3 ((sI τ 0 0).1 3 ^^^ one c)) := by
  obtain ⟨⟨hw, hh, hnb⟩, ⟨s0, s1, s2, s3, s4, s5, s6⟩, ⟨t1, t2, t4, t3⟩, hbl, hz, hwi, hdj⟩ := hB
  have h25 := wh25 hw.1 hh.1
  have key : ∀ i, i < 32 → bt (σ.1 7 ^^^ one c) i = (bt (σ.1 7) i ^^ decide (i = c)) := fun i hi => by rw [b_xor, bt_one' (by omega) hi]
  refine ⟨⟨hw, hh, hnb⟩, ⟨s0, s1, s2, s3, s4, s5, s6⟩, ⟨t1, t2, t4, ?_⟩, hbl, hz, ?_, ?_, hdj.2⟩
  · show τ.1 3 ^^^ one c = σ.1 7 ^^^ one c
    rw [t3]
  · intro i hi hn
    show bt (σ.1 7 ^^^ one c) i = false
    rw [key i hi, hwi i hi hn, decide_eq_false (by omega)]
    rfl
  · intro b hb i hi hbi
    show bt (σ.1 7 ^^^ one c) i = false
    rw [key i hi, hdj.1 b hb i hi hbi]
    by_cases e : i = c
    · subst e
      rcases hf with hf | hf
      · rw [hdj.1 b hb i hi hbi] at hf; cases hf
      · have h9 : bt (σ.2.1 1 b) i = true := hbi
        rw [hf b hb] at h9; cases h9
    · rw [decide_eq_false e]; rfl
theorem setWall_ok {N : Nat} (hN : 100 ≤ N) {σ : St} {nb : Nat} (hb : nb ≤ 8) (h6 : σ.1 6 = nI nb) {c : Nat} (hc : c < 32) (on : Bool) :
    f_X0_setWall N σ (one c) (if on then 1 else 0) = some (if bt (σ.1 7) c = on ∨ (on = true ∧ bt (orm (σ.1 7) (σ.2.1 1) nb) c = true) then (0, σ) else (1, sI σ 7 (σ.1 7 ^^^ one c))) := by
  unfold f_X0_setWall
  rw [filled_ok hN hb h6, bd1_some]
  have hF : bt (σ.1 7) c = true → bt (orm (σ.1 7) (σ.2.1 1) nb) c = true := fun h => (bt_orm _ _ _ _).mpr (Or.inl h)
  have i1 := and0_iff (x := orm (σ.1 7) (σ.2.1 1) nb) hc
  have i2 := and0_iff (x := σ.1 7) hc
  unfold jn_X0_setWall_14
  simp only [nm]
  cases hw : bt (σ.1 7) c
  · rw [hw] at i2
    have i2' : σ.1 7 &&& one c = 0 := i2.mpr rfl
    simp only [i2', if_true]
    cases hf : bt (orm (σ.1 7) (σ.2.1 1) nb) c
    · rw [hf] at i1
      have i1' := i1.mpr rfl
      cases on <;> simp [i1']
    · rw [hf] at i1
      have i1' : ¬ orm (σ.1 7) (σ.2.1 1) nb &&& one c = 0 := fun e => by have := i1.mp e; cases this
      cases on <;> simp [i1']
  · rw [hw] at i2
    have i2' : ¬ σ.1 7 &&& one c = 0 := fun e => by have := i2.mp e; cases this
    simp only [i2', if_false]
    have hf := hF hw
    rw [hf] at i1
    have i1' : ¬ orm (σ.1 7) (σ.2.1 1) nb &&& one c = 0 := fun e => by have := i1.mp e; cases this
    cases on <;> simp [i1', hf]
theorem wallR_ok {N : Nat} (hN : 100 ≤ N) {τ : St} {w h nb : Nat} (hb : nb ≤ 8) (t1 : τ.1 1 = nI w) (t2 : τ.1 2 = nI h) (t4 : τ.1 4 = nI nb) (hw : w < 6) (hh : h < 6) {a b : Nat} (ha : a < w) (hbh : b < h) (on : Bool) :
    f_X7_wall N τ (nI a) (nI b) (if on then 1 else 0) = some (if bt (τ.1 3) (w * b + a) = on ∨ (on = true ∧ bt (orm (τ.1 3) (τ.2.1 1) nb) (w * b + a) = true) then (0, sI τ 0 0) else (1, sI (sI τ 0 0) 3 ((sI τ 0 0).1 3 ^^^ one (w * b + a)))) := by
  have h25 := wh25 hw hh
  have hc := cell_no ha hbh
  unfold f_X7_wall
  rw [isCell_nI N t1 t2 hw hh, nI_toInt (by omega), nI_toInt (by omega)]
  rw [if_pos (by omega), bd1_some, if_neg (by decide)]
  unfold jn_X7_wall_16
  simp only [nm]
  rw [throwsIf_0, bd_some, if_pos rfl]
  have eb : jshl 1 ((sI τ 0 0).1 1 * nI b + nI a) = one (w * b + a) := by
    rw [show (sI τ 0 0).1 1 = nI w from t1, cell_nI]; rfl
  rw [eb]
  have e3 : (sI τ 0 0).1 3 = τ.1 3 := rfl
  rw [e3]
  have i2 := and0_iff (x := τ.1 3) (k := w * b + a) (by omega)
  have hbk : f_X7_blocked N (sI τ 0 0) = some (orm (τ.1 3) (τ.2.1 1) nb) := blocked_ok hN hb t4
  have i1 := and0_iff (x := orm (τ.1 3) (τ.2.1 1) nb) (k := w * b + a) (by omega)
  unfold jn_X7_wall_51
  simp only [nm]
  rw [hbk, e3]
  cases hwb : bt (τ.1 3) (w * b + a)
  · rw [hwb] at i2
    simp only [i2.mpr rfl, if_true]
    cases hf : bt (orm (τ.1 3) (τ.2.1 1) nb) (w * b + a)
    · rw [hf] at i1
      cases on <;> simp [i1.mpr rfl, bd1]
    · rw [hf] at i1
      have i1' : ¬ orm (τ.1 3) (τ.2.1 1) nb &&& one (w * b + a) = 0 := fun e => by have := i1.mp e; cases this
      cases on <;> simp [i1', bd1]
  · rw [hwb] at i2
    have i2' : ¬ τ.1 3 &&& one (w * b + a) = 0 := fun e => by have := i2.mp e; cases this
    simp only [i2', if_false]
    cases on <;> simp
theorem pr_wall {N : Nat} (hN : 100 ≤ N) {σ τ : St} (hR : Rel σ τ) (x y : Int32) (on : Bool) : Pr hf0 (f_X6_wall N σ x y (if on then 1 else 0)) (f_X7_wall N τ x y (if on then 1 else 0)) := by
  have hR' := hR
  obtain ⟨w, h, nb, ng, nn, hB, hrest⟩ := hR'
  have hB' := hB
  obtain ⟨⟨hw, hh, hnb⟩, ⟨s0, s1, s2, s3, s4, s5, s6⟩, ⟨t1, t2, t4, t3⟩, hbl, hz, hwi, hdj⟩ := hB'
  have h25 := wh25 hw.1 hh.1
  unfold f_X6_wall
  rw [needCell_nI N s0 s1 hw.1 hh.1]
  rcases cell_cases (w := w) (h := h) x y with e | ⟨a, b, ha, hb, rfl, rfl, e⟩
  · refine Or.inr ⟨0, 0, 1, σ, sI τ 0 1, ?_, ?_, rfl, by decide, rfl, th_rel hR 1⟩
    · rw [if_neg e]; rfl
    · unfold f_X7_wall
      rw [isCell_nI N t1 t2 hw.1 hh.1, if_neg e, bd1_some, if_pos rfl]
      unfold jn_X7_wall_16
      rw [throwsIf_1]
      rfl
  · have hc := cell_no ha hb
    rw [if_pos e, wallR_ok hN hnb t1 t2 t4 hw.1 hh.1 ha hb on]
    rw [bx_inl, bitOf_nI N s0, bd1_some, setWall_ok hN hnb s6 (by omega) on]
    have eo : orm (τ.1 3) (τ.2.1 1) nb = orm (σ.1 7) (σ.2.1 1) nb := by rw [t3]; exact orm_congr (fun b hb => (hbl b hb).2.1)
    rw [eo, t3]
    by_cases k : bt (σ.1 7) (w * b + a) = on ∨ (on = true ∧ bt (orm (σ.1 7) (σ.2.1 1) nb) (w * b + a) = true)
    · rw [if_pos k, if_pos k]
      exact Or.inl ⟨0, σ, sI τ 0 0, rfl, rfl, rfl, th_rel hR 0⟩
    · rw [if_neg k, if_neg k]
      refine Or.inl ⟨1, _, _, rfl, rfl, rfl, w, h, nb, ng, nn, RB_wall hB hc ?_, hrest⟩
      cases on
      · left
        cases hb9 : bt (σ.1 7) (w * b + a)
        · exact absurd (Or.inl hb9) k
        · rfl
      · right
        intro b9 hb9
        cases h9 : bt (σ.2.1 1 b9) (w * b + a)
        · rfl
        · exact absurd (Or.inr ⟨rfl, (bt_orm _ _ _ _).mpr (Or.inr ⟨b9, hb9, h9⟩)⟩) k
theorem pg_0 {σ τ : St} (hR : Rel σ τ) {N : Nat} (hN : 100 ≤ N) {xs : Nat → Int32} {L : Nat} {i : Int32} (ho1 : okx (i + 1) L = true) (ho2 : okx (i + 2) L = true) (ho3 : okx (i + 3) L = true) (K : St → St → Option Int32) : ∃ σ1 τ1, Rel σ1 τ1 ∧ g_law_0 N xs L σ τ i K = K σ1 τ1 := by
  by_cases e : rs xs (i + 3) = 0
  · obtain ⟨σ1, τ1, h1, h2⟩ := cl_bool (pr_wall hN hR (rs xs (i + 1)) (rs xs (i + 2)) false) K
    refine ⟨σ1, τ1, h1, ?_⟩
    rw [← h2]
    unfold g_law_0 f_L_wall
    simp only [gd_t ho1, gd_t ho2, gd_t ho3, e, if_true]
    rfl
  · obtain ⟨σ1, τ1, h1, h2⟩ := cl_bool (pr_wall hN hR (rs xs (i + 1)) (rs xs (i + 2)) true) K
    refine ⟨σ1, τ1, h1, ?_⟩
    rw [← h2]
    unfold g_law_0 f_L_wall
    simp only [gd_t ho1, gd_t ho2, gd_t ho3, e, if_false]
    rfl
