/-! THE LAW ANSWERS 1 -/
theorem sw_ok {σ τ : St} (hR : Rel σ τ) {N : Nat} (hN : 100000 ≤ N) {xs : Nat → Int32} {L : Nat} {i : Int32} (ho1 : okx (i + 1) L = true) (ho2 : okx (i + 2) L = true) (ho3 : okx (i + 3) L = true) (K : St → St → Option Int32) : ∃ σ1 τ1, Rel σ1 τ1 ∧ sw_law N xs L σ τ i K = K σ1 τ1 := by
  have h100 : 100 ≤ N := by omega
  unfold sw_law
  by_cases c0 : rs xs i &&& 31 = 0
  · rw [if_pos c0]; exact pg_0 hR h100 ho1 ho2 ho3 K
  rw [if_neg c0]
  by_cases c1 : rs xs i &&& 31 = 1
  · rw [if_pos c1]; exact pg_1 hR ho1 K
  rw [if_neg c1]
  by_cases c2 : rs xs i &&& 31 = 2
  · rw [if_pos c2]; exact pg_2 hR h100 ho1 ho2 ho3 K
  rw [if_neg c2]
  by_cases c3 : rs xs i &&& 31 = 3
  · rw [if_pos c3]; exact pg_3 hR h100 ho1 K
  rw [if_neg c3]
  by_cases c4 : rs xs i &&& 31 = 4
  · rw [if_pos c4]; exact pg_4 hR h100 ho1 ho2 ho3 K
  rw [if_neg c4]
  by_cases c5 : rs xs i &&& 31 = 5
  · rw [if_pos c5]; exact pg_5 hR ho1 ho2 ho3 K
  rw [if_neg c5]
  by_cases c6 : rs xs i &&& 31 = 6
  · rw [if_pos c6]; exact pg_6 hR ho1 ho2 ho3 K
  rw [if_neg c6]
  by_cases c7 : rs xs i &&& 31 = 7
  · rw [if_pos c7]; exact pg_7 hR N xs L i K
  rw [if_neg c7]
  by_cases c8 : rs xs i &&& 31 = 8
  · rw [if_pos c8]; exact pg_8 hR h100 xs L i K
  rw [if_neg c8]
  by_cases c9 : rs xs i &&& 31 = 9
  · rw [if_pos c9]; exact pg_9 hR hN ho1 ho2 K
  rw [if_neg c9]
  by_cases c10 : rs xs i &&& 31 = 10
  · rw [if_pos c10]; exact pg_10 hR N ho1 K
  rw [if_neg c10]
  by_cases c11 : rs xs i &&& 31 = 11
  · rw [if_pos c11]; exact pg_11 hR N xs L i K
  rw [if_neg c11]
  by_cases c12 : rs xs i &&& 31 = 12
  · rw [if_pos c12]; exact pg_12 hR hN K
  rw [if_neg c12]
  by_cases c13 : rs xs i &&& 31 = 13
  · rw [if_pos c13]; exact pg_13 hR h100 ho1 K
  rw [if_neg c13]
  by_cases c14 : rs xs i &&& 31 = 14
  · rw [if_pos c14]; exact pg_14 hR h100 xs L i K
  rw [if_neg c14]
  by_cases c15 : rs xs i &&& 31 = 15
  · rw [if_pos c15]; exact pg_15 hR ho1 ho2 K
  rw [if_neg c15]
  by_cases c16 : rs xs i &&& 31 = 16
  · rw [if_pos c16]; exact pg_16 hR ho1 K
  rw [if_neg c16]
  by_cases c17 : rs xs i &&& 31 = 17
  · rw [if_pos c17]; exact pg_17 hR h100 ho1 K
  rw [if_neg c17]
  by_cases c18 : rs xs i &&& 31 = 18
  · rw [if_pos c18]; exact pg_18 hR ho1 ho2 K
  rw [if_neg c18]
  by_cases c19 : rs xs i &&& 31 = 19
  · rw [if_pos c19]; exact pg_19 hR hN K
  rw [if_neg c19]
  by_cases c20 : rs xs i &&& 31 = 20
  · rw [if_pos c20]; exact pg_20 hR hN K
  rw [if_neg c20]
  by_cases c21 : rs xs i &&& 31 = 21
  · rw [if_pos c21]; exact pg_21 hR hN K
  rw [if_neg c21]
  by_cases c22 : rs xs i &&& 31 = 22
  · rw [if_pos c22]; exact pg_22 hR hN K
  rw [if_neg c22]
  exact ⟨σ, τ, hR, rfl⟩
theorem law_loop {N : Nat} (hN : 100000 ≤ N) (xs : Nat → Int32) {L : Nat} (hL : L ≤ 2050) : ∀ (d n k : Nat) (σ τ : St), Rel σ τ → L ≤ k + 4 * d → k ≤ 4000 → d < n → lp_law N xs L n σ τ (nI k) = some 1 := by
  have e4 : ∀ k : Nat, k ≤ 4000 → (nI L - 4 < nI k ↔ (L : Int) - 4 < k) := by
    intro k hk
    have h1 : (nI L - nI 4).toInt = (L : Int) - (4 : Nat) := pk_sub_toInt (by omega) (by omega)
    have h1 : (nI L - 4).toInt = (L : Int) - 4 := h1
    rw [Int32.lt_iff_toInt_lt, h1, nI_toInt (by omega)]
  intro d
  induction d with
  | zero =>
    intro n k σ τ hR hk hk2 hn
    obtain ⟨n, rfl⟩ : ∃ m, n = m + 1 := ⟨n - 1, by omega⟩
    rw [lp_law, if_pos ((e4 k hk2).mpr (by omega))]
  | succ d ih =>
    intro n k σ τ hR hk hk2 hn
    obtain ⟨n, rfl⟩ : ∃ m, n = m + 1 := ⟨n - 1, by omega⟩
    rw [lp_law]
    by_cases hc : (L : Int) - 4 < k
    · rw [if_pos ((e4 k hk2).mpr hc)]
    · have o : ∀ j : Nat, j < 4 → okx (nI k + nI j) L = true := fun j hj => by rw [nI_add]; exact okx_nI (by omega) (by omega)
      rw [if_neg (fun q => hc ((e4 k hk2).mp q)), gd_t (okx_nI (by omega) (by omega))]
      obtain ⟨σ1, τ1, h1, h2⟩ := sw_ok hR hN (xs := xs) (L := L) (i := nI k) (o 1 (by omega)) (o 2 (by omega)) (o 3 (by omega)) (fun σ1 τ1 => lp_law N xs L n σ1 τ1 (nI k + 4))
      rw [h2]
      show lp_law N xs L n σ1 τ1 (nI k + nI 4) = some 1
      rw [nI_add]
      exact ih n (k + 4) σ1 τ1 h1 (by omega) (by omega) (by omega)
theorem clamp_ok (x : Int32) : ∃ w : Nat, (w < 6 ∧ 1 ≤ w) ∧ jmax 1 (jmin 5 x) = nI w ∧ jclamp x = nI w := by
  have i1 : ∀ z : Int32, (1 : Int32) ≤ z ↔ (1 : Int) ≤ z.toInt := fun z => Int32.le_iff_toInt_le
  have i5 : ∀ z : Int32, z ≤ (5 : Int32) ↔ z.toInt ≤ (5 : Int) := fun z => Int32.le_iff_toInt_le
  have j1 : ∀ z : Int32, (1 : Int32) < z ↔ (1 : Int) < z.toInt := fun z => Int32.lt_iff_toInt_lt
  have j5 : ∀ z : Int32, z < (5 : Int32) ↔ z.toInt < (5 : Int) := fun z => Int32.lt_iff_toInt_lt
  unfold jmax jmin jclamp
  by_cases h1 : (1 : Int32) ≤ x
  · by_cases h5 : x ≤ (5 : Int32)
    · have hx : ¬ x < 0 := by
        rw [Int32.lt_iff_toInt_lt, Int32.toInt_zero]
        have := (i1 x).mp h1
        omega
      obtain ⟨w, hw, rfl⟩ := nI_of hx
      have a1 := (i1 _).mp h1
      have a5 := (i5 _).mp h5
      rw [nI_toInt hw] at a1 a5
      refine ⟨w, ⟨by omega, by omega⟩, ?_, ?_⟩
      · by_cases e : nI w < 5
        · rw [if_pos e]
          by_cases e2 : (1 : Int32) < nI w
          · rw [if_pos e2]
          · rw [if_neg e2]
            have this : ¬ (1 : Int) < (nI w).toInt := fun q => e2 ((j1 _).mpr q)
            rw [nI_toInt hw] at this
            rw [show w = 1 by omega]; rfl
        · rw [if_neg e]
          have this : ¬ (nI w).toInt < (5 : Int) := fun q => e ((j5 _).mpr q)
          rw [nI_toInt hw] at this
          rw [show w = 5 by omega]; rfl
      · rw [if_pos h1, if_pos h5]
    · refine ⟨5, ⟨by omega, by omega⟩, ?_, ?_⟩
      · rw [if_neg (show ¬ x < 5 from fun q => h5 ((i5 x).mpr (by have := (j5 x).mp q; omega)))]; rfl
      · rw [if_pos h1, if_neg h5]; rfl
  · have a1 : ¬ (1 : Int) ≤ x.toInt := fun q => h1 ((i1 x).mpr q)
    refine ⟨1, ⟨by omega, by omega⟩, ?_, ?_⟩
    · rw [if_pos (show x < 5 from (j5 x).mpr (by omega)), if_neg (show ¬ (1 : Int32) < x from fun q => by have := (j1 x).mp q; omega)]; rfl
    · rw [if_neg h1]; rfl
theorem inb_0 (n : Nat) : inb 0 n := fun i _ _ => b_0 i
theorem rel_0 {w h : Nat} (hw : w < 6 ∧ 1 ≤ w) (hh : h < 6 ∧ 1 ≤ h) : Rel (sC0 (nI w) (nI h) (eL w h)) (sM0 (nI w) (nI h)) := by
  refine ⟨w, h, 0, 0, 0, ?_, ?_, ?_, ?_, ?_, ?_⟩
  · refine ⟨⟨hw, hh, by omega⟩, ⟨rfl, rfl, rfl, rfl, rfl, rfl, rfl⟩, ⟨rfl, rfl, rfl, rfl⟩, fun b hb => by omega, fun b _ _ => rfl, inb_0 _, fun b hb => by omega, fun a b ha => by omega⟩
  · exact ⟨by omega, rfl, rfl, fun g hg => by omega⟩
  · exact ⟨0, 0, by omega, by omega, rfl, rfl, rfl, rfl, fun k hk => by omega⟩
  · exact ⟨0, by omega, rfl, fun B _ h => absurd rfl h⟩
  · refine ⟨by omega, rfl, rfl, ⟨fun v => v, ⟨fun v hv => by omega, fun u v hu => by omega⟩, fun v hv => by omega⟩, fun _ _ => false, fun _ _ _ _ => rfl, fun _ => rfl, (fun _ _ _ _ h => by cases h), fun a _ b hb => ?_, fun _ _ _ _ => rfl⟩
    show bt 0 b = _
    rw [b_0, Bool.and_false]
  · exact ⟨0, by omega, rfl, fun B _ h => absurd rfl h⟩
theorem law_ok (xs : Nat → Int32) {L : Nat} (hL : L ≤ 2050) : ∃ z, lp_Bd (jmax 1 (jmin 5 (cv xs L 0))) (jmax 1 (jmin 5 (cv xs L 1))) 100000 0 0 = some z ∧
    lp_law 100000 xs L 600 (sC0 (jmax 1 (jmin 5 (cv xs L 0))) (jmax 1 (jmin 5 (cv xs L 1))) z) (sM0 (jclamp (cv xs L 0)) (jclamp (cv xs L 1))) 2 = some 1 := by
  obtain ⟨w, hw, e1, e2⟩ := clamp_ok (cv xs L 0)
  obtain ⟨h, hh, f1, f2⟩ := clamp_ok (cv xs L 1)
  rw [e1, e2, f1, f2]
  refine ⟨eL w h, lp_Bd_mono _ _ 10 100000 _ _ _ (by omega) (lp_Bd_ok w hw.1 hw.2 h hh.1 hh.2), ?_⟩
  exact law_loop (Nat.le_refl _) xs hL 513 600 2 _ _ (rel_0 hw hh) (by omega) (by omega) (by omega)
