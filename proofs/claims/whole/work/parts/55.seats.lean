/-! the reference's seats -/
theorem isKey_ok {N : Nat} (hN : 100 ≤ N) {τ : St} {x : Nat} (hx : x < 10001) : ∃ r, Yn r (∀ s, s < 8 → τ.2.1 5 (8 * x + s) = τ.2.1 11 s) ∧ f_X7_isKey N τ (nI x) = some r := by
  have lp : ∀ (e n s : Nat), s + e = 8 → e < n → ∃ r, Yn r (∀ s', s ≤ s' → s' < 8 → τ.2.1 5 (8 * x + s') = τ.2.1 11 s') ∧ lp_X7_isKey_2 N τ (nI x) n (nI s) = some r := by
    intro e
    induction e with
    | zero =>
      intro n s hs hn
      obtain ⟨n, rfl⟩ : ∃ j, n = j + 1 := ⟨n - 1, by omega⟩
      refine ⟨1, Or.inl ⟨rfl, fun s' c1 c2 => by omega⟩, ?_⟩
      rw [lp_X7_isKey_2, if_pos (show (8 : Int32) ≤ nI s from nI_le (a := 8) (by omega) (by omega))]
    | succ e ih =>
      intro n s hs hn
      obtain ⟨n, rfl⟩ : ∃ j, n = j + 1 := ⟨n - 1, by omega⟩
      rw [lp_X7_isKey_2, if_neg (show ¬ (8 : Int32) ≤ nI s from nI_ge (b := 8) (by omega) (by omega)), show (8 : Int32) * nI x + nI s = nI (8 * x + s) from cell_nI 8 s x, gd_t (okx_nI (by omega) (by omega)), gd_t (okx_nI (by omega) (by omega)), ra_nI _ _ (by omega), ra_nI _ _ (by omega)]
      by_cases c : τ.2.1 5 (8 * x + s) = τ.2.1 11 s
      · rw [if_pos c, nm_eq, nI_1]
        obtain ⟨r, y, er⟩ := ih n (s + 1) (by omega) (by omega)
        refine ⟨r, y.congr ?_, er⟩
        constructor
        · intro h s' c1 c2
          rcases Nat.lt_or_ge s s' with d | d
          · exact h s' d c2
          · rw [show s' = s by omega]; exact c
        · intro h s' c1 c2
          exact h s' (by omega) c2
      · rw [if_neg c]
        exact ⟨0, Or.inr ⟨rfl, fun h => c (h s (Nat.le_refl _) (by omega))⟩, rfl⟩
  obtain ⟨r, y, e⟩ := lp 8 N 0 (by omega) (by omega)
  exact ⟨r, y.congr ⟨fun h s hs => h s (by omega) hs, fun h s _ hs => h s hs⟩, e⟩
def hsh (κ : Nat → Int32) : Nat → Int32
  | 0 => 0
  | k + 1 => ((hsh κ k * 31) + κ k) + jushr (κ k) 7
def sta (κ : Nat → Int32) : Nat := num (hsh κ 8 ^^^ jushr (hsh κ 8) 15) % 2 ^ 15
theorem sta_lt (κ : Nat → Int32) : sta κ < 32768 := Nat.mod_lt _ (by omega)
theorem hsh_congr {κ κ' : Nat → Int32} : ∀ k, (∀ s, s < k → κ s = κ' s) → hsh κ k = hsh κ' k := by
  intro k
  induction k with
  | zero => intro _; rfl
  | succ k ih => intro h; rw [hsh, hsh, ih (fun s hs => h s (by omega)), h k (by omega)]
theorem sta_congr {κ κ' : Nat → Int32} (h : ∀ s, s < 8 → κ s = κ' s) : sta κ = sta κ' := by unfold sta; rw [hsh_congr 8 h]
theorem so4 {N : Nat} {τ : St} : ∀ (e n k : Nat), k + e = 8 → e < n → lp_X7_seatOf_4 N τ n (hsh (τ.2.1 11) k) (nI k) = lp_X7_seatOf_49 N τ N (nI (sta (τ.2.1 11))) := by
  intro e
  induction e with
  | zero =>
    intro n k hk hn
    obtain ⟨n, rfl⟩ : ∃ j, n = j + 1 := ⟨n - 1, by omega⟩
    rw [lp_X7_seatOf_4, if_pos (show (8 : Int32) ≤ nI k from nI_le (a := 8) (by omega) (by omega)), show k = 8 by omega, nm_eq, pk_and _ 15 (by decide)]
    rfl
  | succ e ih =>
    intro n k hk hn
    obtain ⟨n, rfl⟩ : ∃ j, n = j + 1 := ⟨n - 1, by omega⟩
    rw [lp_X7_seatOf_4, if_neg (show ¬ (8 : Int32) ≤ nI k from nI_ge (b := 8) (by omega) (by omega)), gd_t (okx_nI (by omega) (by omega)), gd_t (okx_nI (by omega) (by omega)), ra_nI _ _ (by omega), nm_eq, nm_eq, nI_1]
    exact ih n (k + 1) (by omega) (by omega)
/-- the seats hold the keys, each behind full seats alone -/
def SE (n : Nat) (seat : Nat → Int32) (ks : Nat → Nat → Int32) : Prop :=
  (∀ y, y < 32768 → seat y = -1 ∨ ∃ j, j < n ∧ seat y = nI j) ∧ (∀ y y' j, y < 32768 → y' < 32768 → j < n → seat y = nI j → seat y' = nI j → y = y') ∧
  ∀ j, j < n → ∃ d, d < 32768 ∧ seat ((sta (ks j) + d) % 32768) = nI j ∧ ∀ d', d' < d → seat ((sta (ks j) + d') % 32768) ≠ -1
theorem SE_free {n : Nat} {seat : Nat → Int32} {ks : Nat → Nat → Int32} (hn : n < 32768) (h : SE n seat ks) (a : Nat) : ∃ d, d < 32768 ∧ seat ((a + d) % 32768) = -1 := by
  apply Classical.byContradiction
  intro hno
  have hall : ∀ y, y < 32768 → ∃ j, j < n ∧ seat y = nI j := by
    intro y hy
    rcases h.1 y hy with c | c
    · exact absurd ⟨(y + 32768 - a % 32768) % 32768, by omega, by rw [show (a + (y + 32768 - a % 32768) % 32768) % 32768 = y by omega]; exact c⟩ hno
    · exact c
  have hf : ∀ y, ∃ j, y < 32768 → j < n ∧ seat y = nI j := by
    intro y
    by_cases hy : y < 32768
    · obtain ⟨j, hj⟩ := hall y hy
      exact ⟨j, fun _ => hj⟩
    · exact ⟨0, fun q => absurd q hy⟩
  have := inj_le (m := 32768) (n := n) (f := fun y => Classical.choose (hf y)) (fun v hv => (Classical.choose_spec (hf v) hv).1) (fun u v hu hv e => by
    have h1 := Classical.choose_spec (hf u) hu
    have h2 := Classical.choose_spec (hf v) hv
    refine h.2.1 u v _ hu hv h1.1 h1.2 ?_
    have e' : Classical.choose (hf u) = Classical.choose (hf v) := e
    rw [e']
    exact h2.2)
  omega
theorem seatOf_ok {N : Nat} (hN : 100000 ≤ N) {n : Nat} {τ : St} (hn : n ≤ 10000) (hE : SE n (τ.2.1 8) (fun j s => τ.2.1 5 (8 * j + s))) : ∃ y, y < 32768 ∧ f_X7_seatOf N τ = some (nI y) ∧
    ((∃ j, j < n ∧ τ.2.1 8 y = nI j ∧ ∀ s, s < 8 → τ.2.1 5 (8 * j + s) = τ.2.1 11 s) ∨ (τ.2.1 8 y = -1 ∧ (∀ j, j < n → ¬ ∀ s, s < 8 → τ.2.1 5 (8 * j + s) = τ.2.1 11 s) ∧ ∃ d, d < 32768 ∧ y = (sta (τ.2.1 11) + d) % 32768 ∧ ∀ d', d' < d → τ.2.1 8 ((sta (τ.2.1 11) + d') % 32768) ≠ -1)) := by
  obtain ⟨d0, ⟨hd0, hf0⟩, hmin⟩ := pk_least (fun d => d < 32768 ∧ τ.2.1 8 ((sta (τ.2.1 11) + d) % 32768) = -1) (SE_free (by omega) hE (sta (τ.2.1 11)))
  have lp : ∀ (e f d : Nat), d + e = d0 → e < f → (∀ d', d' < d → ∀ j, j < n → τ.2.1 8 ((sta (τ.2.1 11) + d') % 32768) = nI j → ¬ ∀ s, s < 8 → τ.2.1 5 (8 * j + s) = τ.2.1 11 s) → ∃ y, y < 32768 ∧ lp_X7_seatOf_49 N τ f (nI ((sta (τ.2.1 11) + d) % 32768)) = some (nI y) ∧
      ((∃ j, j < n ∧ τ.2.1 8 y = nI j ∧ ∀ s, s < 8 → τ.2.1 5 (8 * j + s) = τ.2.1 11 s) ∨ (τ.2.1 8 y = -1 ∧ (∀ j, j < n → ¬ ∀ s, s < 8 → τ.2.1 5 (8 * j + s) = τ.2.1 11 s) ∧ ∃ d, d < 32768 ∧ y = (sta (τ.2.1 11) + d) % 32768 ∧ ∀ d', d' < d → τ.2.1 8 ((sta (τ.2.1 11) + d') % 32768) ≠ -1)) := by
    intro e
    induction e with
    | zero =>
      intro f d hd hf hs
      obtain ⟨f, rfl⟩ : ∃ j, f = j + 1 := ⟨f - 1, by omega⟩
      have ed : d = d0 := by omega
      subst ed
      refine ⟨(sta (τ.2.1 11) + d) % 32768, Nat.mod_lt _ (by omega), ?_, Or.inr ⟨hf0, fun j hj hk => ?_, d, hd0, rfl, fun d' hd' q => hmin d' hd' ⟨by omega, q⟩⟩⟩
      · rw [lp_X7_seatOf_49, gd_t (okx_nI (Nat.mod_lt _ (by omega)) (by omega)), ra_nI _ _ (Nat.lt_of_lt_of_le (Nat.mod_lt _ (by omega)) (by omega)), hf0, if_pos (by decide)]
      · obtain ⟨dj, j1, j2, j3⟩ := hE.2.2 j hj
        have es : sta (fun s => τ.2.1 5 (8 * j + s)) = sta (τ.2.1 11) := sta_congr hk
        simp only [es] at j2 j3
        rcases Nat.lt_trichotomy dj d with c | c | c
        · exact hs dj c j hj j2 hk
        · rw [c, hf0] at j2
          exact nI_nm1 (n := j) (by omega) j2.symm
        · exact j3 d c hf0
    | succ e ih =>
      intro f d hd hf hs
      obtain ⟨f, rfl⟩ : ∃ j, f = j + 1 := ⟨f - 1, by omega⟩
      have hlt : (sta (τ.2.1 11) + d) % 32768 < 32768 := Nat.mod_lt _ (by omega)
      have hne : ¬ τ.2.1 8 ((sta (τ.2.1 11) + d) % 32768) = -1 := fun q => hmin d (by omega) ⟨by omega, q⟩
      rcases hE.1 _ hlt with c | ⟨j, hj, c⟩
      · exact absurd c hne
      · obtain ⟨r, yr, er⟩ := isKey_ok (N := N) (τ := τ) (by omega) (show j < 10001 by omega)
        rw [lp_X7_seatOf_49, gd_t (okx_nI hlt (by omega)), ra_nI _ _ (by omega), c, if_neg (nI_pos (by omega)), gd_t (okx_nI hlt (by omega)), er, bd1_some]
        rcases yr with ⟨q, hk⟩ | ⟨q, hk⟩
        · rw [q, if_neg (by decide)]
          exact ⟨_, hlt, rfl, Or.inl ⟨j, hj, c, hk⟩⟩
        · have em : jrem (nI ((sta (τ.2.1 11) + d) % 32768) + 1) 32768 = nI ((sta (τ.2.1 11) + (d + 1)) % 32768) := by
            rw [nI_1]
            unfold jrem
            rw [show (32768 : Int32) = nI 32768 from rfl, pk_rem (by omega) (by omega) (by omega)]
            congr 1
            omega
          rw [q, if_pos rfl, nm_eq, em]
          refine ih f (d + 1) (by omega) (by omega) (fun d' hd' j' hj' e' hk' => ?_)
          rcases Nat.lt_or_ge d' d with z | z
          · exact hs d' z j' hj' e' hk'
          · rw [show d' = d by omega, c] at e'
            have := (nI_eq (by omega) (by omega)).mp e'
            subst this
            exact hk hk'
  obtain ⟨y, y1, y2, y3⟩ := lp d0 N 0 (by omega) (by omega) (fun d' hd' => by omega)
  refine ⟨y, y1, ?_, y3⟩
  have hl := sta_lt (τ.2.1 11)
  rw [Nat.add_zero, Nat.mod_eq_of_lt hl] at y2
  unfold f_X7_seatOf
  exact (so4 (N := N) 8 N 0 (by omega) (by omega)).trans y2
/-- what isNew leaves alone -/
def FN (τ τ' : St) : Prop := (∀ j, j ≠ 6 → τ'.1 j = τ.1 j) ∧ (∀ b, b < 4 ∨ b = 9 ∨ b = 10 ∨ 11 < b → τ'.2.1 b = τ.2.1 b) ∧ τ'.2.2 = τ.2.2
theorem FN.rf {τ : St} : FN τ τ := ⟨fun _ _ => rfl, fun _ _ => rfl, rfl⟩
theorem FN.tr {τ τ1 τ2 : St} (h1 : FN τ τ1) (h2 : FN τ1 τ2) : FN τ τ2 := ⟨fun b hb => (h2.1 b hb).trans (h1.1 b hb), fun b hb => (h2.2.1 b hb).trans (h1.2.1 b hb), h2.2.2.trans h1.2.2⟩
theorem FN.o {τ τ1 : St} {a : Nat} (ha : (4 ≤ a ∧ a ≤ 8) ∨ a = 11) (h : O1 a τ τ1) : FN τ τ1 := ⟨fun j _ => by rw [h.1], fun b hb => h.2.1 b (by omega), h.2.2⟩
theorem FN.i {τ : St} (v : Int32) : FN τ (sI τ 6 v) := ⟨fun j hj => sI_oth τ v hj, fun _ _ => rfl, rfl⟩
/-- the reference's store holds n states -/
def SR (nb : Nat) (α : Nat → Nat) (n : Nat) (S : Nat → Nat → Int32) (par mov : Nat → Int32) (τ : St) : Prop :=
  τ.1 6 = nI n ∧ (∀ j, j < n → (∀ b, b < 8 → τ.2.1 4 (8 * j + b) = S j b) ∧ RK nb α (fun b => pp (S j b)) (S j) (fun s => τ.2.1 5 (8 * j + s)) ∧ τ.2.1 6 j = par j ∧ τ.2.1 7 j = mov j) ∧ SE n (τ.2.1 8) (fun j s => τ.2.1 5 (8 * j + s))
theorem SR_fr {nb n : Nat} {α : Nat → Nat} {S : Nat → Nat → Int32} {par mov : Nat → Int32} {τ τ' : St} (H : SR nb α n S par mov τ) (h6 : τ'.1 6 = τ.1 6) (r4 : τ'.2.1 4 = τ.2.1 4) (r5 : τ'.2.1 5 = τ.2.1 5) (r6 : τ'.2.1 6 = τ.2.1 6) (r7 : τ'.2.1 7 = τ.2.1 7) (r8 : τ'.2.1 8 = τ.2.1 8) : SR nb α n S par mov τ' := by
  unfold SR at *
  rw [h6, r4, r5, r6, r7, r8]
  exact H
theorem SR_o {nb n : Nat} {α : Nat → Nat} {S : Nat → Nat → Int32} {par mov : Nat → Int32} {τ τ' : St} {a : Nat} (ha : 9 ≤ a) (H : SR nb α n S par mov τ) (o : O1 a τ τ') : SR nb α n S par mov τ' :=
  SR_fr H (by rw [o.1]) (o.2.1 4 (by omega)) (o.2.1 5 (by omega)) (o.2.1 6 (by omega)) (o.2.1 7 (by omega)) (o.2.1 8 (by omega))
/-- only two int rows have changed -/
def O2 (a c : Nat) (σ σ' : St) : Prop := σ'.1 = σ.1 ∧ (∀ b, b ≠ a → b ≠ c → σ'.2.1 b = σ.2.1 b) ∧ σ'.2.2 = σ.2.2
theorem O2.rf {a c : Nat} {σ : St} : O2 a c σ σ := ⟨rfl, fun _ _ _ => rfl, rfl⟩
theorem in33 {N : Nat} {n : Nat} (hn : n ≤ 10000) {τ0 : St} (t6 : τ0.1 6 = nI n) (a0 a1 : Int32) : ∀ (e f k : Nat) (τ : St), k + e = 8 → e < f → O2 4 5 τ0 τ → (∀ i, i < 8 * n → τ.2.1 4 i = τ0.2.1 4 i ∧ τ.2.1 5 i = τ0.2.1 5 i) → (∀ b, b < k → τ.2.1 4 (8 * n + b) = τ0.2.1 10 b ∧ τ.2.1 5 (8 * n + b) = τ0.2.1 11 b) →
    ∃ τ', FN τ0 τ' ∧ τ'.1 6 = nI (n + 1) ∧ (∀ i, i < 8 * n → τ'.2.1 4 i = τ0.2.1 4 i ∧ τ'.2.1 5 i = τ0.2.1 5 i) ∧ (∀ b, b < 8 → τ'.2.1 4 (8 * n + b) = τ0.2.1 10 b ∧ τ'.2.1 5 (8 * n + b) = τ0.2.1 11 b) ∧ τ'.2.1 6 = upd (τ0.2.1 6) n a0 ∧ τ'.2.1 7 = upd (τ0.2.1 7) n a1 ∧ τ'.2.1 8 = τ0.2.1 8 ∧ lp_X7_isNew_33 N a0 a1 f τ (nI k) = some (1, τ') := by
  intro e
  induction e with
  | zero =>
    intro f k τ hk hf o h1 h2
    obtain ⟨f, rfl⟩ : ∃ j, f = j + 1 := ⟨f - 1, by omega⟩
    have on : okx (nI n) 10001 = true := okx_nI (by omega) (by omega)
    have t6' : τ.1 6 = nI n := by rw [o.1]; exact t6
    refine ⟨sI (sA (sA τ 6 (nI n) a0) 7 (nI n) a1) 6 (nI (n + 1)), ?_, sI_own _ _ _, ?_, ?_, ?_, ?_, ?_, ?_⟩
    · refine FN.tr (τ1 := τ) ?_ (((FN.o (a := 6) (by omega) (O1.sA _ _)).tr (FN.o (a := 7) (by omega) (O1.sA _ _))).tr (FN.i _))
      exact ⟨fun j _ => by rw [o.1], fun b hb => o.2.1 b (by omega) (by omega), o.2.2⟩
    · exact h1
    · exact fun b hb => h2 b (by omega)
    · show (sA (sA τ 6 (nI n) a0) 7 (nI n) a1).2.1 6 = _
      rw [sA_oth _ _ _ (by omega), sA_row _ _ _ _ (by omega), o.2.1 6 (by omega) (by omega)]
    · show (sA (sA τ 6 (nI n) a0) 7 (nI n) a1).2.1 7 = _
      rw [sA_row _ _ _ _ (by omega), sA_oth _ _ _ (by omega), o.2.1 7 (by omega) (by omega)]
    · show (sA (sA τ 6 (nI n) a0) 7 (nI n) a1).2.1 8 = _
      rw [sA_oth _ _ _ (by omega), sA_oth _ _ _ (by omega), o.2.1 8 (by omega) (by omega)]
    · rw [lp_X7_isNew_33, if_pos (show (8 : Int32) ≤ nI k from nI_le (a := 8) (by omega) (by omega)), t6', gd_t on, nm_eq, sA_1, t6', gd_t on, nm_eq, sA_1, sA_1, t6', nI_1, nm_eq]
  | succ e ih =>
    intro f k τ hk hf o h1 h2
    obtain ⟨f, rfl⟩ : ∃ j, f = j + 1 := ⟨f - 1, by omega⟩
    have t6' : τ.1 6 = nI n := by rw [o.1]; exact t6
    have ec : (8 : Int32) * nI n + nI k = nI (8 * n + k) := cell_nI 8 k n
    have o8 : okx (nI (8 * n + k)) 80008 = true := okx_nI (by omega) (by omega)
    rw [lp_X7_isNew_33, if_neg (show ¬ (8 : Int32) ≤ nI k from nI_ge (b := 8) (by omega) (by omega)), gd_t (okx_nI (by omega) (by omega)), t6', ec, gd_t o8, nm_eq, gd_t (okx_nI (by omega) (by omega)), sA_1, t6', ec, gd_t o8, nm_eq, nm_eq, nI_1, ra_nI _ _ (by omega), ra_nI _ _ (by omega), sA_oth _ _ _ (show 11 ≠ 4 by omega), o.2.1 10 (by omega) (by omega), o.2.1 11 (by omega) (by omega)]
    have r4 : (sA (sA τ 4 (nI (8 * n + k)) (τ0.2.1 10 k)) 5 (nI (8 * n + k)) (τ0.2.1 11 k)).2.1 4 = upd (τ.2.1 4) (8 * n + k) (τ0.2.1 10 k) := by rw [sA_oth _ _ _ (by omega), sA_row _ _ _ _ (by omega)]
    have r5 : (sA (sA τ 4 (nI (8 * n + k)) (τ0.2.1 10 k)) 5 (nI (8 * n + k)) (τ0.2.1 11 k)).2.1 5 = upd (τ.2.1 5) (8 * n + k) (τ0.2.1 11 k) := by rw [sA_row _ _ _ _ (by omega), sA_oth _ _ _ (by omega)]
    refine ih f (k + 1) _ (by omega) (by omega) ⟨o.1, fun b c1 c2 => ?_, o.2.2⟩ (fun i hi => ?_) (fun b hb => ?_)
    · rw [sA_oth _ _ _ c2, sA_oth _ _ _ c1]; exact o.2.1 b c1 c2
    · rw [r4, r5, pk_un (by omega), pk_un (by omega)]; exact h1 i hi
    · rw [r4, r5]
      by_cases d : b = k
      · rw [d, pk_us, pk_us]; exact ⟨rfl, rfl⟩
      · rw [pk_un (by omega), pk_un (by omega)]; exact h2 b (by omega)
theorem isNew_ok {N : Nat} (hN : 100000 ≤ N) {nb n : Nat} {α : Nat → Nat} {S : Nat → Nat → Int32} {par mov m : Nat → Int32} {τ : St} (hnb : nb ≤ 8) (t4 : τ.1 4 = nI nb) (t9 : ∀ b, b < nb → τ.2.1 9 b = nI (α b) ∧ α b < 8) (t10 : ∀ b, b < 8 → τ.2.1 10 b = m b) (hm : ∀ k b, k < nb → b < nb → α k = α b → (m k < m b ↔ pp (m k) < pp (m b)) ∧ (m k = m b ↔ pp (m k) = pp (m b))) (hS : ∀ j, j < n → ∀ k b, k < nb → b < nb → α k = α b → (S j k = m b ↔ pp (S j k) = pp (m b))) (hn : n ≤ 10000) (hR : SR nb α n S par mov τ) (a0 a1 : Int32) :
    (Has nb α n S m → ∃ τ', FN τ τ' ∧ SR nb α n S par mov τ' ∧ f_X7_isNew N τ a0 a1 = some (0, τ')) ∧
    (¬ Has nb α n S m → ∃ τ', FN τ τ' ∧ SR nb α (n + 1) (pu S n m) (pu par n a0) (pu mov n a1) τ' ∧ f_X7_isNew N τ a0 a1 = some (1, τ')) := by
  obtain ⟨τ1, o1, rk, e1⟩ := order_ok (N := N) (p := fun b => pp (m b)) (by omega) hnb t4 t9 (fun k hk => t10 k (by omega)) hm
  obtain ⟨c6, cj, cE⟩ := SR_o (a := 11) (by omega) hR o1
  obtain ⟨y, hy, e2, h2⟩ := seatOf_ok (N := N) hN hn cE
  have hk : ∀ j, j < n → ((∀ s, s < 8 → τ1.2.1 5 (8 * j + s) = τ1.2.1 11 s) ↔ Eqv nb α (fun b => pp (S j b)) (fun b => pp (m b))) := fun j hj => RK_iff hnb (cj j hj).2.1 rk (fun b b' hb hb' ha => hS j hj b b' hb hb' ha)
  have oy : okx (nI y) 32768 = true := okx_nI hy (by omega)
  constructor
  · rintro ⟨j, hj, he⟩
    refine ⟨τ1, FN.o (by omega) o1, ⟨c6, cj, cE⟩, ?_⟩
    rcases h2 with ⟨j', hj', e3, -⟩ | ⟨-, hno, -⟩
    · unfold f_X7_isNew
      rw [e1, bd1_some, e2, bd1_some, gd_t oy, ra_nI _ _ (by omega), e3, if_neg (nI_pos (by omega))]
    · exact absurd ((hk j hj).mpr he) (hno j hj)
  · intro hno
    rcases h2 with ⟨j', hj', e3, hk'⟩ | ⟨e3, hno', d, hd, hyd, hfull⟩
    · exact absurd ⟨j', hj', (hk j' hj').mp hk'⟩ hno
    · have o2 : O1 8 τ1 (sA τ1 8 (nI y) (nI n)) := O1.sA _ _
      have r8 : (sA τ1 8 (nI y) (nI n)).2.1 8 = upd (τ1.2.1 8) y (nI n) := sA_row _ _ _ _ (by omega)
      obtain ⟨τ', f', d6, dl, dn, d6', d7', d8', e4⟩ := in33 (N := N) hn (τ0 := sA τ1 8 (nI y) (nI n)) c6 a0 a1 8 N 0 (sA τ1 8 (nI y) (nI n)) (by omega) (by omega) O2.rf (fun i _ => ⟨rfl, rfl⟩) (fun b hb => by omega)
      rw [o2.2.1 4 (by omega), o2.2.1 5 (by omega)] at dl
      rw [o2.2.1 10 (by omega), o2.2.1 11 (by omega), o1.2.1 10 (by omega)] at dn
      rw [o2.2.1 6 (by omega)] at d6'
      rw [o2.2.1 7 (by omega)] at d7'
      rw [r8] at d8'
      have ek : ∀ j, j < n → ∀ s, s < 8 → τ'.2.1 5 (8 * j + s) = τ1.2.1 5 (8 * j + s) := fun j hj s hs => (dl (8 * j + s) (by omega)).2
      refine ⟨τ', ((FN.o (a := 11) (by omega) o1).tr (FN.o (a := 8) (by omega) o2)).tr f', ⟨d6, fun j hj => ?_, ?_⟩, ?_⟩
      · rw [d6', d7']
        by_cases z : j = n
        · subst z
          rw [pk_us, pk_us, pu_n, pu_n, pu_n]
          refine ⟨fun b hb => ((dn b hb).1).trans (t10 b hb), ⟨fun s c1 c2 => ((dn s c2).2).trans (rk.1 s c1 c2), fun b s c1 c2 c3 c4 => ((dn s (by omega)).2).trans (rk.2 b s c1 c2 c3 c4)⟩, rfl, rfl⟩
        · rw [pk_un z, pk_un z, pu_o _ _ z, pu_o _ _ z, pu_o _ _ z]
          obtain ⟨q1, q2, q3, q4⟩ := cj j (by omega)
          refine ⟨fun b hb => ((dl (8 * j + b) (by omega)).1).trans (q1 b hb), ⟨fun s c1 c2 => (ek j (by omega) s c2).trans (q2.1 s c1 c2), fun b s c1 c2 c3 c4 => (ek j (by omega) s (by omega)).trans (q2.2 b s c1 c2 c3 c4)⟩, q3, q4⟩
      · rw [d8']
        have hsj : ∀ j, j < n → sta (fun s => τ'.2.1 5 (8 * j + s)) = sta (fun s => τ1.2.1 5 (8 * j + s)) := fun j hj => sta_congr (fun s hs => ek j hj s hs)
        have hsn : sta (fun s => τ'.2.1 5 (8 * n + s)) = sta (τ1.2.1 11) := sta_congr (fun s hs => (dn s hs).2)
        refine ⟨fun z hz => ?_, fun z z' j hz hz' hj e e' => ?_, fun j hj => ?_⟩
        · by_cases q : z = y
          · exact Or.inr ⟨n, by omega, by rw [q, pk_us]⟩
          · rw [pk_un q]
            rcases cE.1 z hz with c | ⟨j, hj, c⟩
            · exact Or.inl c
            · exact Or.inr ⟨j, by omega, c⟩
        · have noN : ∀ z, z < 32768 → τ1.2.1 8 z ≠ nI n := by
            intro z hz e
            rcases cE.1 z hz with c | ⟨j, hj, c⟩
            · rw [c] at e; exact nI_nm1 (n := n) (by omega) e.symm
            · rw [c] at e
              have := (nI_eq (by omega) (by omega)).mp e
              omega
          have full : ∀ z, z < 32768 → upd (τ1.2.1 8) y (nI n) z = nI j → (z = y ∧ j = n) ∨ (τ1.2.1 8 z = nI j ∧ j < n) := by
            intro z hz e
            by_cases q : z = y
            · rw [q, pk_us] at e
              exact Or.inl ⟨q, ((nI_eq (by omega) (by omega)).mp e).symm⟩
            · rw [pk_un q] at e
              refine Or.inr ⟨e, ?_⟩
              rcases Nat.lt_or_ge j n with c | c
              · exact c
              · rw [show j = n by omega] at e
                exact absurd e (noN z hz)
          rcases full z hz e with ⟨c1, c2⟩ | ⟨c1, c2⟩ <;> rcases full z' hz' e' with ⟨c3, c4⟩ | ⟨c3, c4⟩
          · rw [c1, c3]
          · omega
          · omega
          · exact cE.2.1 z z' j hz hz' c2 c1 c3
        · rcases Nat.lt_or_ge j n with c | c
          · obtain ⟨dj, j1, j2, j3⟩ := cE.2.2 j c
            refine ⟨dj, j1, ?_, fun d' hd' => ?_⟩
            · show upd (τ1.2.1 8) y (nI n) ((sta (fun s => τ'.2.1 5 (8 * j + s)) + dj) % 32768) = _
              rw [hsj j c]
              by_cases q : (sta (fun s => τ1.2.1 5 (8 * j + s)) + dj) % 32768 = y
              · have j2 : τ1.2.1 8 ((sta (fun s => τ1.2.1 5 (8 * j + s)) + dj) % 32768) = nI j := j2
                rw [q, e3] at j2
                exact absurd j2.symm (nI_nm1 (by omega))
              · rw [pk_un q]; exact j2
            · show upd (τ1.2.1 8) y (nI n) ((sta (fun s => τ'.2.1 5 (8 * j + s)) + d') % 32768) ≠ _
              rw [hsj j c]
              by_cases q : (sta (fun s => τ1.2.1 5 (8 * j + s)) + d') % 32768 = y
              · rw [q, pk_us]; exact nI_nm1 (by omega)
              · rw [pk_un q]; exact j3 d' hd'
          · have ej : j = n := by omega
            subst ej
            refine ⟨d, hd, ?_, fun d' hd' => ?_⟩
            · show upd (τ1.2.1 8) y (nI j) ((sta (fun s => τ'.2.1 5 (8 * j + s)) + d) % 32768) = _
              rw [hsn, ← hyd, pk_us]
            · show upd (τ1.2.1 8) y (nI j) ((sta (fun s => τ'.2.1 5 (8 * j + s)) + d') % 32768) ≠ _
              rw [hsn]
              by_cases q : (sta (τ1.2.1 11) + d') % 32768 = y
              · rw [q, pk_us]; exact nI_nm1 (by omega)
              · rw [pk_un q]; exact hfull d' hd'
      · unfold f_X7_isNew
        rw [e1, bd1_some, e2, bd1_some, gd_t oy, ra_nI _ _ (by omega), e3, if_pos (by decide), gd_t oy, c6, nm_eq]
        exact e4
