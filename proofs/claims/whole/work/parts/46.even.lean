/-! even -/
theorem jrem2 {n : Nat} (h : n < 2 ^ 31) : jrem (nI n) 2 = nI (n % 2) := by
  unfold jrem
  exact pk_rem (d := 2) h (by omega) (by omega)
theorem ch2 {nn : Nat} {Q : Nat → Nat → Nat → Prop} (h : ∀ v, v < nn → ∃ j r, Q v j r) : ∃ J R : Nat → Nat, ∀ v, v < nn → Q v (J v) (R v) := by
  have h' : ∀ v, ∃ q : Nat × Nat, v < nn → Q v q.1 q.2 := by
    intro v
    by_cases hv : v < nn
    · obtain ⟨j, r, h1⟩ := h v hv
      exact ⟨(j, r), fun _ => h1⟩
    · exact ⟨(0, 0), fun q => absurd q hv⟩
  exact ⟨fun v => (Classical.choose (h' v)).1, fun v => (Classical.choose (h' v)).2, fun v hv => Classical.choose_spec (h' v) hv⟩
theorem h16 (N : Nat) {nn a : Nat} {ln : Nat → Nat → Bool} {σ τ : St} (hnn : nn ≤ 8) (ha : a < nn) (hl : LN ln σ τ) (K : Int32 → Option (Int32 × St)) : ∀ (e n b : Nat), b + e = a → e < n →
    ((∃ b', b ≤ b' ∧ b' < a ∧ (ln a b' = true ∧ jrem (σ.2.1 17 a + σ.2.1 17 b') 2 = 0)) ∧ lp_X5_hasTwoColours_16 N σ (nI a) K n (nI b) = some (0, σ)) ∨ ((¬ ∃ b', b ≤ b' ∧ b' < a ∧ (ln a b' = true ∧ jrem (σ.2.1 17 a + σ.2.1 17 b') 2 = 0)) ∧ lp_X5_hasTwoColours_16 N σ (nI a) K n (nI b) = K (nI (a + 1))) := by
  intro e
  induction e with
  | zero =>
    intro n b hb hn
    obtain ⟨n, rfl⟩ : ∃ m, n = m + 1 := ⟨n - 1, by omega⟩
    right
    refine ⟨fun ⟨b', h1, h2, _⟩ => by omega, ?_⟩
    rw [lp_X5_hasTwoColours_16, if_pos (nI_le (by omega) (by omega)), nm_eq, nI_1]
  | succ e ih =>
    intro n b hb hn
    obtain ⟨n, rfl⟩ : ∃ m, n = m + 1 := ⟨n - 1, by omega⟩
    have oa : okx (nI a) 8 = true := okx_nI (by omega) (by omega)
    have ob : okx (nI b) 8 = true := okx_nI (by omega) (by omega)
    rw [lp_X5_hasTwoColours_16, if_neg (nI_ge (by omega) (by omega)), joinedC N hl (by omega) (by omega)]
    simp only [gd_t oa, gd_t ob, ra_nI _ _ (show a < 2 ^ 31 by omega), ra_nI _ _ (show b < 2 ^ 31 by omega), bd1_some, nm_eq, nI_1]
    have go : ¬ (ln a b = true ∧ jrem (σ.2.1 17 a + σ.2.1 17 b) 2 = 0) → (∃ b', b + 1 ≤ b' ∧ b' < a ∧ (ln a b' = true ∧ jrem (σ.2.1 17 a + σ.2.1 17 b') 2 = 0)) = (∃ b', b ≤ b' ∧ b' < a ∧ (ln a b' = true ∧ jrem (σ.2.1 17 a + σ.2.1 17 b') 2 = 0)) := fun h => propext (ex_skip (Q := fun b' => ln a b' = true ∧ jrem (σ.2.1 17 a + σ.2.1 17 b') 2 = 0) h)
    have hi := ih n (b + 1) (by omega) (by omega)
    cases h3 : ln a b
    · rw [if_neg (by decide : ¬ false = true), if_pos rfl]
      rw [go (fun q => by rw [h3] at q; cases q.1)] at hi
      exact hi
    · rw [if_pos rfl, if_neg (show ¬ (1 : Int32) = 0 by decide)]
      by_cases h4 : jrem (σ.2.1 17 a + σ.2.1 17 b) 2 = 0
      · rw [if_pos h4]
        exact Or.inl ⟨⟨b, by omega, by omega, h3, h4⟩, rfl⟩
      · rw [if_neg h4]
        rw [go (fun q => h4 q.2)] at hi
        exact hi
theorem h6 {N : Nat} (hN : 100 ≤ N) {nn : Nat} {ln : Nat → Nat → Bool} {σ τ : St} (hnn : nn ≤ 8) (s15 : σ.1 15 = nI nn) (hl : LN ln σ τ) : ∀ (e n a : Nat), a + e = nn → e < n → ∃ r, Yn r (¬ ∃ a', a ≤ a' ∧ a' < nn ∧ ∃ b', 0 ≤ b' ∧ b' < a' ∧ (ln a' b' = true ∧ jrem (σ.2.1 17 a' + σ.2.1 17 b') 2 = 0)) ∧ lp_X5_hasTwoColours_6 N σ n (nI a) = some (r, σ) := by
  intro e
  induction e with
  | zero =>
    intro n a hb hn
    obtain ⟨n, rfl⟩ : ∃ m, n = m + 1 := ⟨n - 1, by omega⟩
    exact ⟨1, Or.inl ⟨rfl, fun ⟨a', h1, h2, _⟩ => by omega⟩, by rw [lp_X5_hasTwoColours_6, s15, if_pos (nI_le (by omega) (by omega))]⟩
  | succ e ih =>
    intro n a hb hn
    obtain ⟨n, rfl⟩ : ∃ m, n = m + 1 := ⟨n - 1, by omega⟩
    rw [lp_X5_hasTwoColours_6, s15, if_neg (nI_ge (by omega) (by omega))]
    rcases h16 N (a := a) hnn (by omega) hl (fun v0 => lp_X5_hasTwoColours_6 N σ n v0) a N 0 (by omega) (by omega) with ⟨h1, h2⟩ | ⟨h1, h2⟩
    · exact ⟨0, Or.inr ⟨rfl, fun q => q ⟨a, by omega, by omega, h1⟩⟩, h2⟩
    · obtain ⟨r, hr, e2⟩ := ih n (a + 1) (by omega) (by omega)
      refine ⟨r, hr.congr (not_congr (ex_skip (Q := fun a' => ∃ b', 0 ≤ b' ∧ b' < a' ∧ (ln a' b' = true ∧ jrem (σ.2.1 17 a' + σ.2.1 17 b') 2 = 0)) h1)), Eq.trans h2 e2⟩
theorem e118 (N : Nat) {nn a : Nat} {ln : Nat → Nat → Bool} {σ τ : St} (hnn : nn ≤ 8) (t9 : τ.1 9 = nI nn) (ha : a < nn) (hl : LN ln σ τ) (K : Int32 → Option (Int32 × St)) : ∀ (e n b : Nat), b + e = nn → e < n →
    ((∃ b', b ≤ b' ∧ b' < nn ∧ (ln a b' = true ∧ τ.2.1 18 a = τ.2.1 18 b')) ∧ lp_X7_isEven_118 N τ (nI a) K n (nI b) = some (0, τ)) ∨ ((¬ ∃ b', b ≤ b' ∧ b' < nn ∧ (ln a b' = true ∧ τ.2.1 18 a = τ.2.1 18 b')) ∧ lp_X7_isEven_118 N τ (nI a) K n (nI b) = K (nI (a + 1))) := by
  intro e
  induction e with
  | zero =>
    intro n b hb hn
    obtain ⟨n, rfl⟩ : ∃ m, n = m + 1 := ⟨n - 1, by omega⟩
    right
    refine ⟨fun ⟨b', h1, h2, _⟩ => by omega, ?_⟩
    rw [lp_X7_isEven_118, t9, if_pos (nI_le (by omega) (by omega)), nm_eq, nI_1]
  | succ e ih =>
    intro n b hb hn
    obtain ⟨n, rfl⟩ : ∃ m, n = m + 1 := ⟨n - 1, by omega⟩
    have oa : okx (nI a) 8 = true := okx_nI (by omega) (by omega)
    have ob : okx (nI b) 8 = true := okx_nI (by omega) (by omega)
    rw [lp_X7_isEven_118, t9, if_neg (nI_ge (by omega) (by omega)), joinedM N hl (by omega) (by omega)]
    simp only [gd_t oa, gd_t ob, ra_nI _ _ (show a < 2 ^ 31 by omega), ra_nI _ _ (show b < 2 ^ 31 by omega), bd1_some, nm_eq, nI_1]
    have go : ¬ (ln a b = true ∧ τ.2.1 18 a = τ.2.1 18 b) → (∃ b', b + 1 ≤ b' ∧ b' < nn ∧ (ln a b' = true ∧ τ.2.1 18 a = τ.2.1 18 b')) = (∃ b', b ≤ b' ∧ b' < nn ∧ (ln a b' = true ∧ τ.2.1 18 a = τ.2.1 18 b')) := fun h => propext (ex_skip (Q := fun b' => ln a b' = true ∧ τ.2.1 18 a = τ.2.1 18 b') h)
    have hi := ih n (b + 1) (by omega) (by omega)
    cases h3 : ln a b
    · rw [if_neg (by decide : ¬ false = true), if_pos rfl]
      rw [go (fun q => by rw [h3] at q; cases q.1)] at hi
      exact hi
    · rw [if_pos rfl, if_neg (show ¬ (1 : Int32) = 0 by decide)]
      by_cases h4 : τ.2.1 18 a = τ.2.1 18 b
      · rw [if_pos h4]
        exact Or.inl ⟨⟨b, by omega, by omega, h3, h4⟩, rfl⟩
      · rw [if_neg h4]
        rw [go (fun q => h4 q.2)] at hi
        exact hi
theorem e108 {N : Nat} (hN : 100 ≤ N) {nn : Nat} {ln : Nat → Nat → Bool} {σ τ : St} (hnn : nn ≤ 8) (t9 : τ.1 9 = nI nn) (hl : LN ln σ τ) : ∀ (e n a : Nat), a + e = nn → e < n → ∃ r, Yn r (¬ ∃ a', a ≤ a' ∧ a' < nn ∧ ∃ b', 0 ≤ b' ∧ b' < nn ∧ (ln a' b' = true ∧ τ.2.1 18 a' = τ.2.1 18 b')) ∧ lp_X7_isEven_108 N τ n (nI a) = some (r, τ) := by
  intro e
  induction e with
  | zero =>
    intro n a hb hn
    obtain ⟨n, rfl⟩ : ∃ m, n = m + 1 := ⟨n - 1, by omega⟩
    exact ⟨1, Or.inl ⟨rfl, fun ⟨a', h1, h2, _⟩ => by omega⟩, by rw [lp_X7_isEven_108, t9, if_pos (nI_le (by omega) (by omega))]⟩
  | succ e ih =>
    intro n a hb hn
    obtain ⟨n, rfl⟩ : ∃ m, n = m + 1 := ⟨n - 1, by omega⟩
    rw [lp_X7_isEven_108, t9, if_neg (nI_ge (by omega) (by omega))]
    rcases e118 N (a := a) hnn t9 (by omega) hl (fun v0 => lp_X7_isEven_108 N τ n v0) nn N 0 (by omega) (by omega) with ⟨h1, h2⟩ | ⟨h1, h2⟩
    · exact ⟨0, Or.inr ⟨rfl, fun q => q ⟨a, by omega, by omega, h1⟩⟩, h2⟩
    · obtain ⟨r, hr, e2⟩ := ih n (a + 1) (by omega) (by omega)
      refine ⟨r, hr.congr (not_congr (ex_skip (Q := fun a' => ∃ b', 0 ≤ b' ∧ b' < nn ∧ (ln a' b' = true ∧ τ.2.1 18 a' = τ.2.1 18 b')) h1)), Eq.trans h2 e2⟩
/-- nothing but colours and distances of the reference has changed -/
def OE (τ τ' : St) : Prop := τ'.1 = τ.1 ∧ (∀ b, b ≠ 18 → b ≠ 19 → τ'.2.1 b = τ.2.1 b) ∧ τ'.2.2 = τ.2.2
theorem OE.rf {τ : St} : OE τ τ := ⟨rfl, fun _ _ _ => rfl, rfl⟩
theorem OE.tr {τ τ1 τ2 : St} (h1 : OE τ τ1) (h2 : OE τ1 τ2) : OE τ τ2 := ⟨h2.1.trans h1.1, fun b hb hc => (h2.2.1 b hb hc).trans (h1.2.1 b hb hc), h2.2.2.trans h1.2.2⟩
theorem OE.o18 {τ τ1 : St} (h : O1 18 τ τ1) : OE τ τ1 := ⟨h.1, fun b hb _ => h.2.1 b hb, h.2.2⟩
theorem OE.o19 {τ τ1 : St} (h : O1 19 τ τ1) : OE τ τ1 := ⟨h.1, fun b _ hb => h.2.1 b hb, h.2.2⟩
theorem LN_OE {ln : Nat → Nat → Bool} {σ τ τ' : St} (h : LN ln σ τ) (o : OE τ τ') : LN ln σ τ' := ⟨h.1, by rw [o.2.1 13 (by omega) (by omega)]; exact h.2⟩
theorem e52 {N : Nat} {nn x : Nat} {τ0 : St} (hnn : nn ≤ 8) (t9 : τ0.1 9 = nI nn) (hx : x < nn) (K : St → Int32 → Option (Int32 × St)) : ∀ (e n k : Nat) (τ : St), k + e = nn → e < n → O1 18 τ0 τ → (∀ v, v < k → τ.2.1 18 v = if (99 : Int32) ≤ τ0.2.1 19 v then τ0.2.1 18 v else jrem (τ0.2.1 19 v) 2) → (∀ v, k ≤ v → τ.2.1 18 v = τ0.2.1 18 v) →
    ∃ τ', O1 18 τ0 τ' ∧ (∀ v, v < nn → τ'.2.1 18 v = if (99 : Int32) ≤ τ0.2.1 19 v then τ0.2.1 18 v else jrem (τ0.2.1 19 v) 2) ∧ lp_X7_isEven_52 N (nI x) K n τ (nI k) = K τ' (nI (x + 1)) := by
  intro e
  induction e with
  | zero =>
    intro n k τ hb hn o h1 h2
    obtain ⟨n, rfl⟩ : ∃ m, n = m + 1 := ⟨n - 1, by omega⟩
    exact ⟨τ, o, fun v hv => h1 v (by omega), by rw [lp_X7_isEven_52, o.1, t9, if_pos (nI_le (by omega) (by omega)), nm_eq, nI_1]⟩
  | succ e ih =>
    intro n k τ hb hn o h1 h2
    obtain ⟨n, rfl⟩ : ∃ m, n = m + 1 := ⟨n - 1, by omega⟩
    have ok : okx (nI k) 8 = true := okx_nI (by omega) (by omega)
    rw [lp_X7_isEven_52, o.1, t9, if_neg (nI_ge (by omega) (by omega))]
    simp only [gd_t ok, ra_nI _ _ (show k < 2 ^ 31 by omega), nm_eq, nI_1]
    rw [o.2.1 19 (by omega)]
    have key : ∀ y : Int32, y = (if (99 : Int32) ≤ τ0.2.1 19 k then τ0.2.1 18 k else jrem (τ0.2.1 19 k) 2) → ∃ τ', O1 18 τ0 τ' ∧ (∀ v, v < nn → τ'.2.1 18 v = if (99 : Int32) ≤ τ0.2.1 19 v then τ0.2.1 18 v else jrem (τ0.2.1 19 v) 2) ∧ lp_X7_isEven_52 N (nI x) K n (sA τ 18 (nI k) y) (nI (k + 1)) = K τ' (nI (x + 1)) := by
      intro y hy
      refine ih n (k + 1) _ (by omega) (by omega) (o.tr (O1.sA _ _)) (fun v hv => ?_) (fun v hv => ?_)
      · rw [sA_row _ _ _ _ (by omega)]
        by_cases q : v = k
        · rw [q, pk_us, hy]
        · rw [pk_un q]; exact h1 v (by omega)
      · rw [sA_row _ _ _ _ (by omega), pk_un (by omega)]; exact h2 v (by omega)
    by_cases h3 : (99 : Int32) ≤ τ0.2.1 19 k
    · rw [if_pos h3]
      exact key _ (by rw [if_pos h3, h2 k (by omega)])
    · rw [if_neg h3]
      exact key _ (by rw [if_neg h3])
def CS (ln : Nat → Nat → Bool) (nn X : Nat) (c : Nat → Int32) : Prop := ∀ v, v < nn → c v = -1 ∨ ∃ j r, r < X ∧ c v = nI (j % 2) ∧ wk ln j r v ∧ Lst ln r v
theorem e25 {N : Nat} (hN : 100 ≤ N) {nn : Nat} {ln : Nat → Nat → Bool} {σ0 τ0 : St} (hg : Gr nn ln) (t9 : τ0.1 9 = nI nn) (hl : LN ln σ0 τ0) :
    ∀ (e n x : Nat) (τ : St), x + e = nn → e < n → OE τ0 τ → CS ln nn x (τ.2.1 18) → (∀ u v, u < x → v < nn → rch ln u v → τ.2.1 18 v ≠ -1) → ∃ τ', OE τ0 τ' ∧ lp_X7_isEven_25 N n τ (nI x) = lp_X7_isEven_108 N τ' N 0 ∧ ∀ v, v < nn → ∃ j r, r < nn ∧ τ'.2.1 18 v = nI (j % 2) ∧ wk ln j r v ∧ Lst ln r v := by
  have hnn := hg.1
  intro e
  induction e with
  | zero =>
    intro n x τ hb hn o hS hC
    obtain ⟨n, rfl⟩ : ∃ m, n = m + 1 := ⟨n - 1, by omega⟩
    have eb : x = nn := by omega
    subst eb
    refine ⟨τ, o, ?_, ?_⟩
    · rw [lp_X7_isEven_25, o.1, t9, if_pos (nI_le (by omega) (by omega))]
    · intro v hv
      rcases hS v hv with h | h
      · exact absurd h (hC v v hv hv (rch_rf v))
      · exact h
  | succ e ih =>
    intro n x τ hb hn o hS hC
    obtain ⟨n, rfl⟩ : ∃ m, n = m + 1 := ⟨n - 1, by omega⟩
    have hx : x < nn := by omega
    have t9' : τ.1 9 = nI nn := by rw [o.1]; exact t9
    rw [lp_X7_isEven_25, t9', if_neg (nI_ge (by omega) (by omega)), gd_t (okx_nI (by omega) (by omega)), ra_nI _ _ (by omega)]
    by_cases h1 : τ.2.1 18 x = -1
    · rw [if_pos (by rw [h1]; decide)]
      obtain ⟨τ1, o1, e1, f1⟩ := measureM hN hg hx t9' (LN_OE hl o)
      have t91 : τ1.1 9 = nI nn := by rw [o1.1]; exact t9'
      obtain ⟨τ2, o2, f2, e2⟩ := e52 (N := N) hnn t91 hx (fun v0 v1 => lp_X7_isEven_25 N n v0 v1) nn N 0 τ1 (by omega) (by omega) O1.rf (fun v hv => by omega) (fun v _ => rfl)
      have e18 : τ1.2.1 18 = τ.2.1 18 := o1.2.1 18 (by omega)
      have hLx : Lst ln x x := ⟨rch_rf x, fun u hu hr => by
        rcases Nat.lt_or_ge u x with q | q
        · exact absurd h1 (hC u x q hx hr)
        · exact q⟩
      have val : ∀ v, v < nn → (τ2.2.1 18 v = τ.2.1 18 v ∧ ¬ rch ln x v) ∨ ∃ j, τ2.2.1 18 v = nI (j % 2) ∧ wk ln j x v := by
        intro v hv
        rw [f2 v hv]
        rcases f1 v hv with ⟨q1, q2⟩ | ⟨j, q1, q2, q3⟩
        · left
          rw [q1, if_pos (show (99 : Int32) ≤ nI 99 by decide), e18]
          exact ⟨rfl, q2⟩
        · right
          refine ⟨j, ?_, q3⟩
          rw [q2, if_neg (show ¬ (99 : Int32) ≤ nI j from nI_ge (b := 99) q1 (by omega)), jrem2 (by omega)]
      have e2 : lp_X7_isEven_52 N (nI x) (fun v0 v1 => lp_X7_isEven_25 N n v0 v1) N τ1 0 = lp_X7_isEven_25 N n τ2 (nI (x + 1)) := e2
      rw [e1, bd1_some, e2]
      refine ih n (x + 1) τ2 (by omega) (by omega) (o.tr ((OE.o19 o1).tr (OE.o18 o2))) ?_ ?_
      · intro v hv
        rcases val v hv with ⟨q1, q2⟩ | ⟨j, q1, q2⟩
        · rw [q1]
          rcases hS v hv with h | ⟨j, r, z1, z2⟩
          · exact Or.inl h
          · exact Or.inr ⟨j, r, by omega, z2⟩
        · right
          refine ⟨j, x, by omega, q1, q2, ⟨⟨j, q2⟩, fun u hu hr => ?_⟩⟩
          have hvx : rch ln v x := ⟨j, wk_sym hg.2.1 (by omega) q2⟩
          exact hLx.2 u hu (rch_tr hr hvx)
      · intro u v hu hv hr
        rcases val v hv with ⟨q1, q2⟩ | ⟨j, q1, q2⟩
        · rw [q1]
          rcases Nat.lt_or_ge u x with q | q
          · exact hC u v q hv hr
          · rw [show u = x by omega] at hr; exact absurd hr q2
        · rw [q1]; exact nI_nm1 (by omega)
    · have hnx : ¬ τ.2.1 18 x < 0 := by
        rcases hS x hx with h | ⟨j, r, z1, z2, z3⟩
        · exact absurd h h1
        · rw [z2]; exact nI_pos (by omega)
      rw [if_neg hnx, nm_eq, nI_1]
      refine ih n (x + 1) τ (by omega) (by omega) o ?_ ?_
      · intro v hv
        rcases hS v hv with h | ⟨j, r, q2, q3⟩
        · exact Or.inl h
        · exact Or.inr ⟨j, r, by omega, q3⟩
      · intro u v hu hv hr
        rcases Nat.lt_or_ge u x with q | q
        · exact hC u v q hv hr
        · have : u = x := by omega
          subst this
          rcases hS u hx with h | ⟨j, r, q2, q3, q4, q5⟩
          · exact absurd h h1
          · exact hC r v q2 hv (rch_tr ⟨j, q4⟩ hr)
theorem e2 {N : Nat} {nn : Nat} {τ0 : St} (hnn : nn ≤ 8) (t9 : τ0.1 9 = nI nn) :
    ∀ (e n x : Nat) (τ : St), x + e = nn → e < n → O1 18 τ0 τ → (∀ v, v < x → τ.2.1 18 v = -1) → ∃ τ', O1 18 τ0 τ' ∧ (∀ v, v < nn → τ'.2.1 18 v = -1) ∧ lp_X7_isEven_2 N n τ (nI x) = lp_X7_isEven_25 N N τ' 0 := by
  intro e
  induction e with
  | zero =>
    intro n x τ hb hn o hS
    obtain ⟨n, rfl⟩ : ∃ m, n = m + 1 := ⟨n - 1, by omega⟩
    exact ⟨τ, o, fun v hv => hS v (by omega), by rw [lp_X7_isEven_2, o.1, t9, if_pos (nI_le (by omega) (by omega))]⟩
  | succ e ih =>
    intro n x τ hb hn o hS
    obtain ⟨n, rfl⟩ : ∃ m, n = m + 1 := ⟨n - 1, by omega⟩
    rw [lp_X7_isEven_2, o.1, t9, if_neg (nI_ge (by omega) (by omega)), gd_t (okx_nI (by omega) (by omega)), nm_eq, nm_eq, nI_1]
    refine ih n (x + 1) _ (by omega) (by omega) (o.tr (O1.sA _ _)) (fun v hv => ?_)
    rw [sA_row _ _ _ _ (by omega)]
    by_cases q : v = x
    · rw [q]; exact pk_us
    · rw [pk_un q]; exact hS v (by omega)
/-- two lengths of walks from the same root are of one parity, where one of them colours the graph -/
theorem par_eq {nn r v : Nat} {ln : Nat → Nat → Bool} (hg : Gr nn ln) {p : Nat → Nat} (hp : ∀ a b, a < nn → b < nn → ln a b = true → (p a + p b) % 2 = 1) (hv : v < 8) (h1 : wk ln (p v) r v) {q : Nat} (h2 : wk ln q r v) : q % 2 = p v % 2 := by
  have a1 := par_walk hg hp hv h1
  have a2 := par_walk hg hp hv h2
  omega
/-- even, on both sides -/
theorem colours_ok {N : Nat} (hN : 100 ≤ N) {nn : Nat} {ln : Nat → Nat → Bool} {σ τ : St} (hg : Gr nn ln) (h0 : ∀ a, ln a a = false) (s15 : σ.1 15 = nI nn) (t9 : τ.1 9 = nI nn) (hl : LN ln σ τ) :
    ∃ r σ1 τ1, f_X5_hasTwoColours N σ = some (r, σ1) ∧ f_X7_isEven N τ = some (r, τ1) ∧ (r = 0 ∨ r = 1) ∧ O1 17 σ σ1 ∧ OE τ τ1 ∧ ∃ J R : Nat → Nat, (∀ v, v < nn → J v ≤ 8 ∧ R v < nn ∧ σ1.2.1 17 v = nI (J v) ∧ wk ln (J v) (R v) v ∧ Lst ln (R v) v) ∧ (r = 1 → ∀ a b, a < nn → b < nn → ln a b = true → (J a + J b) % 2 = 1) := by
  have hnn := hg.1
  obtain ⟨σ1, o1, e1, f1⟩ := measureC hN hg s15 hl
  obtain ⟨J, R, hJ⟩ := ch2 f1
  obtain ⟨τ1, p1, p2, p3⟩ := e2 (N := N) hnn t9 nn N 0 τ (by omega) (by omega) O1.rf (fun v hv => by omega)
  obtain ⟨τ2, q1, q2, q3⟩ := e25 hN hg t9 hl nn N 0 τ1 (by omega) (by omega) (OE.o18 p1) (fun v hv => Or.inl (p2 v hv)) (fun u v hu => by omega)
  obtain ⟨M, S, hM⟩ := ch2 q3
  obtain ⟨r1, y1, g1⟩ := h6 hN hnn (show σ1.1 15 = nI nn by rw [o1.1]; exact s15) (LN_O1 hl (by omega) o1) nn N 0 (by omega) (by omega)
  obtain ⟨r2, y2, g2⟩ := e108 hN hnn (show τ2.1 9 = nI nn by rw [q1.1]; exact t9) (LN_OE hl q1) nn N 0 (by omega) (by omega)
  have hRS : ∀ v, v < nn → R v = S v := fun v hv => Lst_un (by have := (hJ v hv).2.1; omega) (by have := (hM v hv).1; omega) (hJ v hv).2.2.2.2 (hM v hv).2.2.2
  have ln_ne : ∀ a b, ln a b = true → a ≠ b := fun a b h e => by rw [e, h0 b] at h; cases h
  have jJ : ∀ a b, a < nn → b < nn → (jrem (σ1.2.1 17 a + σ1.2.1 17 b) 2 = 0 ↔ (J a + J b) % 2 = 0) := by
    intro a b ha hb
    have k1 := (hJ a ha).1
    have k2 := (hJ b hb).1
    rw [(hJ a ha).2.2.1, (hJ b hb).2.2.1, nI_add, jrem2 (by omega)]
    exact nI_eq (b := 0) (by omega) (by omega)
  have gJ : (¬ ∃ a', 0 ≤ a' ∧ a' < nn ∧ ∃ b', 0 ≤ b' ∧ b' < a' ∧ (ln a' b' = true ∧ jrem (σ1.2.1 17 a' + σ1.2.1 17 b') 2 = 0)) ↔ ∀ a b, a < nn → b < nn → ln a b = true → (J a + J b) % 2 = 1 := by
    constructor
    · intro h a b ha hb hab
      rcases Nat.lt_trichotomy a b with c | c | c
      · have : ¬ (J b + J a) % 2 = 0 := fun q => h ⟨b, by omega, hb, a, by omega, c, by rw [hg.2.1 b a (by omega) (by omega)]; exact hab, (jJ b a hb ha).mpr q⟩
        omega
      · exact absurd c (ln_ne a b hab)
      · have : ¬ (J a + J b) % 2 = 0 := fun q => h ⟨a, by omega, ha, b, by omega, c, hab, (jJ a b ha hb).mpr q⟩
        omega
    · rintro h ⟨a, _, ha, b, _, hb, hab, hj⟩
      have k1 := h a b ha (by omega) hab
      have k2 := (jJ a b ha (by omega)).mp hj
      omega
  have gM : (¬ ∃ a', 0 ≤ a' ∧ a' < nn ∧ ∃ b', 0 ≤ b' ∧ b' < nn ∧ (ln a' b' = true ∧ τ2.2.1 18 a' = τ2.2.1 18 b')) ↔ ∀ a b, a < nn → b < nn → ln a b = true → (M a + M b) % 2 = 1 := by
    have k : ∀ a b, a < nn → b < nn → (τ2.2.1 18 a = τ2.2.1 18 b ↔ M a % 2 = M b % 2) := by
      intro a b ha hb
      rw [(hM a ha).2.1, (hM b hb).2.1]
      exact nI_eq (by omega) (by omega)
    constructor
    · intro h a b ha hb hab
      have : ¬ M a % 2 = M b % 2 := fun q => h ⟨a, by omega, ha, b, by omega, hb, hab, (k a b ha hb).mpr q⟩
      omega
    · rintro h ⟨a, _, ha, b, _, hb, hab, hj⟩
      have k1 := h a b ha hb hab
      have k2 := (k a b ha hb).mp hj
      omega
  have hiff : (∀ a b, a < nn → b < nn → ln a b = true → (J a + J b) % 2 = 1) ↔ ∀ a b, a < nn → b < nn → ln a b = true → (M a + M b) % 2 = 1 := by
    constructor
    · intro h a b ha hb hab
      have k1 := h a b ha hb hab
      have k2 := par_eq hg h (show a < 8 by omega) (hJ a ha).2.2.2.1 (q := M a) (by rw [hRS a ha]; exact (hM a ha).2.2.1)
      have k3 := par_eq hg h (show b < 8 by omega) (hJ b hb).2.2.2.1 (q := M b) (by rw [hRS b hb]; exact (hM b hb).2.2.1)
      omega
    · intro h a b ha hb hab
      have k1 := h a b ha hb hab
      have k2 := par_eq hg h (show a < 8 by omega) (hM a ha).2.2.1 (q := J a) (by rw [← hRS a ha]; exact (hJ a ha).2.2.2.1)
      have k3 := par_eq hg h (show b < 8 by omega) (hM b hb).2.2.1 (q := J b) (by rw [← hRS b hb]; exact (hJ b hb).2.2.2.1)
      omega
  have y1 := y1.congr gJ
  have y2 := (y2.congr gM).congr hiff.symm
  have er : r2 = r1 := by
    rcases y1 with ⟨a, b⟩ | ⟨a, b⟩ <;> rcases y2 with ⟨c, e⟩ | ⟨c, e⟩
    · rw [a, c]
    · exact absurd b e
    · exact absurd e b
    · rw [a, c]
  refine ⟨r1, σ1, τ2, ?_, ?_, ?_, o1, q1, J, R, hJ, ?_⟩
  · unfold f_X5_hasTwoColours
    rw [e1, bd1_some]
    exact g1
  · rw [← er]
    unfold f_X7_isEven
    exact Eq.trans p3 (Eq.trans q2 g2)
  · rcases y1 with ⟨a, b⟩ | ⟨a, b⟩
    · exact Or.inr a
    · exact Or.inl a
  · intro h
    rcases y1 with ⟨a, b⟩ | ⟨a, b⟩
    · exact b
    · rw [a] at h; exact absurd h (by decide)
theorem Rel_frM {σ τ τ1 : St} (hR : Rel σ τ) (h1 : ∀ j, j ≠ 0 → j ≠ 6 → τ1.1 j = τ.1 j) (h2 : ∀ b, (b < 4 ∨ (12 ≤ b ∧ b < 15)) → τ1.2.1 b = τ.2.1 b) : Rel σ τ1 := by
  obtain ⟨w, h, nb, ng, nn, hB, hG, hS, hC, hT, hM⟩ := hR
  refine ⟨w, h, nb, ng, nn, RB_fr hB (fun j _ => rfl) rfl rfl (fun j _ _ => h1 j (by omega) (by omega)) (h2 0 (by omega)) (h2 1 (by omega)), ?_, ?_, hC, ?_, hM⟩
  · exact RG_fr hG rfl rfl rfl rfl (h1 5 (by omega) (by omega)) (h2 2 (by omega)) (h2 3 (by omega))
  · exact RS_fr hS rfl rfl rfl (h1 7 (by omega) (by omega)) (h1 8 (by omega) (by omega)) (h2 12 (by omega))
  · exact RT_fr hT rfl rfl rfl (h1 9 (by omega) (by omega)) (h2 13 (by omega)) (h2 14 (by omega))
theorem Rel_OE {σ τ τ1 : St} (hR : Rel σ τ) (o : OE (sI τ 0 0) τ1) : Rel σ τ1 := Rel_frM hR (fun j h0 _ => by rw [o.1, sI_1, if_neg h0]) (fun b hb => o.2.1 b (by omega) (by omega))
theorem pg_19 {σ τ : St} (hR : Rel σ τ) {N : Nat} (hN : 100000 ≤ N) {xs : Nat → Int32} {L : Nat} {i : Int32} (K : St → St → Option Int32) : ∃ σ1 τ1, Rel σ1 τ1 ∧ g_law_19 N xs L σ τ i K = K σ1 τ1 := by
  have hR' := hR
  obtain ⟨w, h, nb, ng, nn, hB, hG, hS, hC, ⟨hnn, s15, t9, htl, ⟨ln, l1, l2, l3, l4, l5⟩⟩, hM⟩ := hR'
  obtain ⟨r, σ1, τ1, e1, e2, hr, o1, o2, -⟩ := colours_ok (N := N) (by omega) (nn := nn) (ln := ln) (σ := σ) (τ := sI τ 0 0) ⟨hnn, l1, l3⟩ l2 s15 t9 ⟨l4, l5⟩
  refine ⟨σ1, τ1, Rel_OE (Rel_fr hR 17 (by omega) o1) o2, ?_⟩
  unfold g_law_19 f_X6_even f_X7_even
  rw [e1, bd_some, gd_t (decide_eq_true hr), bd_some, nm_eq, e2, bd_some, gd_t (decide_eq_true hr), bd_some, if_pos rfl]
/-! parity -/
theorem ci16 (N : Nat) {nn a : Nat} {σ τ : St} (hnn : nn ≤ 8) (s15 : σ.1 15 = nI nn) (t9 : τ.1 9 = nI nn) (ht : ∀ v, v < nn → τ.2.1 14 v = σ.2.1 15 v) (ha : a < nn) (K : Int32 → Int32 → Option Int32) (K' : Int32 → Int32 → Option (Int32 × St)) : ∀ (e n n' b S : Nat), b + e = nn → e < n → e < n' →
    ∃ S', S' ≤ S + e ∧ lp_X5_countInversions_16 N σ (nI a) K n (nI S) (nI b) = K (nI S') (nI (a + 1)) ∧ lp_X7_parity_37 N τ (nI a) K' n' (nI S) (nI b) = K' (nI S') (nI (a + 1)) := by
  intro e
  induction e with
  | zero =>
    intro n n' b S hb hn hn'
    obtain ⟨n, rfl⟩ : ∃ m, n = m + 1 := ⟨n - 1, by omega⟩
    obtain ⟨n', rfl⟩ : ∃ m, n' = m + 1 := ⟨n' - 1, by omega⟩
    refine ⟨S, by omega, ?_, ?_⟩
    · rw [lp_X5_countInversions_16, s15, if_pos (nI_le (by omega) (by omega)), nm_eq, nI_1]
    · rw [lp_X7_parity_37, t9, if_pos (nI_le (by omega) (by omega)), nm_eq, nI_1]
  | succ e ih =>
    intro n n' b S hb hn hn'
    obtain ⟨n, rfl⟩ : ∃ m, n = m + 1 := ⟨n - 1, by omega⟩
    obtain ⟨n', rfl⟩ : ∃ m, n' = m + 1 := ⟨n' - 1, by omega⟩
    have oa : okx (nI a) 8 = true := okx_nI (by omega) (by omega)
    have ob : okx (nI b) 8 = true := okx_nI (by omega) (by omega)
    rw [lp_X5_countInversions_16, lp_X7_parity_37, s15, t9, if_neg (nI_ge (by omega) (by omega)), if_neg (nI_ge (by omega) (by omega))]
    simp only [gd_t oa, gd_t ob, ra_nI _ _ (show a < 2 ^ 31 by omega), ra_nI _ _ (show b < 2 ^ 31 by omega), nm_eq, nI_1, Int32.add_zero]
    rw [ht a ha, ht b (by omega)]
    by_cases h1 : σ.2.1 15 a ≤ σ.2.1 15 b
    · rw [if_pos h1, if_pos h1]
      obtain ⟨S', s1, s2, s3⟩ := ih n n' (b + 1) S (by omega) (by omega) (by omega)
      exact ⟨S', by omega, s2, s3⟩
    · rw [if_neg h1, if_neg h1]
      obtain ⟨S', s1, s2, s3⟩ := ih n n' (b + 1) (S + 1) (by omega) (by omega) (by omega)
      exact ⟨S', by omega, s2, s3⟩
theorem ci4 {N : Nat} (hN : 100 ≤ N) {nn : Nat} {σ τ : St} (hnn : nn ≤ 8) (s15 : σ.1 15 = nI nn) (t9 : τ.1 9 = nI nn) (ht : ∀ v, v < nn → τ.2.1 14 v = σ.2.1 15 v) : ∀ (e n n' a S : Nat), a + e = nn → e < n → e < n' →
    ∃ S', S' ≤ S + 8 * e ∧ lp_X5_countInversions_4 N σ n (nI S) (nI a) = some (nI S') ∧ lp_X7_parity_25 N τ n' (nI S) (nI a) = bd1 (f_X7_gap N τ) (fun r4 => bd1 (f_X7_measure N τ r4) (fun σ5 => lp_X7_parity_90 N σ5 (nI S') N 0)) := by
  intro e
  induction e with
  | zero =>
    intro n n' a S hb hn hn'
    obtain ⟨n, rfl⟩ : ∃ m, n = m + 1 := ⟨n - 1, by omega⟩
    obtain ⟨n', rfl⟩ : ∃ m, n' = m + 1 := ⟨n' - 1, by omega⟩
    refine ⟨S, by omega, ?_, ?_⟩
    · rw [lp_X5_countInversions_4, s15, if_pos (nI_le (by omega) (by omega))]
    · rw [lp_X7_parity_25, t9, if_pos (nI_le (by omega) (by omega))]
  | succ e ih =>
    intro n n' a S hb hn hn'
    obtain ⟨n, rfl⟩ : ∃ m, n = m + 1 := ⟨n - 1, by omega⟩
    obtain ⟨n', rfl⟩ : ∃ m, n' = m + 1 := ⟨n' - 1, by omega⟩
    obtain ⟨S1, s1, s2, s3⟩ := ci16 N (a := a) hnn s15 t9 ht (by omega) (fun v0 v1 => lp_X5_countInversions_4 N σ n v0 v1) (fun v0 v1 => lp_X7_parity_25 N τ n' v0 v1) e N N (a + 1) S (by omega) (by omega) (by omega)
    obtain ⟨S', s4, s5, s6⟩ := ih n n' (a + 1) S1 (by omega) (by omega) (by omega)
    refine ⟨S', by omega, ?_, ?_⟩
    · rw [lp_X5_countInversions_4, s15, if_neg (nI_ge (by omega) (by omega)), nm_eq, nI_1]
      exact Eq.trans s2 s5
    · rw [lp_X7_parity_25, t9, if_neg (nI_ge (by omega) (by omega)), nm_eq, nI_1]
      exact Eq.trans s3 s6
theorem p90 {N : Nat} {nn g S : Nat} {ln : Nat → Nat → Bool} {τ : St} (hg : Gr nn ln) (hgn : g < nn) (hf : ∀ v, v < nn → (τ.2.1 19 v = nI 99 ∧ ¬ rch ln g v) ∨ ∃ j, j < 99 ∧ τ.2.1 19 v = nI j ∧ wk ln j g v) : ∀ (e n x : Nat), x + e = g → e < n → (∀ u, u < x → ¬ rch ln g u) →
    ∃ l m, l < nn ∧ m < 99 ∧ wk ln m g l ∧ (∀ u, u < l → ¬ rch ln g u) ∧ lp_X7_parity_90 N τ (nI S) n (nI x) = some (jrem (nI S + nI m) 2, τ) := by
  have hnn := hg.1
  intro e
  induction e with
  | zero =>
    intro n x hx hn hu
    obtain ⟨n, rfl⟩ : ∃ m, n = m + 1 := ⟨n - 1, by omega⟩
    have ex : x = g := by omega
    subst ex
    rcases hf x hgn with ⟨q1, q2⟩ | ⟨j, q1, q2, q3⟩
    · exact absurd (rch_rf x) q2
    · refine ⟨x, j, hgn, q1, q3, hu, ?_⟩
      rw [lp_X7_parity_90, gd_t (okx_nI (by omega) (by omega)), gd_t (okx_nI (by omega) (by omega)), ra_nI _ _ (by omega), q2, if_neg (show ¬ nI j = 99 from fun z => by have := (nI_eq (b := 99) (by omega) (by omega)).mp z; omega)]
  | succ e ih =>
    intro n x hx hn hu
    obtain ⟨n, rfl⟩ : ∃ m, n = m + 1 := ⟨n - 1, by omega⟩
    rcases hf x (by omega) with ⟨q1, q2⟩ | ⟨j, q1, q2, q3⟩
    · rw [lp_X7_parity_90, gd_t (okx_nI (by omega) (by omega)), ra_nI _ _ (by omega), q1, if_pos (show nI 99 = 99 from rfl), nm_eq, nI_1]
      exact ih n (x + 1) (by omega) (by omega) (fun u hux => by
        rcases Nat.lt_or_ge u x with c | c
        · exact hu u c
        · rw [show u = x by omega]; exact q2)
    · refine ⟨x, j, by omega, q1, q3, hu, ?_⟩
      rw [lp_X7_parity_90, gd_t (okx_nI (by omega) (by omega)), gd_t (okx_nI (by omega) (by omega)), ra_nI _ _ (by omega), q2, if_neg (show ¬ nI j = 99 from fun z => by have := (nI_eq (b := 99) (by omega) (by omega)).mp z; omega)]
theorem pg_20 {σ τ : St} (hR : Rel σ τ) {N : Nat} (hN : 100000 ≤ N) {xs : Nat → Int32} {L : Nat} {i : Int32} (K : St → St → Option Int32) : ∃ σ1 τ1, Rel σ1 τ1 ∧ g_law_20 N xs L σ τ i K = K σ1 τ1 := by
  have hR' := hR
  obtain ⟨w, h, nb, ng, nn, hB, hG, hS, hC, ⟨hnn, s15, t9, ⟨t, hp, ht⟩, ⟨ln, l1, l2, l3, l4, l5⟩⟩, hM⟩ := hR'
  have h100 : 100 ≤ N := by omega
  have hg : Gr nn ln := ⟨hnn, l1, l3⟩
  have hl : LN ln σ (sI τ 0 0) := ⟨l4, l5⟩
  unfold g_law_20 f_X6_parity f_X7_parity f_X5_invariant
  rw [nm_eq, s15, show (sI τ 0 0).1 9 = nI nn from t9]
  by_cases h0 : nn = 0
  · refine ⟨σ, sI τ 0 0, th_rel hR 0, ?_⟩
    rw [h0, if_pos (show nI 0 = 0 from rfl), if_pos (show nI 0 = 0 from rfl), bd_some, bd_some, bd_some, if_pos rfl]
  · obtain ⟨r, σ1, τ1, e1, e2, hr, o1, o2, J, R, hJ, hcol⟩ := colours_ok h100 (σ := σ) (τ := sI τ 0 0) hg l2 s15 t9 hl
    have n0 : ¬ nI nn = 0 := nI_ne0 (by omega) (by omega)
    have hR1 : Rel σ1 τ1 := Rel_OE (Rel_fr hR 17 (by omega) o1) o2
    rw [if_neg n0, if_neg n0, e1, e2, bd_some, bd_some]
    rcases hr with hr | hr
    · subst hr
      refine ⟨σ1, τ1, hR1, ?_⟩
      rw [if_pos rfl, if_pos rfl, bd_some, bd_some, bd_some, if_pos rfl]
    · subst hr
      obtain ⟨g, hgn, hz⟩ := perm_onto nn t hp 0 (by omega)
      have s15' : σ1.1 15 = nI nn := by rw [o1.1]; exact s15
      have t9' : τ1.1 9 = nI nn := by rw [o2.1]; exact t9
      have et : ∀ v, v < nn → σ1.2.1 15 v = nI (t v) := fun v hv => by rw [o1.2.1 15 (by omega)]; exact (ht v hv).1
      have ft : ∀ v, v < nn → τ1.2.1 14 v = nI (t v) := fun v hv => by rw [o2.2.1 14 (by omega) (by omega)]; exact (ht v hv).2
      obtain ⟨S, s1, s2, s3⟩ := ci4 h100 hnn s15' t9' (fun v hv => by rw [et v hv, ft v hv]) nn N N 0 0 (by omega) (by omega) (by omega)
      have g1 : f_X5_gapNode N σ1 = some (nI g) := gapC N hnn s15' hp et hgn hz g N 0 (by omega) (by omega)
      have g2 : f_X7_gap N τ1 = some (nI g) := gapM N hnn hp ft hgn hz g N 0 (by omega) (by omega)
      obtain ⟨τ2, o3, m1, m2⟩ := measureM h100 hg hgn t9' (LN_OE hl o2)
      obtain ⟨l, m, b1, b2, b3, b4, b5⟩ := p90 (N := N) (S := S) hg hgn m2 g N 0 (by omega) (by omega) (fun u hu => by omega)
      have s2 : f_X5_countInversions N σ1 = some (nI S) := s2
      have s3 : lp_X7_parity_25 N τ1 N 0 0 = bd1 (f_X7_gap N τ1) (fun r4 => bd1 (f_X7_measure N τ1 r4) (fun σ5 => lp_X7_parity_90 N σ5 (nI S) N 0)) := s3
      have b5 : lp_X7_parity_90 N τ2 (nI S) N 0 = some (jrem (nI S + nI m) 2, τ2) := b5
      obtain ⟨j1, j2, j3, j4, j5⟩ := hJ g hgn
      have hlg : Lst ln l g := ⟨⟨m, wk_sym l1 (by omega) b3⟩, fun u hu hr => by
        rcases Nat.lt_or_ge u l with c | c
        · obtain ⟨k, hk⟩ := hr
          exact absurd ⟨k, wk_sym l1 (by omega) hk⟩ (b4 u c)
        · exact c⟩
      have hrl : R g = l := Lst_un (by omega) (by omega) j5 hlg
      have hpar := par_eq hg (hcol rfl) (show g < 8 by omega) j4 (q := m) (by rw [hrl]; exact wk_sym l1 (by omega) b3)
      refine ⟨σ1, τ2, Rel_frM hR1 (fun j _ _ => by rw [o3.1]) (fun b hb => o3.2.1 b (by omega)), ?_⟩
      rw [if_neg (show ¬ (1 : Int32) = 0 by decide), if_neg (show ¬ (1 : Int32) = 0 by decide), s2, bd1_some, g1, bd1_some, gd_t (okx_nI (by omega) (by omega)), ra_nI _ _ (by omega), j3, bd_some, bd_some, s3, g2, bd1_some, m1, bd1_some, b5, bd_some, nI_add, nI_add, jrem2 (by omega), jrem2 (by omega), if_pos (by congr 1; omega)]
