/-! numbers of arrangements: the reference's rank and unrank -/
/-- how many of t lo .. t (lo + k - 1) are below x -/
def cl (t : Nat → Nat) (x lo : Nat) : Nat → Nat
  | 0 => 0
  | k + 1 => cl t x lo k + (if t (lo + k) < x then 1 else 0)
theorem cl_s (t : Nat → Nat) (x lo k : Nat) : cl t x lo (k + 1) = cl t x lo k + (if t (lo + k) < x then 1 else 0) := rfl
theorem cl_le (t : Nat → Nat) (x lo k : Nat) : cl t x lo k ≤ k := by
  induction k with
  | zero => exact Nat.le_refl 0
  | succ k ih => rw [cl_s]; split <;> omega
theorem cl_mono (t : Nat → Nat) {x y : Nat} (h : x ≤ y) (lo k : Nat) : cl t x lo k ≤ cl t y lo k := by
  induction k with
  | zero => exact Nat.le_refl 0
  | succ k ih => rw [cl_s, cl_s]; split <;> split <;> omega
theorem cl_strict (t : Nat → Nat) {x y : Nat} (h : x ≤ y) (lo k j : Nat) (hj : j < k) (h1 : ¬ t (lo + j) < x) (h2 : t (lo + j) < y) : cl t x lo k < cl t y lo k := by
  induction k with
  | zero => omega
  | succ k ih =>
    rw [cl_s, cl_s]
    rcases Nat.lt_or_ge j k with e | e
    · have := ih e
      split <;> split <;> omega
    · have e : j = k := by omega
      subst e
      have := cl_mono t h lo j
      rw [if_neg h1, if_pos h2]
      omega
theorem cl_front (t : Nat → Nat) (x lo k : Nat) : cl t x lo (k + 1) = (if t lo < x then 1 else 0) + cl t x (lo + 1) k := by
  induction k with
  | zero => rw [cl_s]; show 0 + (if t (lo + 0) < x then 1 else 0) = _; simp [cl]
  | succ k ih =>
    rw [cl_s, ih, cl_s, show lo + (k + 1) = lo + 1 + k by omega]
    omega
theorem cl_congr {t s : Nat → Nat} {x lo k : Nat} (h : ∀ j, j < k → t (lo + j) = s (lo + j)) : cl t x lo k = cl s x lo k := by
  induction k with
  | zero => rfl
  | succ k ih => rw [cl_s, cl_s, ih (fun j hj => h j (by omega)), h k (by omega)]
/-- an arrangement has, below each of its tiles, as many tiles as its number says -/
theorem cl_eq_step (t : Nat → Nat) (x : Nat) : ∀ (n : Nat), (∀ u v, u < n → v < n → t u = t v → u = v) → (cl t (x + 1) 0 n = cl t x 0 n + 1 ∧ ∃ v, v < n ∧ t v = x) ∨ (cl t (x + 1) 0 n = cl t x 0 n ∧ ¬ ∃ v, v < n ∧ t v = x) := by
  intro n
  induction n with
  | zero => intro _; right; exact ⟨rfl, fun ⟨v, h, _⟩ => by omega⟩
  | succ n ih =>
    intro hi
    rw [cl_s, cl_s, Nat.zero_add]
    rcases ih (fun u v hu hv => hi u v (by omega) (by omega)) with ⟨h1, v, hv, h2⟩ | ⟨h1, h2⟩
    · left
      have hn : t n ≠ x := fun e => by have := hi n v (by omega) (by omega) (by rw [e, h2]); omega
      refine ⟨?_, v, by omega, h2⟩
      rw [h1]
      split <;> split <;> omega
    · by_cases e : t n = x
      · left
        refine ⟨?_, n, by omega, e⟩
        rw [h1, if_pos (by omega), if_neg (by omega)]
      · right
        refine ⟨?_, fun ⟨v, hv, h3⟩ => ?_⟩
        · rw [h1]
          split <;> split <;> omega
        · rcases Nat.lt_or_ge v n with c | c
          · exact h2 ⟨v, c, h3⟩
          · rw [show v = n by omega] at h3; exact e h3
theorem cl_0 (t : Nat → Nat) (lo k : Nat) : cl t 0 lo k = 0 := by
  induction k with
  | zero => rfl
  | succ k ih => rw [cl_s, ih, if_neg (by omega)]
theorem cl_perm {n : Nat} {t : Nat → Nat} (hp : perm n t) : ∀ x, x ≤ n → cl t x 0 n = x := by
  intro x
  induction x with
  | zero => intro _; exact cl_0 t 0 n
  | succ x ih =>
    intro hx
    rcases cl_eq_step t x n hp.2 with ⟨h1, h2⟩ | ⟨h1, h2⟩
    · rw [h1, ih (by omega)]
    · exact absurd (perm_onto n t hp x (by omega)) h2
/-- the number of the first a places -/
def rk (n : Nat) (t : Nat → Nat) : Nat → Nat
  | 0 => 0
  | a + 1 => rk n t a * (n - a) + cl t (t a) (a + 1) (n - 1 - a)
theorem rk_s (n : Nat) (t : Nat → Nat) (a : Nat) : rk n t (a + 1) = rk n t a * (n - a) + cl t (t a) (a + 1) (n - 1 - a) := rfl
def ff (n : Nat) : Nat → Nat
  | 0 => 1
  | a + 1 => ff n a * (n - a)
theorem ff_le : ∀ n, n < 9 → ∀ a, a < 9 → a ≤ n → ff n a ≤ 40320 := by decide +kernel
theorem rk_lt (n : Nat) (t : Nat → Nat) : ∀ a, a ≤ n → rk n t a < ff n a := by
  intro a
  induction a with
  | zero => intro _; exact Nat.one_pos
  | succ a ih =>
    intro ha
    have h1 := ih (by omega)
    have h2 := cl_le t (t a) (a + 1) (n - 1 - a)
    rw [rk_s]
    show _ < ff n a * (n - a)
    have h3 : (rk n t a + 1) * (n - a) ≤ ff n a * (n - a) := Nat.mul_le_mul_right _ h1
    rw [Nat.add_mul] at h3
    omega
theorem rk_lt' {n : Nat} (hn : n ≤ 8) (t : Nat → Nat) {a : Nat} (ha : a ≤ n) : rk n t a < 40320 := Nat.lt_of_lt_of_le (rk_lt n t a ha) (ff_le n (by omega) a (by omega) ha)
theorem rk_congr {n : Nat} {t s : Nat → Nat} (h : ∀ v, v < n → t v = s v) : ∀ a, a ≤ n → rk n t a = rk n s a := by
  intro a
  induction a with
  | zero => intro _; rfl
  | succ a ih =>
    intro ha
    rw [rk_s, rk_s, ih (by omega), h a (by omega), cl_congr (fun j hj => h (a + 1 + j) (by omega))]
theorem rk_mod {n a : Nat} (t : Nat → Nat) (ha : a < n) : rk n t (a + 1) % (n - a) = cl t (t a) (a + 1) (n - 1 - a) ∧ rk n t (a + 1) / (n - a) = rk n t a := by
  have h2 := cl_le t (t a) (a + 1) (n - 1 - a)
  rw [rk_s]
  constructor
  · rw [Nat.mul_comm, Nat.mul_add_mod, Nat.mod_eq_of_lt (by omega)]
  · rw [Nat.mul_comm, Nat.mul_add_div (by omega), Nat.div_eq_of_lt (by omega), Nat.add_zero]
/-- rank -/
theorem rank19 (N : Nat) {nn a : Nat} {τ : St} {t : Nat → Nat} (hnn : nn ≤ 8) (t9 : τ.1 9 = nI nn) (ht : ∀ v, v < nn → τ.2.1 15 v = nI (t v)) (h8 : ∀ v, v < nn → t v < 8) (ha : a < nn) (x1 : Int32) (K : Int32 → Int32 → Option Int32) : ∀ (e n k : Nat), a + 1 + k + e = nn → e < n →
    lp_X7_rank_19 N τ x1 (nI a) K n (nI (cl t (t a) (a + 1) k)) (nI (a + 1 + k)) = K (x1 * nI (nn - a) + nI (cl t (t a) (a + 1) (nn - 1 - a))) (nI (a + 1)) := by
  intro e
  induction e with
  | zero =>
    intro n k hk hn
    obtain ⟨n, rfl⟩ : ∃ m, n = m + 1 := ⟨n - 1, by omega⟩
    rw [lp_X7_rank_19, t9, if_pos (nI_le (by omega) (by omega)), nm_eq, nm_eq, nI_1, pk_sub (by omega), show k = nn - 1 - a by omega]
  | succ e ih =>
    intro n k hk hn
    obtain ⟨n, rfl⟩ : ∃ m, n = m + 1 := ⟨n - 1, by omega⟩
    have h1 := ih n (k + 1) (by omega) (by omega)
    have ha8 := h8 a ha
    have hk8 := h8 (a + 1 + k) (by omega)
    have oa : okx (nI a) 8 = true := okx_nI (by omega) (by omega)
    have ob : okx (nI (a + 1 + k)) 8 = true := okx_nI (by omega) (by omega)
    rw [lp_X7_rank_19, t9, if_neg (nI_ge (by omega) (by omega))]
    simp only [gd_t oa, gd_t ob, ra_nI _ _ (show a < 2 ^ 31 by omega), ra_nI _ _ (show a + 1 + k < 2 ^ 31 by omega), nm_eq, nI_1, Int32.add_zero]
    rw [ht a ha, ht (a + 1 + k) (by omega)]
    rw [cl_s] at h1
    rcases Nat.lt_or_ge (t (a + 1 + k)) (t a) with c | c
    · rw [if_neg (nI_ge c (by omega))]
      rw [if_pos c] at h1
      exact h1
    · rw [if_pos (nI_le c (by omega))]
      rw [if_neg (by omega)] at h1
      exact h1
theorem rank4 {N : Nat} (hN : 100 ≤ N) {nn : Nat} {τ : St} {t : Nat → Nat} (hnn : nn ≤ 8) (t9 : τ.1 9 = nI nn) (ht : ∀ v, v < nn → τ.2.1 15 v = nI (t v)) (h8 : ∀ v, v < nn → t v < 8) : ∀ (e n a : Nat), a + e = nn → e < n → lp_X7_rank_4 N τ n (nI (rk nn t a)) (nI a) = some (nI (rk nn t nn)) := by
  intro e
  induction e with
  | zero =>
    intro n a ha hn
    obtain ⟨n, rfl⟩ : ∃ m, n = m + 1 := ⟨n - 1, by omega⟩
    rw [lp_X7_rank_4, t9, if_pos (nI_le (by omega) (by omega)), show a = nn by omega]
  | succ e ih =>
    intro n a ha hn
    obtain ⟨n, rfl⟩ : ∃ m, n = m + 1 := ⟨n - 1, by omega⟩
    have h1 := rank19 N hnn t9 ht h8 (show a < nn by omega) (nI (rk nn t a)) (fun v0 v1 => lp_X7_rank_4 N τ n v0 v1) e N 0 (by omega) (by omega)
    rw [lp_X7_rank_4, t9, if_neg (nI_ge (by omega) (by omega)), nm_eq, nI_1]
    refine Eq.trans h1 ?_
    show lp_X7_rank_4 N τ n (nI (rk nn t a) * nI (nn - a) + nI (cl t (t a) (a + 1) (nn - 1 - a))) (nI (a + 1)) = _
    rw [pk_mul, nI_add, ← rk_s]
    exact ih n (a + 1) (by omega) (by omega)
theorem rank_ok {N : Nat} (hN : 100 ≤ N) {nn : Nat} {τ : St} {t : Nat → Nat} (hnn : nn ≤ 8) (t9 : τ.1 9 = nI nn) (ht : ∀ v, v < nn → τ.2.1 15 v = nI (t v)) (h8 : ∀ v, v < nn → t v < 8) : f_X7_rank N τ = some (nI (rk nn t nn)) :=
  rank4 hN hnn t9 ht h8 nn N 0 (by omega) (by omega)
/-- unrank: the digits -/
theorem un9 {N : Nat} {nn : Nat} {τ0 : St} (t : Nat → Nat) (hnn : nn ≤ 8) (t9 : τ0.1 9 = nI nn) : ∀ (a n : Nat) (τ : St), a ≤ nn → a < n → O1 15 τ0 τ → (∀ v, a ≤ v → v < nn → τ.2.1 15 v = nI (cl t (t v) (v + 1) (nn - 1 - v))) →
    ∃ τ', O1 15 τ0 τ' ∧ (∀ v, v < nn → τ'.2.1 15 v = nI (cl t (t v) (v + 1) (nn - 1 - v))) ∧ lp_X7_unrank_9 N n τ (nI (rk nn t a)) (nI a - 1) = lp_X7_unrank_49 N N τ' (nI nn - 1) := by
  intro a
  induction a with
  | zero =>
    intro n τ ha hn o h1
    obtain ⟨n, rfl⟩ : ∃ m, n = m + 1 := ⟨n - 1, by omega⟩
    refine ⟨τ, o, fun v hv => h1 v (by omega) hv, ?_⟩
    rw [lp_X7_unrank_9, if_pos (show nI 0 - 1 < 0 by decide), o.1, t9, nm_eq]
  | succ a ih =>
    intro n τ ha hn o h1
    obtain ⟨n, rfl⟩ : ∃ m, n = m + 1 := ⟨n - 1, by omega⟩
    have hl := rk_lt' hnn t ha
    obtain ⟨m1, m2⟩ := rk_mod t (show a < nn by omega)
    have ne : ¬ nI (nn - a) = 0 := nI_ne0 (by omega) (by omega)
    have er : jrem (nI (rk nn t (a + 1))) (nI (nn - a)) = nI (cl t (t a) (a + 1) (nn - 1 - a)) := by
      unfold jrem
      rw [pk_rem (by omega) (by omega) (by omega), m1]
    have ed : nI (rk nn t (a + 1)) / nI (nn - a) = nI (rk nn t a) := by rw [pk_div (by omega) (by omega) (by omega), m2]
    rw [nI_pred, lp_X7_unrank_9, if_neg (nI_pos (by omega)), o.1, t9, pk_sub (by omega), gd_t (decide_eq_true ne), gd_t (okx_nI (by omega) (by omega)), nm_eq, er]
    show ∃ τ', _ ∧ _ ∧ gd (decide (¬ (τ.1 9) - nI a = 0)) (nm (nI (rk nn t (a + 1)) / (τ.1 9 - nI a)) _) = _
    rw [o.1, t9, pk_sub (by omega), gd_t (decide_eq_true ne), ed, nm_eq, nm_eq, show nI a + (-1) = nI a - 1 from by rw [Int32.sub_eq_add_neg]]
    refine ih n _ (by omega) (by omega) (o.tr (O1.sA _ _)) (fun v hv hv2 => ?_)
    rw [sA_row _ _ _ _ (by omega)]
    by_cases q : v = a
    · rw [q, pk_us]
    · rw [pk_un q]; exact h1 v (by omega) hv2
/-- unrank: from digits to tiles -/
theorem un58 {N : Nat} {nn a : Nat} {τ0 : St} {t : Nat → Nat} (hnn : nn ≤ 8) (t9 : τ0.1 9 = nI nn) (hp : perm nn t) (ha : a < nn) (L : Nat → Int32) (K : St → Int32 → Option St) : ∀ (e n b : Nat) (τ : St), b + e = nn → a < b → e < n → O1 15 τ0 τ →
    τ.2.1 15 a = nI (cl t (t a) (a + 1) (nn - 1 - a)) → (∀ v, a < v → v < b → τ.2.1 15 v = nI (cl t (t v) a (nn - a))) → (∀ v, b ≤ v → v < nn → τ.2.1 15 v = nI (cl t (t v) (a + 1) (nn - 1 - a))) → (∀ v, v < a → τ.2.1 15 v = L v) →
    ∃ τ', O1 15 τ0 τ' ∧ (∀ v, a ≤ v → v < nn → τ'.2.1 15 v = nI (cl t (t v) a (nn - a))) ∧ (∀ v, v < a → τ'.2.1 15 v = L v) ∧ lp_X7_unrank_58 N (nI a) K n τ (nI b) = K τ' (nI a - 1) := by
  have fr : ∀ x, cl t x a (nn - a) = (if t a < x then 1 else 0) + cl t x (a + 1) (nn - 1 - a) := by
    intro x
    rw [show nn - a = (nn - 1 - a) + 1 by omega, cl_front]
  intro e
  induction e with
  | zero =>
    intro n b τ hb hab hn o h1 h2 h3 h4
    obtain ⟨n, rfl⟩ : ∃ m, n = m + 1 := ⟨n - 1, by omega⟩
    refine ⟨τ, o, fun v hv hv2 => ?_, h4, ?_⟩
    · by_cases q : v = a
      · rw [q, h1, fr, if_neg (by omega), Nat.zero_add]
      · exact h2 v (by omega) (by omega)
    · rw [lp_X7_unrank_58, o.1, t9, if_pos (nI_le (by omega) (by omega)), nm_eq, Int32.sub_eq_add_neg]
  | succ e ih =>
    intro n b τ hb hab hn o h1 h2 h3 h4
    obtain ⟨n, rfl⟩ : ∃ m, n = m + 1 := ⟨n - 1, by omega⟩
    have oa : okx (nI a) 8 = true := okx_nI (by omega) (by omega)
    have ob : okx (nI b) 8 = true := okx_nI (by omega) (by omega)
    have la := cl_le t (t a) (a + 1) (nn - 1 - a)
    have lb := cl_le t (t b) (a + 1) (nn - 1 - a)
    have key : ∀ y : Nat, y = cl t (t b) a (nn - a) → ∃ τ', O1 15 τ0 τ' ∧ (∀ v, a ≤ v → v < nn → τ'.2.1 15 v = nI (cl t (t v) a (nn - a))) ∧ (∀ v, v < a → τ'.2.1 15 v = L v) ∧ lp_X7_unrank_58 N (nI a) K n (sA τ 15 (nI b) (nI y)) (nI (b + 1)) = K τ' (nI a - 1) := by
      intro y hy
      have us : (sA τ 15 (nI b) (nI y)).2.1 15 b = nI y := by rw [sA_row _ _ _ _ (by omega)]; exact pk_us
      have un : ∀ v, v ≠ b → (sA τ 15 (nI b) (nI y)).2.1 15 v = τ.2.1 15 v := fun v hv => by rw [sA_row _ _ _ _ (by omega)]; exact pk_un hv
      refine ih n (b + 1) _ (by omega) (by omega) (by omega) (o.tr (O1.sA _ _)) ?_ ?_ ?_ ?_
      · rw [un a (by omega)]; exact h1
      · intro v hv hv2
        by_cases q : v = b
        · rw [q, us, hy]
        · rw [un v q]; exact h2 v hv (by omega)
      · intro v hv hv2
        rw [un v (by omega)]; exact h3 v (by omega) hv2
      · intro v hv
        rw [un v (by omega)]; exact h4 v hv
    rw [lp_X7_unrank_58, o.1, t9, if_neg (nI_ge (by omega) (by omega))]
    simp only [gd_t oa, gd_t ob, ra_nI _ _ (show a < 2 ^ 31 by omega), ra_nI _ _ (show b < 2 ^ 31 by omega), nm_eq, nI_1, Int32.add_zero]
    rw [h1, h3 b (by omega) (by omega)]
    rcases Nat.lt_trichotomy (t a) (t b) with c | c | c
    · have hm := cl_mono t (show t a ≤ t b by omega) (a + 1) (nn - 1 - a)
      rw [if_neg (nI_nlt hm (by omega)), nI_1]
      exact key _ (by rw [fr, if_pos c]; omega)
    · have := hp.2 a b ha (by omega) c
      omega
    · have hs := cl_strict t (show t b ≤ t a by omega) (a + 1) (nn - 1 - a) (b - (a + 1)) (by omega) (by rw [show a + 1 + (b - (a + 1)) = b by omega]; omega) (by rw [show a + 1 + (b - (a + 1)) = b by omega]; exact c)
      rw [if_pos (nI_lt hs (by omega))]
      exact key _ (by rw [fr, if_neg (by omega)]; omega)
theorem un49 {N : Nat} (hN : 100 ≤ N) {nn : Nat} {τ0 : St} {t : Nat → Nat} (hnn : nn ≤ 8) (t9 : τ0.1 9 = nI nn) (hp : perm nn t) : ∀ (a n : Nat) (τ : St), a ≤ nn → a < n → O1 15 τ0 τ → (∀ v, v < a → τ.2.1 15 v = nI (cl t (t v) (v + 1) (nn - 1 - v))) → (∀ v, a ≤ v → v < nn → τ.2.1 15 v = nI (cl t (t v) a (nn - a))) →
    ∃ τ', O1 15 τ0 τ' ∧ (∀ v, v < nn → τ'.2.1 15 v = nI (t v)) ∧ lp_X7_unrank_49 N n τ (nI a - 1) = some τ' := by
  intro a
  induction a with
  | zero =>
    intro n τ ha hn o h1 h2
    obtain ⟨n, rfl⟩ : ∃ m, n = m + 1 := ⟨n - 1, by omega⟩
    refine ⟨τ, o, fun v hv => ?_, ?_⟩
    · have hv8 := hp.1 v hv
      rw [h2 v (by omega) hv, Nat.sub_zero, cl_perm hp (t v) (by omega)]
    · rw [lp_X7_unrank_49, if_pos (show nI 0 - 1 < 0 by decide)]
  | succ a ih =>
    intro n τ ha hn o h1 h2
    obtain ⟨n, rfl⟩ : ∃ m, n = m + 1 := ⟨n - 1, by omega⟩
    rw [nI_pred, lp_X7_unrank_49, if_neg (nI_pos (by omega)), nm_eq, nI_1]
    obtain ⟨τ1, o1, q1, q2, q3⟩ := un58 (N := N) hnn t9 hp (show a < nn by omega) (τ.2.1 15) (fun v0 v1 => lp_X7_unrank_49 N n v0 v1) (nn - (a + 1)) N (a + 1) τ (by omega) (by omega) (by omega) o (h1 a (by omega)) (fun v hv hv2 => by omega) (fun v hv hv2 => by rw [h2 v hv hv2, show nn - (a + 1) = nn - 1 - a by omega]) (fun v hv => rfl)
    rw [q3]
    exact ih n τ1 (by omega) (by omega) o1 (fun v hv => by rw [q2 v hv]; exact h1 v (by omega)) q1
theorem unrank_ok {N : Nat} (hN : 100 ≤ N) {nn : Nat} {τ : St} {t : Nat → Nat} (hnn : nn ≤ 8) (t9 : τ.1 9 = nI nn) (hp : perm nn t) : ∃ τ', O1 15 τ τ' ∧ (∀ v, v < nn → τ'.2.1 15 v = nI (t v)) ∧ f_X7_unrank N τ (nI (rk nn t nn)) = some τ' := by
  obtain ⟨τ1, o1, h1, e1⟩ := un9 (N := N) t hnn t9 nn N τ (Nat.le_refl _) (by omega) O1.rf (fun v hv hv2 => by omega)
  obtain ⟨τ2, o2, h2, e2⟩ := un49 hN hnn t9 hp nn N τ1 (Nat.le_refl _) (by omega) o1 h1 (fun v hv hv2 => by omega)
  refine ⟨τ2, o2, h2, ?_⟩
  unfold f_X7_unrank
  rw [nm_eq, t9, e1, e2]
/-- a number belongs to one arrangement alone -/
theorem rk_inj {nn : Nat} {t s : Nat → Nat} (hnn : nn ≤ 8) (ht : perm nn t) (hs : perm nn s) (h : rk nn t nn = rk nn s nn) : ∀ v, v < nn → t v = s v := by
  intro v hv
  have t9 : ((fun _ => nI nn, fun _ _ => 0, fun _ _ => 0) : St).1 9 = nI nn := rfl
  obtain ⟨τ1, -, h1, e1⟩ := unrank_ok (N := 100) (by omega) hnn t9 ht
  obtain ⟨τ2, -, h2, e2⟩ := unrank_ok (N := 100) (by omega) hnn t9 hs
  rw [h, e2] at e1
  have e := Option.some.inj e1
  have a1 := h1 v hv
  rw [← e, h2 v hv] at a1
  have b1 := ht.1 v hv
  have b2 := hs.1 v hv
  exact ((nI_eq (by omega) (by omega)).mp a1).symm
theorem rk_id {nn : Nat} {t : Nat → Nat} (h : ∀ v, v < nn → t v = v) : ∀ a, a ≤ nn → rk nn t a = 0 := by
  intro a
  induction a with
  | zero => intro _; rfl
  | succ a ih =>
    intro ha
    have hc : ∀ k, a + 1 + k ≤ nn → cl t (t a) (a + 1) k = 0 := by
      intro k
      induction k with
      | zero => intro _; rfl
      | succ k ihk =>
        intro hk
        rw [cl_s, ihk (by omega), h a (by omega), h (a + 1 + k) (by omega), if_neg (by omega)]
    rw [rk_s, ih (by omega), hc (nn - 1 - a) (by omega), Nat.zero_mul]
