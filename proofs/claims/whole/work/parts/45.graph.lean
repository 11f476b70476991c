/-! walks -/
def wk (ln : Nat → Nat → Bool) : Nat → Nat → Nat → Prop
  | 0, a, b => a = b
  | k + 1, a, b => ∃ c, c < 8 ∧ wk ln k a c ∧ ln c b = true
def rch (ln : Nat → Nat → Bool) (a b : Nat) : Prop := ∃ k, wk ln k a b
theorem wk_s {ln : Nat → Nat → Bool} {k a c b : Nat} (h : wk ln k a c) (hc : c < 8) (hl : ln c b = true) : wk ln (k + 1) a b := ⟨c, hc, h, hl⟩
theorem wk_tr {ln : Nat → Nat → Bool} {j a b : Nat} (h : wk ln j a b) : ∀ {k c : Nat}, wk ln k b c → wk ln (j + k) a c := by
  intro k
  induction k with
  | zero => intro c hc; have hc : b = c := hc; subst hc; exact h
  | succ k ih =>
    intro c hc
    obtain ⟨e, he, h1, h2⟩ := hc
    exact ⟨e, he, ih h1, h2⟩
theorem wk_sym {ln : Nat → Nat → Bool} (hs : ∀ a b, a < 8 → b < 8 → ln a b = ln b a) {a : Nat} : ∀ {k b : Nat}, b < 8 → wk ln k a b → wk ln k b a := by
  intro k
  induction k with
  | zero => intro b hb h; have h : a = b := h; exact h.symm
  | succ k ih =>
    intro b hb h
    obtain ⟨c, hc, h1, h2⟩ := h
    have h3 : wk ln 1 b c := ⟨b, hb, rfl, by rw [hs b c hb hc]; exact h2⟩
    have := wk_tr h3 (ih hc h1)
    rw [Nat.add_comm] at this
    exact this
theorem rch_rf {ln : Nat → Nat → Bool} (a : Nat) : rch ln a a := ⟨0, rfl⟩
theorem rch_tr {ln : Nat → Nat → Bool} {a b c : Nat} (h1 : rch ln a b) (h2 : rch ln b c) : rch ln a c := by
  obtain ⟨j, h1⟩ := h1
  obtain ⟨k, h2⟩ := h2
  exact ⟨j + k, wk_tr h1 h2⟩
/-- r is the least node that v can be come to from -/
def Lst (ln : Nat → Nat → Bool) (r v : Nat) : Prop := rch ln r v ∧ ∀ u, u < 8 → rch ln u v → r ≤ u
/-- a graph of nn nodes -/
def Gr (nn : Nat) (ln : Nat → Nat → Bool) : Prop := nn ≤ 8 ∧ (∀ a b, a < 8 → b < 8 → ln a b = ln b a) ∧ (∀ a b, a < 8 → b < 8 → ln a b = true → a < nn ∧ b < nn)
theorem wk_lt {nn : Nat} {ln : Nat → Nat → Bool} (hg : Gr nn ln) {s : Nat} (hs : s < nn) : ∀ {k v : Nat}, v < 8 → wk ln k s v → v < nn := by
  intro k v hv h
  cases k with
  | zero => have h : s = v := h; omega
  | succ k =>
    obtain ⟨c, hc, h1, h2⟩ := h
    exact (hg.2.2 c v hc hv h2).2
theorem Lst_un {ln : Nat → Nat → Bool} {r s v : Nat} (hr : r < 8) (hs : s < 8) (h1 : Lst ln r v) (h2 : Lst ln s v) : r = s := by
  have a := h1.2 s hs h2.1
  have b := h2.2 r hr h1.1
  omega
theorem Lst_step {nn : Nat} {ln : Nat → Nat → Bool} (hg : Gr nn ln) {r u v : Nat} (hu : u < 8) (hv : v < 8) (h : Lst ln r u) (hl : ln u v = true) : Lst ln r v := by
  have e1 : rch ln u v := ⟨1, u, hu, rfl, hl⟩
  have e2 : rch ln v u := ⟨1, v, hv, rfl, by rw [hg.2.1 v u hv hu]; exact hl⟩
  exact ⟨rch_tr h.1 e1, fun w hw h2 => h.2 w hw (rch_tr h2 e2)⟩
theorem inj_le {m n : Nat} {f : Nat → Nat} (h1 : ∀ v, v < m → f v < n) (h2 : ∀ u v, u < m → v < m → f u = f v → u = v) : m ≤ n := by
  rcases Nat.lt_or_ge n m with h | h
  · have hp : perm n f := ⟨fun v hv => h1 v (by omega), fun u v hu hv => h2 u v (by omega) (by omega)⟩
    obtain ⟨v, hv, e⟩ := perm_onto n f hp (f n) (h1 n h)
    have := h2 v n (by omega) h e
    omega
  · exact h
/-- a walk that is no longer than the nodes are many -/
theorem wk_short {nn : Nat} {ln : Nat → Nat → Bool} (hg : Gr nn ln) {s v : Nat} (hs : s < nn) (hv : v < 8) (h : rch ln s v) : ∃ k, k < nn ∧ wk ln k s v := by
  have hnn := hg.1
  obtain ⟨k, hk, hmin⟩ := pk_least (fun k => wk ln k s v) h
  refine ⟨k, ?_, hk⟩
  have lev : ∀ t, t ≤ k → ∃ c, c < 8 ∧ wk ln (k - t) s c ∧ ∀ i, i < k - t → ¬ wk ln i s c := by
    intro t
    induction t with
    | zero => intro _; exact ⟨v, hv, hk, hmin⟩
    | succ t ih =>
      intro ht
      obtain ⟨c, hc, h1, h2⟩ := ih (by omega)
      rw [show k - t = (k - (t + 1)) + 1 by omega] at h1
      obtain ⟨e, he, h3, h4⟩ := h1
      exact ⟨e, he, h3, fun i hi h5 => h2 (i + 1) (by omega) (wk_s h5 he h4)⟩
  have lev2 : ∀ j, ∃ c, j ≤ k → (c < 8 ∧ wk ln j s c ∧ ∀ i, i < j → ¬ wk ln i s c) := by
    intro j
    by_cases hj : j ≤ k
    · obtain ⟨c, h1⟩ := lev (k - j) (by omega)
      rw [show k - (k - j) = j by omega] at h1
      exact ⟨c, fun _ => h1⟩
    · exact ⟨0, fun h => absurd h hj⟩
  have h := inj_le (m := k + 1) (n := nn) (f := fun j => Classical.choose (lev2 j)) (fun j hj => by
    have h := Classical.choose_spec (lev2 j) (by omega)
    exact wk_lt hg hs h.1 h.2.1) (fun i j hi hj e => by
    have e : Classical.choose (lev2 i) = Classical.choose (lev2 j) := e
    have h1 := Classical.choose_spec (lev2 i) (by omega)
    have h2 := Classical.choose_spec (lev2 j) (by omega)
    rw [e] at h1
    rcases Nat.lt_trichotomy i j with c | c | c
    · exact absurd h1.2.1 (h2.2.2 i c)
    · exact c
    · exact absurd h2.2.1 (h1.2.2 j c))
  omega
theorem par_walk {nn : Nat} {ln : Nat → Nat → Bool} (hg : Gr nn ln) {p : Nat → Nat} (hp : ∀ a b, a < nn → b < nn → ln a b = true → (p a + p b) % 2 = 1) {u : Nat} : ∀ {t v : Nat}, v < 8 → wk ln t u v → (p u + t) % 2 = p v % 2 := by
  intro t
  induction t with
  | zero => intro v _ h; have h : u = v := h; subst h; rfl
  | succ t ih =>
    intro v hv h
    obtain ⟨c, hc, h1, h2⟩ := h
    have a := ih hc h1
    have b := hg.2.2 c v hc hv h2
    have d := hp c v b.1 b.2 h2
    omega
/-! the loops of the class's spread -/
theorem nI_nm1 {n : Nat} (h : n < 2 ^ 31) : nI n ≠ -1 := fun e => by
  have := nI_pos h
  rw [e] at this
  exact this (by decide)
theorem sA_row (σ : St) (a i : Nat) (v : Int32) (h : i < 2 ^ 31) : (sA σ a (nI i) v).2.1 a = upd (σ.2.1 a) i v := by
  show (if a = a then upd (σ.2.1 a) (nI i).toNatClampNeg v else σ.2.1 a) = _
  rw [if_pos rfl, nI_clamp h]
theorem LN_O1 {ln : Nat → Nat → Bool} {σ σ' τ : St} (h : LN ln σ τ) {a : Nat} (ha : a ≠ 16) (o : O1 a σ σ') : LN ln σ' τ := ⟨by rw [o.2.1 16 (by omega)]; exact h.1, h.2⟩
theorem LN_O1M {ln : Nat → Nat → Bool} {σ τ τ' : St} (h : LN ln σ τ) {a : Nat} (ha : a ≠ 13) (o : O1 a τ τ') : LN ln σ τ' := ⟨h.1, by rw [o.2.1 13 (by omega)]; exact h.2⟩
theorem sp22 (N : Nat) {nn k a : Nat} {ln : Nat → Nat → Bool} {σ0 τ0 : St} (hnn : nn ≤ 8) (s15 : σ0.1 15 = nI nn) (hl : LN ln σ0 τ0) (Q : Nat → Nat → (Nat → Int32) → Prop) (K : St → Int32 → Option St) (ha : a < nn)
    (hstep : ∀ b d, b < nn → Q a b d → ((d a = nI k ∧ d b = -1 ∧ ln a b = true) → Q a (b + 1) (upd d b (nI (k + 1)))) ∧ (¬ (d a = nI k ∧ d b = -1 ∧ ln a b = true) → Q a (b + 1) d)) :
    ∀ (e n b : Nat) (σ : St), b + e = nn → e < n → O1 17 σ0 σ → Q a b (σ.2.1 17) → ∃ σ', O1 17 σ0 σ' ∧ Q a nn (σ'.2.1 17) ∧ lp_X5_spreadDistances_22 N (nI k) (nI a) K n σ (nI b) = K σ' (nI (a + 1)) := by
  intro e
  induction e with
  | zero =>
    intro n b σ hb hn o hQ
    obtain ⟨n, rfl⟩ : ∃ m, n = m + 1 := ⟨n - 1, by omega⟩
    have eb : b = nn := by omega
    refine ⟨σ, o, by rw [← eb]; exact hQ, ?_⟩
    rw [lp_X5_spreadDistances_22, o.1, s15, if_pos (nI_le (by omega) (by omega)), nm_eq, nI_1]
  | succ e ih =>
    intro n b σ hb hn o hQ
    obtain ⟨n, rfl⟩ : ∃ m, n = m + 1 := ⟨n - 1, by omega⟩
    obtain ⟨p1, p2⟩ := hstep b _ (by omega) hQ
    have oa : okx (nI a) 8 = true := okx_nI (by omega) (by omega)
    have ob : okx (nI b) 8 = true := okx_nI (by omega) (by omega)
    rw [lp_X5_spreadDistances_22, o.1, s15, if_neg (nI_ge (by omega) (by omega)), joinedC N (LN_O1 hl (by omega) o) (by omega) (by omega)]
    simp only [gd_t oa, gd_t ob, ra_nI _ _ (show a < 2 ^ 31 by omega), ra_nI _ _ (show b < 2 ^ 31 by omega), bd1_some, nm_eq, nI_1]
    by_cases h1 : σ.2.1 17 a = nI k
    · rw [if_pos h1]
      by_cases h2 : σ.2.1 17 b = -1
      · rw [if_pos h2]
        cases h3 : ln a b
        · rw [if_neg (by decide : ¬ false = true), if_pos rfl]
          exact ih n (b + 1) σ (by omega) (by omega) o (p2 (fun q => by rw [h3] at q; cases q.2.2))
        · rw [if_pos rfl, if_neg (show ¬ (1 : Int32) = 0 by decide)]
          exact ih n (b + 1) _ (by omega) (by omega) (o.tr (O1.sA _ _)) (by rw [sA_row _ _ _ _ (by omega)]; exact p1 ⟨h1, h2, h3⟩)
      · rw [if_neg h2]
        exact ih n (b + 1) σ (by omega) (by omega) o (p2 (fun q => h2 q.2.1))
    · rw [if_neg h1]
      exact ih n (b + 1) σ (by omega) (by omega) o (p2 (fun q => h1 q.1))
theorem sp12 (N : Nat) {nn k : Nat} {ln : Nat → Nat → Bool} {σ0 τ0 : St} (hN : 100 ≤ N) (hnn : nn ≤ 8) (s15 : σ0.1 15 = nI nn) (hl : LN ln σ0 τ0) (Q : Nat → Nat → (Nat → Int32) → Prop) (K : St → Int32 → Option St)
    (hstep : ∀ a b d, a < nn → b < nn → Q a b d → ((d a = nI k ∧ d b = -1 ∧ ln a b = true) → Q a (b + 1) (upd d b (nI (k + 1)))) ∧ (¬ (d a = nI k ∧ d b = -1 ∧ ln a b = true) → Q a (b + 1) d)) (hnext : ∀ a d, a < nn → Q a nn d → Q (a + 1) 0 d) :
    ∀ (e n a : Nat) (σ : St), a + e = nn → e < n → O1 17 σ0 σ → Q a 0 (σ.2.1 17) → ∃ σ', O1 17 σ0 σ' ∧ Q nn 0 (σ'.2.1 17) ∧ lp_X5_spreadDistances_12 N (nI k) K n σ (nI a) = K σ' (nI (k + 1)) := by
  intro e
  induction e with
  | zero =>
    intro n a σ hb hn o hQ
    obtain ⟨n, rfl⟩ : ∃ m, n = m + 1 := ⟨n - 1, by omega⟩
    have eb : a = nn := by omega
    refine ⟨σ, o, by rw [← eb]; exact hQ, ?_⟩
    rw [lp_X5_spreadDistances_12, o.1, s15, if_pos (nI_le (by omega) (by omega)), nm_eq, nI_1]
  | succ e ih =>
    intro n a σ hb hn o hQ
    obtain ⟨n, rfl⟩ : ∃ m, n = m + 1 := ⟨n - 1, by omega⟩
    obtain ⟨σ1, o1, hQ1, e1⟩ := sp22 N (k := k) (a := a) hnn s15 hl Q (fun v0 v1 => lp_X5_spreadDistances_12 N (nI k) K n v0 v1) (by omega) (fun b d hb hq => hstep a b d (by omega) hb hq) nn N 0 σ (by omega) (by omega) o hQ
    obtain ⟨σ2, o2, hQ2, e2⟩ := ih n (a + 1) σ1 (by omega) (by omega) o1 (hnext a _ (by omega) hQ1)
    refine ⟨σ2, o2, hQ2, ?_⟩
    rw [lp_X5_spreadDistances_12, o.1, s15, if_neg (nI_ge (by omega) (by omega))]
    exact e1.trans e2
theorem sp2 (N : Nat) {nn : Nat} {ln : Nat → Nat → Bool} {σ0 τ0 : St} (hN : 100 ≤ N) (hnn : nn ≤ 8) (s15 : σ0.1 15 = nI nn) (hl : LN ln σ0 τ0) (Q : Nat → Nat → Nat → (Nat → Int32) → Prop)
    (hstep : ∀ k a b d, k < nn → a < nn → b < nn → Q k a b d → ((d a = nI k ∧ d b = -1 ∧ ln a b = true) → Q k a (b + 1) (upd d b (nI (k + 1)))) ∧ (¬ (d a = nI k ∧ d b = -1 ∧ ln a b = true) → Q k a (b + 1) d)) (hnext : ∀ k a d, k < nn → a < nn → Q k a nn d → Q k (a + 1) 0 d) (hround : ∀ k d, k < nn → Q k nn 0 d → Q (k + 1) 0 0 d) :
    ∀ (e n k : Nat) (σ : St), k + e = nn → e < n → O1 17 σ0 σ → Q k 0 0 (σ.2.1 17) → ∃ σ', O1 17 σ0 σ' ∧ Q nn 0 0 (σ'.2.1 17) ∧ lp_X5_spreadDistances_2 N n σ (nI k) = some σ' := by
  intro e
  induction e with
  | zero =>
    intro n k σ hb hn o hQ
    obtain ⟨n, rfl⟩ : ∃ m, n = m + 1 := ⟨n - 1, by omega⟩
    have eb : k = nn := by omega
    refine ⟨σ, o, by rw [← eb]; exact hQ, ?_⟩
    rw [lp_X5_spreadDistances_2, o.1, s15, if_pos (nI_le (by omega) (by omega))]
  | succ e ih =>
    intro n k σ hb hn o hQ
    obtain ⟨n, rfl⟩ : ∃ m, n = m + 1 := ⟨n - 1, by omega⟩
    obtain ⟨σ1, o1, hQ1, e1⟩ := sp12 N (k := k) hN hnn s15 hl (Q k) (fun v0 v1 => lp_X5_spreadDistances_2 N n v0 v1) (fun a b d ha hb hq => hstep k a b d (by omega) ha hb hq) (fun a d ha hq => hnext k a d (by omega) ha hq) nn N 0 σ (by omega) (by omega) o hQ
    obtain ⟨σ2, o2, hQ2, e2⟩ := ih n (k + 1) σ1 (by omega) (by omega) o1 (hround k _ (by omega) hQ1)
    refine ⟨σ2, o2, hQ2, ?_⟩
    rw [lp_X5_spreadDistances_2, o.1, s15, if_neg (nI_ge (by omega) (by omega))]
    exact e1.trans e2
/-! what the spread finds -/
def DS (ln : Nat → Nat → Bool) (nn X : Nat) (d : Nat → Int32) : Prop := ∀ v, v < nn → d v = -1 ∨ ∃ j r, j ≤ 8 ∧ r < X ∧ d v = nI j ∧ wk ln j r v ∧ Lst ln r v
def gQC (ln : Nat → Nat → Bool) (nn : Nat) (d0 : Nat → Int32) (x k a b : Nat) (d : Nat → Int32) : Prop :=
  DS ln nn (x + 1) d ∧ (∀ v, v < nn → d0 v ≠ -1 → d v ≠ -1) ∧ (∀ v, v < nn → d0 v = -1 → d v = -1 ∨ ∃ j, j ≤ k + 1 ∧ d v = nI j) ∧
  (∀ u v, u < nn → v < nn → ln u v = true → ∀ j, j ≤ 8 → d u = nI j → (j < k ∨ (j = k ∧ (u < a ∨ (u = a ∧ v < b)))) → d v ≠ -1) ∧ (∀ m v, m ≤ k → v < nn → wk ln m x v → ∃ j, j ≤ m ∧ d v = nI j)
theorem QC_step {nn x k a b : Nat} {ln : Nat → Nat → Bool} (hg : Gr nn ln) {d0 d : Nat → Int32} (hk : k < nn) (ha : a < nn) (hb : b < nn) (h : gQC ln nn d0 x k a b d) :
    ((d a = nI k ∧ d b = -1 ∧ ln a b = true) → gQC ln nn d0 x k a (b + 1) (upd d b (nI (k + 1)))) ∧ (¬ (d a = nI k ∧ d b = -1 ∧ ln a b = true) → gQC ln nn d0 x k a (b + 1) d) := by
  have hnn := hg.1
  obtain ⟨hS, hM, hB, hD, hE⟩ := h
  constructor
  · rintro ⟨c1, c2, c3⟩
    have nk : nI (k + 1) ≠ -1 := nI_nm1 (by omega)
    have us : upd d b (nI (k + 1)) b = nI (k + 1) := pk_us
    have un : ∀ v, v ≠ b → upd d b (nI (k + 1)) v = d v := fun v hv => pk_un hv
    have keep : ∀ v, d v ≠ -1 → upd d b (nI (k + 1)) v ≠ -1 := by
      intro v hv
      by_cases e : v = b
      · rw [e, us]; exact nk
      · rw [un v e]; exact hv
    refine ⟨?_, ?_, ?_, ?_, ?_⟩
    · intro v hv
      by_cases e : v = b
      · right
        rcases hS a ha with h1 | ⟨j, r, h1, h2, h3, h4, h5⟩
        · rw [c1] at h1; exact absurd h1 (nI_nm1 (by omega))
        · rw [c1] at h3
          have := (nI_eq (by omega) (by omega)).mp h3
          subst this
          refine ⟨k + 1, r, by omega, h2, by rw [e, us], ?_, ?_⟩
          · rw [e]; exact wk_s h4 (by omega) c3
          · rw [e]; exact Lst_step hg (by omega) (by omega) h5 c3
      · rw [un v e]; exact hS v hv
    · intro v hv h0; exact keep v (hM v hv h0)
    · intro v hv h0
      by_cases e : v = b
      · right; exact ⟨k + 1, by omega, by rw [e, us]⟩
      · rw [un v e]; exact hB v hv h0
    · intro u v hu hv hl j hj hd hpos
      by_cases e : u = b
      · rw [e, us] at hd
        have := (nI_eq (by omega) (by omega)).mp hd
        omega
      · rw [un u e] at hd
        by_cases e2 : v = b
        · rw [e2, us]; exact nk
        · rw [un v e2]
          exact hD u v hu hv hl j hj hd (by omega)
    · intro m v hm hv hw
      obtain ⟨j, h1, h2⟩ := hE m v hm hv hw
      have e : v ≠ b := fun e => by rw [e, c2] at h2; exact nI_nm1 (by omega) h2.symm
      exact ⟨j, h1, by rw [un v e]; exact h2⟩
  · intro hc
    refine ⟨hS, hM, hB, ?_, hE⟩
    intro u v hu hv hl j hj hd hpos
    by_cases e : j = k ∧ u = a ∧ v = b
    · obtain ⟨rfl, rfl, rfl⟩ := e
      intro q
      exact hc ⟨hd, q, hl⟩
    · exact hD u v hu hv hl j hj hd (by omega)
theorem QC_next {nn x k a : Nat} {ln : Nat → Nat → Bool} {d0 d : Nat → Int32} (h : gQC ln nn d0 x k a nn d) : gQC ln nn d0 x k (a + 1) 0 d := by
  obtain ⟨hS, hM, hB, hD, hE⟩ := h
  exact ⟨hS, hM, hB, fun u v hu hv hl j hj hd hpos => hD u v hu hv hl j hj hd (by omega), hE⟩
theorem QC_round {nn x k : Nat} {ln : Nat → Nat → Bool} (hg : Gr nn ln) {d0 d : Nat → Int32} (hx : x < nn) (hk : k < nn) (hc : ∀ v, v < nn → rch ln x v → d0 v = -1) (h : gQC ln nn d0 x k nn 0 d) : gQC ln nn d0 x (k + 1) 0 0 d := by
  have hnn := hg.1
  obtain ⟨hS, hM, hB, hD, hE⟩ := h
  refine ⟨hS, hM, ?_, ?_, ?_⟩
  · intro v hv h0
    rcases hB v hv h0 with h1 | ⟨j, h1, h2⟩
    · exact Or.inl h1
    · exact Or.inr ⟨j, by omega, h2⟩
  · intro u v hu hv hl j hj hd hpos
    exact hD u v hu hv hl j hj hd (by omega)
  · intro m v hm hv hw
    rcases Nat.lt_or_ge k m with e | e
    · have em : m = k + 1 := by omega
      subst em
      have hw' := hw
      obtain ⟨c, hc8, h1, h2⟩ := hw
      have hcn := hg.2.2 c v hc8 (by omega) h2
      obtain ⟨j, j1, j2⟩ := hE k c (by omega) hcn.1 h1
      have hv1 := hD c v hcn.1 hv h2 j (by omega) j2 (by omega)
      rcases hB v hv (hc v hv ⟨k + 1, hw'⟩) with h3 | ⟨i, h3, h4⟩
      · exact absurd h3 hv1
      · exact ⟨i, by omega, h4⟩
    · exact hE m v e hv hw
/-- the class's measureDistances, a root at a time -/
theorem md25 {N : Nat} (hN : 100 ≤ N) {nn : Nat} {ln : Nat → Nat → Bool} {σ0 τ0 : St} (hg : Gr nn ln) (s15 : σ0.1 15 = nI nn) (hl : LN ln σ0 τ0) :
    ∀ (e n x : Nat) (σ : St), x + e = nn → e < n → O1 17 σ0 σ → DS ln nn x (σ.2.1 17) → (∀ u v, u < x → v < nn → rch ln u v → σ.2.1 17 v ≠ -1) → ∃ σ', O1 17 σ0 σ' ∧ lp_X5_measureDistances_25 N n σ (nI x) = some σ' ∧ ∀ v, v < nn → ∃ j r, j ≤ 8 ∧ r < nn ∧ σ'.2.1 17 v = nI j ∧ wk ln j r v ∧ Lst ln r v := by
  have hnn := hg.1
  intro e
  induction e with
  | zero =>
    intro n x σ hb hn o hS hC
    obtain ⟨n, rfl⟩ : ∃ m, n = m + 1 := ⟨n - 1, by omega⟩
    have eb : x = nn := by omega
    subst eb
    refine ⟨σ, o, ?_, ?_⟩
    · rw [lp_X5_measureDistances_25, o.1, s15, if_pos (nI_le (by omega) (by omega))]
    · intro v hv
      rcases hS v hv with h | h
      · exact absurd h (hC v v hv hv (rch_rf v))
      · exact h
  | succ e ih =>
    intro n x σ hb hn o hS hC
    obtain ⟨n, rfl⟩ : ∃ m, n = m + 1 := ⟨n - 1, by omega⟩
    have hx : x < nn := by omega
    rw [lp_X5_measureDistances_25, o.1, s15, if_neg (nI_ge (by omega) (by omega)), gd_t (okx_nI (by omega) (by omega)), ra_nI _ _ (by omega)]
    by_cases h1 : σ.2.1 17 x = -1
    · rw [if_pos h1, gd_t (okx_nI (by omega) (by omega)), nm_eq]
      have hLx : Lst ln x x := ⟨rch_rf x, fun u hu hr => by
        rcases Nat.lt_or_ge u x with q | q
        · exact absurd h1 (hC u x q hx hr)
        · exact q⟩
      have hcomp : ∀ v, v < nn → rch ln x v → σ.2.1 17 v = -1 := by
        intro v hv hr
        rcases hS v hv with h | ⟨j, r, q1, q2, q3, q4, q5⟩
        · exact h
        · obtain ⟨k, hk⟩ := hr
          have hvx : rch ln v x := ⟨k, wk_sym hg.2.1 (by omega) hk⟩
          exact absurd h1 (hC r x q2 hx (rch_tr ⟨j, q4⟩ hvx))
      have er := sA_row σ 17 x 0 (show x < 2 ^ 31 by omega)
      have o1 : O1 17 σ0 (sA σ 17 (nI x) 0) := o.tr (O1.sA _ _)
      obtain ⟨σ1, o2, hQ, e2⟩ := sp2 N hN hnn s15 hl (gQC ln nn (σ.2.1 17) x) (fun k a b d hk ha hb hq => QC_step hg hk ha hb hq) (fun k a d _ _ hq => QC_next hq) (fun k d hk hq => QC_round hg hx hk hcomp hq) nn N 0 (sA σ 17 (nI x) 0) (by omega) (by omega) o1 (by
        rw [er]
        have us : upd (σ.2.1 17) x 0 x = 0 := pk_us
        have un : ∀ v, v ≠ x → upd (σ.2.1 17) x 0 v = σ.2.1 17 v := fun v hv => pk_un hv
        refine ⟨?_, ?_, ?_, ?_, ?_⟩
        · intro v hv
          by_cases q : v = x
          · right; exact ⟨0, x, by omega, by omega, by rw [q, us]; rfl, by rw [q]; exact rfl, by rw [q]; exact hLx⟩
          · rw [un v q]
            rcases hS v hv with h | ⟨j, r, q1, q2, q3⟩
            · exact Or.inl h
            · exact Or.inr ⟨j, r, q1, by omega, q3⟩
        · intro v hv h0
          have q : v ≠ x := fun q => h0 (by rw [q]; exact h1)
          rw [un v q]; exact h0
        · intro v hv h0
          by_cases q : v = x
          · right; exact ⟨0, by omega, by rw [q, us]; rfl⟩
          · rw [un v q]; exact Or.inl h0
        · intro u v hu hv hl j hj hd hpos
          omega
        · intro m v hm hv hw
          have em : m = 0 := by omega
          subst em
          have hw : x = v := hw
          exact ⟨0, by omega, by rw [← hw, us]; rfl⟩)
      have e2 : f_X5_spreadDistances N (sA σ 17 (nI x) 0) = some σ1 := e2
      rw [e2, bd1_some, nm_eq, nI_1]
      obtain ⟨q1, q2, q3, q4, q5⟩ := hQ
      exact ih n (x + 1) σ1 (by omega) (by omega) o2 q1 (fun u v hu hv hr => by
        rcases Nat.lt_or_ge u x with q | q
        · exact q2 v hv (hC u v q hv hr)
        · have : u = x := by omega
          subst this
          obtain ⟨k, hk, hw⟩ := wk_short hg hx (show v < 8 by omega) hr
          obtain ⟨j, j1, j2⟩ := q5 k v (by omega) hv hw
          rw [j2]
          exact nI_nm1 (by omega))
    · rw [if_neg h1, nm_eq, nI_1]
      refine ih n (x + 1) σ (by omega) (by omega) o ?_ ?_
      · intro v hv
        rcases hS v hv with h | ⟨j, r, q1, q2, q3⟩
        · exact Or.inl h
        · exact Or.inr ⟨j, r, q1, by omega, q3⟩
      · intro u v hu hv hr
        rcases Nat.lt_or_ge u x with q | q
        · exact hC u v q hv hr
        · have : u = x := by omega
          subst this
          rcases hS u hx with h | ⟨j, r, q1, q2, q3, q4, q5⟩
          · exact absurd h h1
          · exact hC r v q2 hv (rch_tr ⟨j, q4⟩ hr)
theorem md2 {N : Nat} {nn : Nat} {σ0 : St} (hnn : nn ≤ 8) (s15 : σ0.1 15 = nI nn) :
    ∀ (e n x : Nat) (σ : St), x + e = nn → e < n → O1 17 σ0 σ → (∀ v, v < x → σ.2.1 17 v = -1) → ∃ σ', O1 17 σ0 σ' ∧ (∀ v, v < nn → σ'.2.1 17 v = -1) ∧ lp_X5_measureDistances_2 N n σ (nI x) = lp_X5_measureDistances_25 N N σ' 0 := by
  intro e
  induction e with
  | zero =>
    intro n x σ hb hn o hS
    obtain ⟨n, rfl⟩ : ∃ m, n = m + 1 := ⟨n - 1, by omega⟩
    exact ⟨σ, o, fun v hv => hS v (by omega), by rw [lp_X5_measureDistances_2, o.1, s15, if_pos (nI_le (by omega) (by omega))]⟩
  | succ e ih =>
    intro n x σ hb hn o hS
    obtain ⟨n, rfl⟩ : ∃ m, n = m + 1 := ⟨n - 1, by omega⟩
    rw [lp_X5_measureDistances_2, o.1, s15, if_neg (nI_ge (by omega) (by omega)), gd_t (okx_nI (by omega) (by omega)), nm_eq, nm_eq, nI_1]
    refine ih n (x + 1) _ (by omega) (by omega) (o.tr (O1.sA _ _)) (fun v hv => ?_)
    rw [sA_row _ _ _ _ (by omega)]
    by_cases q : v = x
    · rw [q]; exact pk_us
    · rw [pk_un q]; exact hS v (by omega)
/-- THE CLASS'S DISTANCES -/
theorem measureC {N : Nat} (hN : 100 ≤ N) {nn : Nat} {ln : Nat → Nat → Bool} {σ τ : St} (hg : Gr nn ln) (s15 : σ.1 15 = nI nn) (hl : LN ln σ τ) : ∃ σ', O1 17 σ σ' ∧ f_X5_measureDistances N σ = some σ' ∧ ∀ v, v < nn → ∃ j r, j ≤ 8 ∧ r < nn ∧ σ'.2.1 17 v = nI j ∧ wk ln j r v ∧ Lst ln r v := by
  have hnn := hg.1
  obtain ⟨σ1, o1, h1, e1⟩ := md2 (N := N) hnn s15 nn N 0 σ (by omega) (by omega) O1.rf (fun v hv => by omega)
  obtain ⟨σ2, o2, e2, h2⟩ := md25 hN hg s15 hl nn N 0 σ1 (by omega) (by omega) o1 (fun v hv => Or.inl (h1 v hv)) (fun u v hu => by omega)
  exact ⟨σ2, o2, Eq.trans e1 e2, h2⟩
/-! the reference's measure -/
theorem ms56 (N : Nat) {nn a : Nat} {ln : Nat → Nat → Bool} {σ0 τ0 : St} (hnn : nn ≤ 8) (t9 : τ0.1 9 = nI nn) (hl : LN ln σ0 τ0) (Q : Nat → Nat → (Nat → Int32) → Prop) (x2 : Int32) (K : St → Int32 → Option St) (ha : a < nn)
    (hstep : ∀ b d, b < nn → Q a b d → ((ln a b = true ∧ ¬ d b ≤ d a + 1) → Q a (b + 1) (upd d b (d a + 1))) ∧ (¬ (ln a b = true ∧ ¬ d b ≤ d a + 1) → Q a (b + 1) d)) :
    ∀ (e n b : Nat) (τ : St), b + e = nn → e < n → O1 19 τ0 τ → Q a b (τ.2.1 19) → ∃ τ', O1 19 τ0 τ' ∧ Q a nn (τ'.2.1 19) ∧ lp_X7_measure_56 N x2 (nI a) K n τ (nI b) = K τ' (nI (a + 1)) := by
  intro e
  induction e with
  | zero =>
    intro n b τ hb hn o hQ
    obtain ⟨n, rfl⟩ : ∃ m, n = m + 1 := ⟨n - 1, by omega⟩
    have eb : b = nn := by omega
    refine ⟨τ, o, by rw [← eb]; exact hQ, ?_⟩
    rw [lp_X7_measure_56, o.1, t9, if_pos (nI_le (by omega) (by omega)), nm_eq, nI_1]
  | succ e ih =>
    intro n b τ hb hn o hQ
    obtain ⟨n, rfl⟩ : ∃ m, n = m + 1 := ⟨n - 1, by omega⟩
    obtain ⟨p1, p2⟩ := hstep b _ (by omega) hQ
    have oa : okx (nI a) 8 = true := okx_nI (by omega) (by omega)
    have ob : okx (nI b) 8 = true := okx_nI (by omega) (by omega)
    rw [lp_X7_measure_56, o.1, t9, if_neg (nI_ge (by omega) (by omega)), joinedM N (LN_O1M hl (by omega) o) (by omega) (by omega)]
    simp only [gd_t oa, gd_t ob, ra_nI _ _ (show a < 2 ^ 31 by omega), ra_nI _ _ (show b < 2 ^ 31 by omega), bd1_some, nm_eq, nI_1]
    cases h3 : ln a b
    · rw [if_neg (by decide : ¬ false = true), if_pos rfl]
      exact ih n (b + 1) τ (by omega) (by omega) o (p2 (fun q => by rw [h3] at q; cases q.1))
    · rw [if_pos rfl, if_neg (show ¬ (1 : Int32) = 0 by decide)]
      by_cases h2 : τ.2.1 19 b ≤ τ.2.1 19 a + 1
      · rw [if_pos h2]
        exact ih n (b + 1) τ (by omega) (by omega) o (p2 (fun q => q.2 h2))
      · rw [if_neg h2]
        exact ih n (b + 1) _ (by omega) (by omega) (o.tr (O1.sA _ _)) (by rw [sA_row _ _ _ _ (by omega)]; exact p1 ⟨h3, h2⟩)
theorem ms45 (N : Nat) {nn : Nat} {ln : Nat → Nat → Bool} {σ0 τ0 : St} (hN : 100 ≤ N) (hnn : nn ≤ 8) (t9 : τ0.1 9 = nI nn) (hl : LN ln σ0 τ0) (Q : Nat → Nat → (Nat → Int32) → Prop) (k : Nat) (K : St → Int32 → Option St)
    (hstep : ∀ a b d, a < nn → b < nn → Q a b d → ((ln a b = true ∧ ¬ d b ≤ d a + 1) → Q a (b + 1) (upd d b (d a + 1))) ∧ (¬ (ln a b = true ∧ ¬ d b ≤ d a + 1) → Q a (b + 1) d)) (hnext : ∀ a d, a < nn → Q a nn d → Q (a + 1) 0 d) :
    ∀ (e n a : Nat) (τ : St), a + e = nn → e < n → O1 19 τ0 τ → Q a 0 (τ.2.1 19) → ∃ τ', O1 19 τ0 τ' ∧ Q nn 0 (τ'.2.1 19) ∧ lp_X7_measure_45 N (nI k) K n τ (nI a) = K τ' (nI (k + 1)) := by
  intro e
  induction e with
  | zero =>
    intro n a τ hb hn o hQ
    obtain ⟨n, rfl⟩ : ∃ m, n = m + 1 := ⟨n - 1, by omega⟩
    have eb : a = nn := by omega
    refine ⟨τ, o, by rw [← eb]; exact hQ, ?_⟩
    rw [lp_X7_measure_45, o.1, t9, if_pos (nI_le (by omega) (by omega)), nm_eq, nI_1]
  | succ e ih =>
    intro n a τ hb hn o hQ
    obtain ⟨n, rfl⟩ : ∃ m, n = m + 1 := ⟨n - 1, by omega⟩
    obtain ⟨τ1, o1, hQ1, e1⟩ := ms56 N (a := a) hnn t9 hl Q (nI k) (fun v0 v1 => lp_X7_measure_45 N (nI k) K n v0 v1) (by omega) (fun b d hb hq => hstep a b d (by omega) hb hq) nn N 0 τ (by omega) (by omega) o hQ
    obtain ⟨τ2, o2, hQ2, e2⟩ := ih n (a + 1) τ1 (by omega) (by omega) o1 (hnext a _ (by omega) hQ1)
    refine ⟨τ2, o2, hQ2, ?_⟩
    rw [lp_X7_measure_45, o.1, t9, if_neg (nI_ge (by omega) (by omega))]
    exact e1.trans e2
theorem ms35 (N : Nat) {nn : Nat} {ln : Nat → Nat → Bool} {σ0 τ0 : St} (hN : 100 ≤ N) (hnn : nn ≤ 8) (t9 : τ0.1 9 = nI nn) (hl : LN ln σ0 τ0) (Q : Nat → Nat → Nat → (Nat → Int32) → Prop)
    (hstep : ∀ k a b d, k < nn → a < nn → b < nn → Q k a b d → ((ln a b = true ∧ ¬ d b ≤ d a + 1) → Q k a (b + 1) (upd d b (d a + 1))) ∧ (¬ (ln a b = true ∧ ¬ d b ≤ d a + 1) → Q k a (b + 1) d)) (hnext : ∀ k a d, k < nn → a < nn → Q k a nn d → Q k (a + 1) 0 d) (hround : ∀ k d, k < nn → Q k nn 0 d → Q (k + 1) 0 0 d) :
    ∀ (e n k : Nat) (τ : St), k + e = nn → e < n → O1 19 τ0 τ → Q k 0 0 (τ.2.1 19) → ∃ τ', O1 19 τ0 τ' ∧ Q nn 0 0 (τ'.2.1 19) ∧ lp_X7_measure_35 N n τ (nI k) = some τ' := by
  intro e
  induction e with
  | zero =>
    intro n k τ hb hn o hQ
    obtain ⟨n, rfl⟩ : ∃ m, n = m + 1 := ⟨n - 1, by omega⟩
    have eb : k = nn := by omega
    refine ⟨τ, o, by rw [← eb]; exact hQ, ?_⟩
    rw [lp_X7_measure_35, o.1, t9, if_pos (nI_le (by omega) (by omega))]
  | succ e ih =>
    intro n k τ hb hn o hQ
    obtain ⟨n, rfl⟩ : ∃ m, n = m + 1 := ⟨n - 1, by omega⟩
    obtain ⟨τ1, o1, hQ1, e1⟩ := ms45 N hN hnn t9 hl (Q k) k (fun v0 v1 => lp_X7_measure_35 N n v0 v1) (fun a b d ha hb hq => hstep k a b d (by omega) ha hb hq) (fun a d ha hq => hnext k a d (by omega) ha hq) nn N 0 τ (by omega) (by omega) o hQ
    obtain ⟨τ2, o2, hQ2, e2⟩ := ih n (k + 1) τ1 (by omega) (by omega) o1 (hround k _ (by omega) hQ1)
    refine ⟨τ2, o2, hQ2, ?_⟩
    rw [lp_X7_measure_35, o.1, t9, if_neg (nI_ge (by omega) (by omega))]
    exact e1.trans e2
/-- far: 99, or the length of a walk -/
def FS (ln : Nat → Nat → Bool) (nn s : Nat) (d : Nat → Int32) : Prop := ∀ v, v < nn → d v = nI 99 ∨ ∃ j, j < 99 ∧ d v = nI j ∧ wk ln j s v
def gQM (ln : Nat → Nat → Bool) (nn s k a b : Nat) (d : Nat → Int32) : Prop :=
  FS ln nn s d ∧ (∀ m v, m ≤ k → v < nn → wk ln m s v → ∃ j, j ≤ m ∧ d v = nI j) ∧ (∀ u v, u < nn → v < nn → ln u v = true → wk ln k s u → (u < a ∨ (u = a ∧ v < b)) → ∃ j, j ≤ k + 1 ∧ d v = nI j)
theorem FS_val {ln : Nat → Nat → Bool} {nn s v : Nat} {d : Nat → Int32} (h : FS ln nn s d) (hv : v < nn) : ∃ j, j ≤ 99 ∧ d v = nI j ∧ (j < 99 → wk ln j s v) := by
  rcases h v hv with h | ⟨j, h1, h2, h3⟩
  · exact ⟨99, by omega, h, fun q => by omega⟩
  · exact ⟨j, by omega, h2, fun _ => h3⟩
theorem QM_step {nn s k a b : Nat} {ln : Nat → Nat → Bool} (hg : Gr nn ln) {d : Nat → Int32} (hk : k < nn) (ha : a < nn) (hb : b < nn) (h : gQM ln nn s k a b d) :
    ((ln a b = true ∧ ¬ d b ≤ d a + 1) → gQM ln nn s k a (b + 1) (upd d b (d a + 1))) ∧ (¬ (ln a b = true ∧ ¬ d b ≤ d a + 1) → gQM ln nn s k a (b + 1) d) := by
  have hnn := hg.1
  obtain ⟨hS, hE, hF⟩ := h
  obtain ⟨ja, a1, a2, a3⟩ := FS_val hS ha
  obtain ⟨jb, b1, b2, b3⟩ := FS_val hS hb
  have hle : d b ≤ d a + 1 ↔ jb ≤ ja + 1 := by rw [a2, b2, nI_1]; exact nI_leI (by omega) (by omega)
  constructor
  · rintro ⟨c1, c2⟩
    have hlt : ja + 1 < jb := by
      rcases Nat.lt_or_ge (ja + 1) jb with q | q
      · exact q
      · exact absurd (hle.mpr q) c2
    have us : upd d b (d a + 1) b = nI (ja + 1) := by rw [pk_us, a2, nI_1]
    have un : ∀ v, v ≠ b → upd d b (d a + 1) v = d v := fun v hv => pk_un hv
    have dec : ∀ v m, v < nn → (∃ j, j ≤ m ∧ m < 99 ∧ d v = nI j) → ∃ j, j ≤ m ∧ upd d b (d a + 1) v = nI j := by
      rintro v m hv ⟨j, j1, j0, j2⟩
      by_cases q : v = b
      · refine ⟨ja + 1, ?_, by rw [q, us]⟩
        rw [q, b2] at j2
        have := (nI_eq (by omega) (by omega)).mp j2
        omega
      · exact ⟨j, j1, by rw [un v q]; exact j2⟩
    refine ⟨?_, ?_, ?_⟩
    · intro v hv
      by_cases q : v = b
      · right
        exact ⟨ja + 1, by omega, by rw [q, us], by rw [q]; exact wk_s (a3 (by omega)) (by omega) c1⟩
      · rw [un v q]; exact hS v hv
    · intro m v hm hv hw
      obtain ⟨j, j1, j2⟩ := hE m v hm hv hw
      exact dec v m hv ⟨j, j1, by omega, j2⟩
    · intro u v hu hv hl hw hpos
      by_cases q : u = a ∧ v = b
      · obtain ⟨rfl, rfl⟩ := q
        obtain ⟨j, j1, j2⟩ := hE k u (by omega) hu hw
        rw [a2] at j2
        have := (nI_eq (by omega) (by omega)).mp j2
        exact ⟨ja + 1, by omega, us⟩
      · obtain ⟨j, j1, j2⟩ := hF u v hu hv hl hw (by omega)
        exact dec v (k + 1) hv ⟨j, j1, by omega, j2⟩
  · intro hc
    refine ⟨hS, hE, ?_⟩
    intro u v hu hv hl hw hpos
    by_cases q : u = a ∧ v = b
    · obtain ⟨rfl, rfl⟩ := q
      obtain ⟨j, j1, j2⟩ := hE k u (by omega) hu hw
      rw [a2] at j2
      have := (nI_eq (by omega) (by omega)).mp j2
      have h2 : jb ≤ ja + 1 := by
        rcases Nat.lt_or_ge (ja + 1) jb with q | q
        · exact absurd ⟨hl, fun z => by have := hle.mp z; omega⟩ hc
        · exact q
      exact ⟨jb, by omega, b2⟩
    · exact hF u v hu hv hl hw (by omega)
theorem QM_round {nn s k : Nat} {ln : Nat → Nat → Bool} (hg : Gr nn ln) {d : Nat → Int32} (h : gQM ln nn s k nn 0 d) : gQM ln nn s (k + 1) 0 0 d := by
  have hnn := hg.1
  obtain ⟨hS, hE, hF⟩ := h
  refine ⟨hS, ?_, fun u v hu hv hl hw hpos => by omega⟩
  intro m v hm hv hw
  rcases Nat.lt_or_ge k m with e | e
  · have em : m = k + 1 := by omega
    subst em
    obtain ⟨c, hc8, h1, h2⟩ := hw
    have hcn := hg.2.2 c v hc8 (by omega) h2
    exact hF c v hcn.1 hv h2 h1 (by omega)
  · exact hE m v e hv hw
theorem ms2 {N : Nat} {nn s : Nat} {τ0 : St} (hnn : nn ≤ 8) (hs : s < nn) (t9 : τ0.1 9 = nI nn) :
    ∀ (e n x : Nat) (τ : St), x + e = nn → e < n → O1 19 τ0 τ → (∀ v, v < x → τ.2.1 19 v = if v = s then 0 else nI 99) → ∃ τ', O1 19 τ0 τ' ∧ (∀ v, v < nn → τ'.2.1 19 v = if v = s then 0 else nI 99) ∧ lp_X7_measure_2 N (nI s) n τ (nI x) = lp_X7_measure_35 N N τ' 0 := by
  intro e
  induction e with
  | zero =>
    intro n x τ hb hn o hS
    obtain ⟨n, rfl⟩ : ∃ m, n = m + 1 := ⟨n - 1, by omega⟩
    exact ⟨τ, o, fun v hv => hS v (by omega), by rw [lp_X7_measure_2, o.1, t9, if_pos (nI_le (by omega) (by omega))]⟩
  | succ e ih =>
    intro n x τ hb hn o hS
    obtain ⟨n, rfl⟩ : ∃ m, n = m + 1 := ⟨n - 1, by omega⟩
    rw [lp_X7_measure_2, o.1, t9, if_neg (nI_ge (by omega) (by omega)), gd_t (okx_nI (by omega) (by omega)), gd_t (okx_nI (by omega) (by omega)), nm_eq, nm_eq, nm_eq, nm_eq, nI_1]
    by_cases hx : x = s
    · rw [if_pos (by rw [hx])]
      refine ih n (x + 1) _ (by omega) (by omega) (o.tr (O1.sA _ _)) (fun v hv => ?_)
      rw [sA_row _ _ _ _ (by omega)]
      by_cases q : v = x
      · rw [q, pk_us, if_pos hx]
      · rw [pk_un q]; exact hS v (by omega)
    · rw [if_neg (fun q => hx ((nI_eq (by omega) (by omega)).mp q))]
      refine ih n (x + 1) _ (by omega) (by omega) (o.tr (O1.sA _ _)) (fun v hv => ?_)
      rw [sA_row _ _ _ _ (by omega)]
      by_cases q : v = x
      · rw [q, pk_us, if_neg hx]; rfl
      · rw [pk_un q]; exact hS v (by omega)
/-- THE REFERENCE'S DISTANCES -/
theorem measureM {N : Nat} (hN : 100 ≤ N) {nn s : Nat} {ln : Nat → Nat → Bool} {σ τ : St} (hg : Gr nn ln) (hs : s < nn) (t9 : τ.1 9 = nI nn) (hl : LN ln σ τ) : ∃ τ', O1 19 τ τ' ∧ f_X7_measure N τ (nI s) = some τ' ∧ ∀ v, v < nn → (τ'.2.1 19 v = nI 99 ∧ ¬ rch ln s v) ∨ ∃ j, j < 99 ∧ τ'.2.1 19 v = nI j ∧ wk ln j s v := by
  have hnn := hg.1
  obtain ⟨τ1, o1, h1, e1⟩ := ms2 (N := N) hnn hs t9 nn N 0 τ (by omega) (by omega) O1.rf (fun v hv => by omega)
  obtain ⟨τ2, o2, hQ, e2⟩ := ms35 N hN hnn t9 hl (gQM ln nn s) (fun k a b d hk ha hb hq => QM_step hg hk ha hb hq) (fun k a d _ _ hq => ⟨hq.1, hq.2.1, fun u v hu hv hl hw hpos => hq.2.2 u v hu hv hl hw (by omega)⟩) (fun k d _ hq => QM_round hg hq) nn N 0 τ1 (by omega) (by omega) o1 (by
    refine ⟨?_, ?_, ?_⟩
    · intro v hv
      rw [h1 v hv]
      by_cases q : v = s
      · right; exact ⟨0, by omega, by rw [if_pos q]; rfl, q.symm⟩
      · left; rw [if_neg q]
    · intro m v hm hv hw
      have em : m = 0 := by omega
      subst em
      have hw : s = v := hw
      exact ⟨0, by omega, by rw [h1 v hv, if_pos hw.symm]; rfl⟩
    · intro u v hu hv hl hw hpos
      omega)
  refine ⟨τ2, o2, Eq.trans e1 e2, ?_⟩
  intro v hv
  rcases hQ.1 v hv with h | h
  · left
    refine ⟨h, fun hr => ?_⟩
    obtain ⟨k, hk, hw⟩ := wk_short hg hs (show v < 8 by omega) hr
    obtain ⟨j, j1, j2⟩ := hQ.2.1 k v (by omega) hv hw
    rw [h] at j2
    have := (nI_eq (by omega) (by omega)).mp j2
    omega
  · exact Or.inr h
