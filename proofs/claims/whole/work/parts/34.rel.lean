/-! THE RELATION between the class's state and the reference's -/
/-- walls and blocks have no cell in common -/
def dj (w : Int32) (f : Nat → Int32) (n : Nat) : Prop := (∀ b, b < n → ∀ i, i < 32 → bt (f b) i = true → bt w i = false) ∧ ∀ a b, a < n → b < n → a ≠ b → ∀ i, i < 32 → bt (f a) i = true → bt (f b) i = false
def RB (w h nb : Nat) (σ τ : St) : Prop :=
  ((w < 6 ∧ 1 ≤ w) ∧ (h < 6 ∧ 1 ≤ h) ∧ nb ≤ 8) ∧ (σ.1 0 = nI w ∧ σ.1 1 = nI h ∧ σ.1 2 = eL w h ∧ σ.1 3 = eR w h ∧ σ.1 4 = eT w ∧ σ.1 5 = eB w h ∧ σ.1 6 = nI nb) ∧ (τ.1 1 = nI w ∧ τ.1 2 = nI h ∧ τ.1 4 = nI nb ∧ τ.1 3 = σ.1 7) ∧
  (∀ b, b < nb → τ.2.1 0 b = σ.2.1 0 b ∧ τ.2.1 1 b = σ.2.1 1 b ∧ inb (σ.2.1 1 b) (w * h) ∧ ∃ kd : Nat, kd < 26 ∧ σ.2.1 0 b = nI kd) ∧ (∀ b, nb ≤ b → b < 8 → σ.2.1 1 b = 0) ∧ inb (σ.1 7) (w * h) ∧ dj (σ.1 7) (σ.2.1 1) nb
def RG (nb ng : Nat) (σ τ : St) : Prop :=
  ng ≤ 6 ∧ σ.1 8 = nI ng ∧ τ.1 5 = nI ng ∧ ∀ g, g < ng → τ.2.1 3 g = σ.2.1 4 g ∧ ∃ v : Nat, σ.2.1 3 g = nI v ∧ ((σ.2.1 2 g = 0 ∧ v < nb ∧ τ.2.1 2 g = nI v) ∨ (σ.2.1 2 g = 1 ∧ v < 26 ∧ τ.2.1 2 g = nI (100 + v)))
def RS (σ τ : St) : Prop :=
  ∃ len st : Nat, len ≤ 10000 ∧ st ≤ 10000 ∧ σ.1 13 = nI len ∧ τ.1 8 = nI len ∧ σ.1 14 = nI st ∧ τ.1 7 = nI st ∧ ∀ k, k < len → τ.2.1 12 k = σ.2.1 14 k
/-- the class's rows of states: heads stand at the keys' buckets alone -/
def bkt (key : Int64) : Int32 := Int64.toInt32 (jlushr (key * -7046029254386353131) 50)
def RC (σ : St) : Prop := ∃ cnt : Nat, cnt ≤ 10000 ∧ σ.1 12 = nI cnt ∧ ∀ B : Nat, B < 16384 → σ.2.1 12 B ≠ 0 → ∃ s, s < cnt ∧ bkt (σ.2.2 0 s) = nI B
/-- lines and tiles -/
def perm (n : Nat) (t : Nat → Nat) : Prop := (∀ v, v < n → t v < n) ∧ ∀ u v, u < n → v < n → t u = t v → u = v
def RT (nn : Nat) (σ τ : St) : Prop :=
  nn ≤ 8 ∧ σ.1 15 = nI nn ∧ τ.1 9 = nI nn ∧ (∃ t : Nat → Nat, perm nn t ∧ ∀ v, v < nn → σ.2.1 15 v = nI (t v) ∧ τ.2.1 14 v = nI (t v)) ∧
  ∃ ln : Nat → Nat → Bool, (∀ a b, a < 8 → b < 8 → ln a b = ln b a) ∧ (∀ a, ln a a = false) ∧ (∀ a b, a < 8 → b < 8 → ln a b = true → a < nn ∧ b < nn) ∧
    (∀ a, a < 8 → ∀ b, b < 32 → bt (σ.2.1 16 a) b = (decide (b < 8) && ln a b)) ∧ (∀ a b, a < 8 → b < 8 → τ.2.1 13 (8 * a + b) = if ln a b then 1 else 0)
/-- the class's marks stand at the arrangements that were found alone -/
def mko (a : Int32) : Int32 := jushr (a &&& 2097151) 6
def RM (σ : St) : Prop := ∃ fd : Nat, fd ≤ 40320 ∧ σ.1 16 = nI fd ∧ ∀ m : Nat, m < 32768 → σ.2.2 2 m ≠ 0 → ∃ j, j < fd ∧ mko (σ.2.1 18 j) = nI m
def Rel (σ τ : St) : Prop := ∃ w h nb ng nn : Nat, RB w h nb σ τ ∧ RG nb ng σ τ ∧ RS σ τ ∧ RC σ ∧ RT nn σ τ ∧ RM σ
/-- what a call of both answers, and the states behind it -/
def Pair (σ τ : St) (x : Option XR) (y : Option (Int32 × St)) : Prop :=
  (∃ r σ1 τ1, x = some (.inl r, σ1) ∧ y = some (r, τ1) ∧ τ1.1 0 = 0 ∧ Rel σ1 τ1) ∨ (∃ e r σ1 τ1, x = some (.inr e, σ1) ∧ y = some (r, τ1) ∧ τ1.1 0 = nI (e + 1) ∧ Rel σ1 τ1)
theorem okx0 : okx 0 1 = true := by decide
theorem sL_rel {σ τ : St} (h : Rel σ τ) (v : Int64) : Rel (sL σ 3 0 v) τ := h
theorem th_rel {σ τ : St} (h : Rel σ τ) (v : Int32) : Rel σ (sI τ 0 v) := h
theorem lg_same (x : Int64) : lg_cmp x x = 0 := by
  unfold lg_cmp
  simp
theorem rl_sL (σ : St) (v : Int64) : rl (sL σ 3 0 v) 3 0 = v := by
  have h := sL_22 σ 3 0 0 v 3 (by omega)
  rw [if_pos ⟨rfl, rfl⟩] at h
  exact h
theorem step_rel {σ τ : St} (h : Rel σ τ) (N : Nat) : f_X6_noGoals N σ = some (σ.1 8, sI σ 8 0) ∧ f_X7_noGoals N τ = some (τ.1 5, sI (sI τ 0 0) 5 0) ∧ Rel (sI σ 8 0) (sI (sI τ 0 0) 5 0) ∧ σ.1 8 = τ.1 5 := by
  obtain ⟨w, h', nb, ng, nn, hB, hG, hS, hC, hT, hM⟩ := h
  refine ⟨rfl, rfl, ⟨w, h', nb, 0, nn, hB, ⟨by omega, rfl, rfl, fun g hg => by omega⟩, hS, hC, hT, hM⟩, ?_⟩
  rw [hG.2.1, hG.2.2.1]
theorem pg_7 {σ τ : St} (hR : Rel σ τ) (N : Nat) (xs : Nat → Int32) (L : Nat) (i : Int32) (K : St → St → Option Int32) : ∃ σ1 τ1, Rel σ1 τ1 ∧ g_law_7 N xs L σ τ i K = K σ1 τ1 := by
  obtain ⟨e1, e2, h1, e3⟩ := step_rel hR N
  refine ⟨_, _, h1, ?_⟩
  unfold g_law_7
  rw [e1, bd_some, e2, bd_some, if_pos e3]
theorem pg_11 {σ τ : St} (hR : Rel σ τ) (N : Nat) (xs : Nat → Int32) (L : Nat) (i : Int32) (K : St → St → Option Int32) : ∃ σ1 τ1, Rel σ1 τ1 ∧ g_law_11 N xs L σ τ i K = K σ1 τ1 := by
  refine ⟨σ, sI τ 0 0, th_rel hR 0, ?_⟩
  obtain ⟨w, h', nb, ng, nn, hB, hG, ⟨len, st, a1, a2, a3, a4, a5, a6, a7⟩, hC, hT, hM⟩ := hR
  unfold g_law_11
  rw [show f_X6_states N σ = some (σ.1 14) from rfl, bd1_some, show f_X7_states N τ = some (τ.1 7, sI τ 0 0) from rfl, bd_some, if_pos (by rw [a5, a6])]
/-- an int is below zero, at least n, or one of the first n -/
theorem cases_n (x : Int32) {n : Nat} (hn : n < 2 ^ 31) : x < 0 ∨ (¬ x < 0 ∧ nI n ≤ x) ∨ ∃ j, j < n ∧ x = nI j := by
  rcases pk_ix x hn with h | h | h
  · exact Or.inl h
  · by_cases e : x < 0
    · exact Or.inl e
    · exact Or.inr (Or.inl ⟨e, h⟩)
  · exact Or.inr (Or.inr h)
theorem pg_10 {σ τ : St} (hR : Rel σ τ) (N : Nat) {xs : Nat → Int32} {L : Nat} {i : Int32} (ho : okx (i + 1) L = true) (K : St → St → Option Int32) : ∃ σ1 τ1, Rel σ1 τ1 ∧ g_law_10 N xs L σ τ i K = K σ1 τ1 := by
  refine ⟨σ, sI τ 0 0, th_rel hR 0, ?_⟩
  obtain ⟨w, h', nb, ng, nn, hB, hG, ⟨len, st, a1, a2, a3, a4, a5, a6, a7⟩, hC, hT, hM⟩ := hR
  have e : ∀ x, ∃ r, f_X6_step N σ x = some r ∧ f_X7_step N τ x = some (r, sI τ 0 0) := by
    intro x
    unfold f_X6_step f_X7_step
    simp only [nm]
    rw [a3, show (sI τ 0 0).1 8 = nI len from a4]
    rcases cases_n x (n := len) (by omega) with h | ⟨h1, h⟩ | ⟨j, hj, rfl⟩
    · exact ⟨-1, by rw [if_pos h], by rw [if_pos h]⟩
    · exact ⟨-1, by rw [if_neg h1, if_pos h], by rw [if_neg h1, if_neg (Int32.not_lt.mpr h)]⟩
    · have q1 := nI_pos (n := j) (by omega)
      have q2 : ¬ nI len ≤ nI j := nI_ge hj (by omega)
      have q3 : nI j < nI len := nI_lt hj (by omega)
      refine ⟨σ.2.1 14 j, ?_, ?_⟩
      · rw [if_neg q1, if_neg q2, gd_t (okx_nI (by omega) (by omega)), ra_nI _ _ (by omega)]
      · rw [if_neg q1, if_pos q3, gd_t (okx_nI (by omega) (by omega)), ra_nI _ _ (by omega), sI_2, a7 j hj]
  obtain ⟨r, e1, e2⟩ := e (rs xs (i + 1))
  unfold g_law_10
  simp only [gd_t ho, e1, e2, bd1, bd, if_true]
