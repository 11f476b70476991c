/-! THE FUNCTIONS THEMSELVES. From here on no machine: what the class's functions answer and what the reference's answer -/
theorem okx_nI {i n : Nat} (h : i < n) (hn : n < 2 ^ 31) : okx (nI i) n = true := decide_eq_true (nI_in h hn)
theorem gd_t {α : Type} {b : Bool} {x : Option α} (h : b = true) : gd b x = x := by unfold gd; rw [if_pos h]
theorem ra_nI (σ : St) (a : Nat) {i : Nat} (h : i < 2 ^ 31) : ra σ a (nI i) = σ.2.1 a i := by unfold ra; rw [nI_clamp h]
theorem rl_nI (σ : St) (a : Nat) {i : Nat} (h : i < 2 ^ 31) : rl σ a (nI i) = σ.2.2 a i := by unfold rl; rw [nI_clamp h]
theorem sI_1 (σ : St) (k : Nat) (v : Int32) (j : Nat) : (sI σ k v).1 j = if j = k then v else σ.1 j := rfl
theorem sI_2 (σ : St) (k : Nat) (v : Int32) : (sI σ k v).2 = σ.2 := rfl
theorem sA_1 (σ : St) (a : Nat) (i v : Int32) : (sA σ a i v).1 = σ.1 := rfl
theorem sA_21 (σ : St) (a i j : Nat) (v : Int32) (b : Nat) (h : i < 2 ^ 31) : (sA σ a (nI i) v).2.1 b j = if b = a ∧ j = i then v else σ.2.1 b j := by
  show (if b = a then upd (σ.2.1 a) (nI i).toNatClampNeg v else σ.2.1 b) j = _
  rw [nI_clamp h]
  by_cases hb : b = a
  · subst hb
    by_cases hj : j = i
    · simp [upd, hj]
    · simp [upd, hj]
  · simp [hb]
theorem sA_22 (σ : St) (a : Nat) (i v : Int32) : (sA σ a i v).2.2 = σ.2.2 := rfl
theorem sL_1 (σ : St) (a : Nat) (i : Int32) (v : Int64) : (sL σ a i v).1 = σ.1 := rfl
theorem sL_21 (σ : St) (a : Nat) (i : Int32) (v : Int64) : (sL σ a i v).2.1 = σ.2.1 := rfl
theorem sL_22 (σ : St) (a i j : Nat) (v : Int64) (b : Nat) (h : i < 2 ^ 31) : (sL σ a (nI i) v).2.2 b j = if b = a ∧ j = i then v else σ.2.2 b j := by
  show (if b = a then vp_updL (σ.2.2 a) (nI i).toNatClampNeg v else σ.2.2 b) j = _
  rw [nI_clamp h]
  by_cases hb : b = a
  · subst hb
    by_cases hj : j = i
    · simp [vp_updL, hj]
    · simp [vp_updL, hj]
  · simp [hb]
theorem bd_some {α β γ : Type} (a : α) (b : β) (f : α → β → Option γ) : bd (some (a, b)) f = f a b := rfl
theorem bd1_some {α γ : Type} (a : α) (f : α → Option γ) : bd1 (some a) f = f a := rfl
theorem bx_inl (a : Int32) (σ : St) (f : Int32 → St → Option XR) : bx (some (.inl a, σ)) f = f a σ := rfl
theorem bx_inr (e : Nat) (σ : St) (f : Int32 → St → Option XR) : bx (some (.inr e, σ)) f = some (.inr e, σ) := rfl
theorem bc_inl (a : Int32) (σ : St) (f : Int32 → St → Option (Int32 × St)) (g : Nat → St → Option (Int32 × St)) : bc (some (.inl a, σ)) f g = f a σ := rfl
theorem bc_inr (e : Nat) (σ : St) (f : Int32 → St → Option (Int32 × St)) (g : Nat → St → Option (Int32 × St)) : bc (some (.inr e, σ)) f g = g e σ := rfl
theorem nm_eq {α β : Type} (a : α) (f : α → β) : nm a f = f a := rfl
/-- all cells of w and of the first n of f -/
def orm (w : Int32) (f : Nat → Int32) : Nat → Int32
  | 0 => w
  | n + 1 => orm w f n ||| f n
theorem lp_filled (N : Nat) (σ : St) {nb : Nat} (hb : nb ≤ 8) (h6 : σ.1 6 = nI nb) : ∀ (d n i : Nat), i + d = nb → d < n → lp_X0_filled_7 N σ n (orm (σ.1 7) (σ.2.1 1) i) (nI i) = some (orm (σ.1 7) (σ.2.1 1) nb) := by
  intro d
  induction d with
  | zero =>
    intro n i hi hn
    obtain ⟨n, rfl⟩ : ∃ m, n = m + 1 := ⟨n - 1, by omega⟩
    rw [lp_X0_filled_7, h6, if_pos (nI_le (by omega) (by omega))]
    rw [show i = nb by omega]
  | succ d ih =>
    intro n i hi hn
    obtain ⟨n, rfl⟩ : ∃ m, n = m + 1 := ⟨n - 1, by omega⟩
    rw [lp_X0_filled_7, h6, if_neg (nI_ge (by omega) (by omega)), gd_t (okx_nI (by omega) (by omega)), ra_nI σ 1 (by omega)]
    show lp_X0_filled_7 N σ n (orm (σ.1 7) (σ.2.1 1) (i + 1)) (nI i + 1) = _
    rw [nI_1]
    exact ih n (i + 1) (by omega) (by omega)
theorem filled_ok {N : Nat} (hN : 100 ≤ N) {σ : St} {nb : Nat} (hb : nb ≤ 8) (h6 : σ.1 6 = nI nb) : f_X0_filled N σ = some (orm (σ.1 7) (σ.2.1 1) nb) := by
  unfold f_X0_filled nm
  exact lp_filled N σ hb h6 nb N 0 (by omega) (by omega)
theorem lp_blocked (N : Nat) (σ : St) {nb : Nat} (hb : nb ≤ 8) (h6 : σ.1 4 = nI nb) : ∀ (d n i : Nat), i + d = nb → d < n → lp_X7_blocked_7 N σ n (orm (σ.1 3) (σ.2.1 1) i) (nI i) = some (orm (σ.1 3) (σ.2.1 1) nb) := by
  intro d
  induction d with
  | zero =>
    intro n i hi hn
    obtain ⟨n, rfl⟩ : ∃ m, n = m + 1 := ⟨n - 1, by omega⟩
    rw [lp_X7_blocked_7, h6, if_pos (nI_le (by omega) (by omega))]
    rw [show i = nb by omega]
  | succ d ih =>
    intro n i hi hn
    obtain ⟨n, rfl⟩ : ∃ m, n = m + 1 := ⟨n - 1, by omega⟩
    rw [lp_X7_blocked_7, h6, if_neg (nI_ge (by omega) (by omega)), gd_t (okx_nI (by omega) (by omega)), ra_nI σ 1 (by omega)]
    show lp_X7_blocked_7 N σ n (orm (σ.1 3) (σ.2.1 1) (i + 1)) (nI i + 1) = _
    rw [nI_1]
    exact ih n (i + 1) (by omega) (by omega)
theorem blocked_ok {N : Nat} (hN : 100 ≤ N) {σ : St} {nb : Nat} (hb : nb ≤ 8) (h6 : σ.1 4 = nI nb) : f_X7_blocked N σ = some (orm (σ.1 3) (σ.2.1 1) nb) := by
  unfold f_X7_blocked nm
  exact lp_blocked N σ hb h6 nb N 0 (by omega) (by omega)
theorem orm_congr {w : Int32} {f g : Nat → Int32} {n : Nat} (h : ∀ b, b < n → f b = g b) : orm w f n = orm w g n := by
  induction n with
  | zero => rfl
  | succ n ih => simp only [orm]; rw [ih (fun b hb => h b (by omega)), h n (by omega)]
