/-! open: the least goal that is not met -/
def Yn (r : Int32) (Q : Prop) : Prop := (r = 1 ∧ Q) ∨ (r = 0 ∧ ¬ Q)
theorem Yn.congr {r : Int32} {Q R : Prop} (h : Yn r Q) (e : Q ↔ R) : Yn r R := by
  rcases h with ⟨h1, h2⟩ | ⟨h1, h2⟩
  · exact Or.inl ⟨h1, e.mp h2⟩
  · exact Or.inr ⟨h1, fun h => h2 (e.mpr h)⟩
theorem ex_skip {Q : Nat → Prop} {i nb : Nat} (h : ¬ Q i) : (∃ b, i + 1 ≤ b ∧ b < nb ∧ Q b) ↔ ∃ b, i ≤ b ∧ b < nb ∧ Q b := by
  constructor
  · rintro ⟨b, h1, h2⟩; exact ⟨b, by omega, h2⟩
  · rintro ⟨b, h1, h2, h3⟩
    refine ⟨b, ?_, h2, h3⟩
    rcases Nat.lt_or_ge i b with e | e
    · omega
    · rw [show b = i by omega] at h3; exact absurd h3 h
theorem lp_kindIsAt (N : Nat) (σ : St) {nb : Nat} (hb : nb ≤ 8) (h6 : σ.1 6 = nI nb) (kd cl : Int32) : ∀ (d n i : Nat), i + d = nb → d < n → ∃ r : Int32, Yn r (∃ b, i ≤ b ∧ b < nb ∧ (σ.2.1 0 b = kd ∧ σ.2.1 7 b = cl)) ∧ lp_X2_kindIsAt_a11_3 N σ kd cl n (nI i) = some r := by
  intro d
  induction d with
  | zero =>
    intro n i hi hn
    obtain ⟨n, rfl⟩ : ∃ m, n = m + 1 := ⟨n - 1, by omega⟩
    exact ⟨0, Or.inr ⟨rfl, fun ⟨b, h1, h2, _⟩ => by omega⟩, by rw [lp_X2_kindIsAt_a11_3, h6, if_pos (nI_le (by omega) (by omega))]⟩
  | succ d ih =>
    intro n i hi hn
    obtain ⟨n, rfl⟩ : ∃ m, n = m + 1 := ⟨n - 1, by omega⟩
    obtain ⟨r, hr, e⟩ := ih n (i + 1) (by omega) (by omega)
    rw [lp_X2_kindIsAt_a11_3, h6, if_neg (nI_ge (by omega) (by omega)), gd_t (okx_nI (by omega) (by omega)), ra_nI _ _ (by omega), ra_nI _ _ (by omega), nm_eq, nI_1]
    by_cases h1 : σ.2.1 0 i = kd
    · rw [if_pos h1, gd_t (okx_nI (by omega) (by omega))]
      by_cases h2 : σ.2.1 7 i = cl
      · rw [if_pos h2]
        exact ⟨1, Or.inl ⟨rfl, i, by omega, by omega, h1, h2⟩, rfl⟩
      · rw [if_neg h2]
        exact ⟨r, hr.congr (ex_skip (fun q => h2 q.2)), e⟩
    · rw [if_neg h1]
      exact ⟨r, hr.congr (ex_skip (fun q => h1 q.1)), e⟩
/-- goal g is met with the places p -/
def Mt (σ : St) (nb : Nat) (p : Nat → Int32) (g : Nat) : Prop := ∃ b, b < nb ∧ ((σ.2.1 2 g = 0 ∧ σ.2.1 3 g = nI b) ∨ (σ.2.1 2 g ≠ 0 ∧ σ.2.1 0 b = σ.2.1 3 g)) ∧ p b = σ.2.1 4 g
theorem fo_step {N : Nat} (hN : 100 ≤ N) {σ τ : St} {nb ng : Nat} (hb : nb ≤ 8) (h6 : σ.1 6 = nI nb) (hG : RG nb ng σ τ) {g : Nat} (hg : g < ng) (n : Nat) : ∃ r : Int32, Yn r (Mt σ nb (σ.2.1 7) g) ∧ lp_X2_firstOpen_a11_2 N σ (n + 1) (nI g) = if r = 0 then some (nI g) else lp_X2_firstOpen_a11_2 N σ n (nI (g + 1)) := by
  obtain ⟨g1, g2, g3, g4⟩ := hG
  obtain ⟨e3, v, e4, hv⟩ := g4 g hg
  rw [lp_X2_firstOpen_a11_2, g2, if_neg (nI_ge hg (by omega)), gd_t (okx_nI (by omega) (by omega)), ra_nI _ _ (by omega), ra_nI _ _ (by omega), ra_nI _ _ (by omega), e4]
  rcases hv with ⟨z, hv, -⟩ | ⟨z, hv, -⟩
  · rw [if_pos z, gd_t (okx_nI (by omega) (by omega)), gd_t (okx_nI (by omega) (by omega)), gd_t (okx_nI (by omega) (by omega)), ra_nI _ _ (by omega)]
    have hM : Mt σ nb (σ.2.1 7) g ↔ σ.2.1 7 v = σ.2.1 4 g := by
      constructor
      · rintro ⟨b, hb, (⟨_, h1⟩ | ⟨h1, _⟩), h2⟩
        · rw [e4] at h1
          rw [(nI_eq (by omega) (by omega)).mp h1]; exact h2
        · exact absurd z h1
      · intro h1
        exact ⟨v, hv, Or.inl ⟨z, e4⟩, h1⟩
    by_cases hp : σ.2.1 7 v = σ.2.1 4 g
    · refine ⟨1, Or.inl ⟨rfl, hM.mpr hp⟩, ?_⟩
      rw [if_pos hp, if_neg (show ¬ (1 : Int32) = 0 by decide), if_neg (show ¬ (1 : Int32) = 0 by decide), nm_eq, nI_1]
    · refine ⟨0, Or.inr ⟨rfl, fun q => hp (hM.mp q)⟩, ?_⟩
      rw [if_neg hp, if_pos rfl, if_pos rfl]
  · have z' : ¬ σ.2.1 2 g = 0 := by rw [z]; decide
    rw [if_neg z', gd_t (okx_nI (by omega) (by omega)), gd_t (okx_nI (by omega) (by omega))]
    unfold f_X2_kindIsAt_a11
    obtain ⟨r, hr, e⟩ := lp_kindIsAt N σ hb h6 (nI v) (σ.2.1 4 g) nb N 0 (by omega) (by omega)
    have e : lp_X2_kindIsAt_a11_3 N σ (nI v) (σ.2.1 4 g) N 0 = some r := e
    rw [e, bd1_some, nm_eq, nI_1]
    refine ⟨r, hr.congr ?_, rfl⟩
    constructor
    · rintro ⟨b, _, hb, h1, h2⟩
      exact ⟨b, hb, Or.inr ⟨z', by rw [h1, e4]⟩, h2⟩
    · rintro ⟨b, hb, (⟨h1, _⟩ | ⟨_, h1⟩), h2⟩
      · exact absurd h1 z'
      · exact ⟨b, by omega, hb, by rw [h1, e4], h2⟩
theorem lp_isMet_a2 {N : Nat} (hN : 100 ≤ N) (τ : St) {nb g : Nat} (hb : nb ≤ 8) (hg : g < 6) (h4 : τ.1 4 = nI nb) (hi25 : ∀ b, b < nb → inb (τ.2.1 1 b) 25) : ∀ (d n i : Nat), i + d = nb → d < n → ∃ r : Int32, Yn r (∃ b, i ≤ b ∧ b < nb ∧ ((τ.2.1 2 g = nI b ∨ τ.2.1 2 g = 100 + τ.2.1 0 b) ∧ plc (τ.2.1 1 b) = τ.2.1 3 g)) ∧ lp_X7_isMet_a2_2 N τ (nI g) n (nI i) = some r := by
  intro d
  induction d with
  | zero =>
    intro n i hi hn
    obtain ⟨n, rfl⟩ : ∃ m, n = m + 1 := ⟨n - 1, by omega⟩
    exact ⟨0, Or.inr ⟨rfl, fun ⟨b, h1, h2, _⟩ => by omega⟩, by rw [lp_X7_isMet_a2_2, h4, if_pos (nI_le (by omega) (by omega))]⟩
  | succ d ih =>
    intro n i hi hn
    obtain ⟨n, rfl⟩ : ∃ m, n = m + 1 := ⟨n - 1, by omega⟩
    obtain ⟨r, hr, e⟩ := ih n (i + 1) (by omega) (by omega)
    have o8 : okx (nI i) 8 = true := okx_nI (by omega) (by omega)
    have o6 : okx (nI g) 6 = true := okx_nI (by omega) (by omega)
    have q0 : ra τ 0 (nI i) = τ.2.1 0 i := ra_nI _ _ (by omega)
    have q1 : ra τ 1 (nI i) = τ.2.1 1 i := ra_nI _ _ (by omega)
    have q2 : ra τ 2 (nI g) = τ.2.1 2 g := ra_nI _ _ (by omega)
    have q3 : ra τ 3 (nI g) = τ.2.1 3 g := ra_nI _ _ (by omega)
    have hp := placeOf_plc hN τ (hi25 i (by omega))
    rw [lp_X7_isMet_a2_2, h4, if_neg (nI_ge (by omega) (by omega))]
    simp only [gd_t o8, gd_t o6, q0, q1, q2, q3, hp, bd1_some, nm_eq, nI_1]
    by_cases h1 : τ.2.1 2 g = nI i ∨ τ.2.1 2 g = 100 + τ.2.1 0 i
    · by_cases h2 : plc (τ.2.1 1 i) = τ.2.1 3 g
      · refine ⟨1, Or.inl ⟨rfl, i, by omega, by omega, h1, h2⟩, ?_⟩
        by_cases h3 : τ.2.1 2 g = nI i
        · rw [if_pos h3, if_pos h2]
        · rw [if_neg h3, if_pos (h1.resolve_left h3), if_pos h2]
      · refine ⟨r, hr.congr (ex_skip (fun q => h2 q.2)), ?_⟩
        by_cases h3 : τ.2.1 2 g = nI i
        · rw [if_pos h3, if_neg h2]; exact e
        · rw [if_neg h3, if_pos (h1.resolve_left h3), if_neg h2]; exact e
    · refine ⟨r, hr.congr (ex_skip (fun q => h1 q.1)), ?_⟩
      rw [if_neg (fun h => h1 (Or.inl h)), if_neg (fun h => h1 (Or.inr h))]; exact e
/-- both sides find the same goal -/
theorem open_a2 {N : Nat} (hN : 100 ≤ N) {σ τ : St} {nb ng : Nat} (hb : nb ≤ 8) (h6 : σ.1 6 = nI nb) (h4 : τ.1 4 = nI nb) (hG : RG nb ng σ τ) (hk : ∀ b, b < nb → τ.2.1 0 b = σ.2.1 0 b ∧ ∃ kd : Nat, kd < 26 ∧ σ.2.1 0 b = nI kd) (hp : ∀ b, b < nb → σ.2.1 7 b = plc (τ.2.1 1 b) ∧ inb (τ.2.1 1 b) 25) :
    ∃ r : Int32, f_X2_firstOpen_a11 N σ = some r ∧ f_X7_openIn_a2 N τ = some r ∧ (r = -1 ∨ ∃ g, g < 6 ∧ r = nI g) := by
  have hG' := hG
  obtain ⟨g1, g2, g3, g4⟩ := hG'
  have key : ∀ (d n n' g : Nat), g + d = ng → d < n → d < n' → ∃ r : Int32, lp_X2_firstOpen_a11_2 N σ n (nI g) = some r ∧ lp_X7_openIn_a2_2 N τ n' (nI g) = some r ∧ (r = -1 ∨ ∃ g, g < 6 ∧ r = nI g) := by
    intro d
    induction d with
    | zero =>
      intro n n' g hg hn hn'
      obtain ⟨n, rfl⟩ : ∃ m, n = m + 1 := ⟨n - 1, by omega⟩
      obtain ⟨n', rfl⟩ : ∃ m, n' = m + 1 := ⟨n' - 1, by omega⟩
      refine ⟨-1, ?_, ?_, Or.inl rfl⟩
      · rw [lp_X2_firstOpen_a11_2, g2, if_pos (nI_le (by omega) (by omega))]
      · rw [lp_X7_openIn_a2_2, g3, if_pos (nI_le (by omega) (by omega))]
    | succ d ih =>
      intro n n' g hg hn hn'
      obtain ⟨n, rfl⟩ : ∃ m, n = m + 1 := ⟨n - 1, by omega⟩
      obtain ⟨n', rfl⟩ : ∃ m, n' = m + 1 := ⟨n' - 1, by omega⟩
      obtain ⟨r1, hr1, e1⟩ := fo_step hN hb h6 hG (show g < ng by omega) n
      obtain ⟨r2, hr2, e2⟩ := lp_isMet_a2 (g := g) hN τ hb (by omega) h4 (fun b hb => (hp b hb).2) nb N 0 (by omega) (by omega)
      obtain ⟨f3, v, f4, hv⟩ := g4 g (by omega)
      have hM : (∃ b, 0 ≤ b ∧ b < nb ∧ ((τ.2.1 2 g = nI b ∨ τ.2.1 2 g = 100 + τ.2.1 0 b) ∧ plc (τ.2.1 1 b) = τ.2.1 3 g)) ↔ Mt σ nb (σ.2.1 7) g := by
        have hb2 : ∀ b, b < nb → ((τ.2.1 2 g = nI b ∨ τ.2.1 2 g = 100 + τ.2.1 0 b) ↔ ((σ.2.1 2 g = 0 ∧ σ.2.1 3 g = nI b) ∨ (σ.2.1 2 g ≠ 0 ∧ σ.2.1 0 b = σ.2.1 3 g))) := by
          intro b hbb
          obtain ⟨k1, kd, k2, k3⟩ := hk b hbb
          rw [k1, k3, f4, show (100 : Int32) + nI kd = nI (100 + kd) from nI_add 100 kd]
          rcases hv with ⟨z, hv, t⟩ | ⟨z, hv, t⟩
          · rw [t, z, nI_eq (by omega) (by omega), nI_eq (by omega) (by omega), nI_eq (by omega) (by omega)]
            constructor
            · rintro (h | h)
              · exact Or.inl ⟨rfl, h⟩
              · omega
            · rintro (⟨_, h⟩ | ⟨h, _⟩)
              · exact Or.inl h
              · exact absurd rfl h
          · rw [t, z, nI_eq (by omega) (by omega), nI_eq (by omega) (by omega), nI_eq (by omega) (by omega), nI_eq (by omega) (by omega)]
            constructor
            · rintro (h | h)
              · omega
              · exact Or.inr ⟨by decide, by omega⟩
            · rintro (⟨h, _⟩ | ⟨_, h⟩)
              · exact absurd h (by decide)
              · right; omega
        constructor
        · rintro ⟨b, _, hbb, h1, h2⟩
          exact ⟨b, hbb, (hb2 b hbb).mp h1, by rw [(hp b hbb).1, h2, f3]⟩
        · rintro ⟨b, hbb, h1, h2⟩
          exact ⟨b, by omega, hbb, (hb2 b hbb).mpr h1, by rw [← (hp b hbb).1, h2, f3]⟩
      have hr2 := hr2.congr hM
      have er : r2 = r1 := by
        rcases hr1 with ⟨a, b⟩ | ⟨a, b⟩ <;> rcases hr2 with ⟨c, e⟩ | ⟨c, e⟩
        · rw [a, c]
        · exact absurd b e
        · exact absurd e b
        · rw [a, c]
      have e2 : f_X7_isMet_a2 N τ (nI g) = some r2 := e2
      rw [e1, lp_X7_openIn_a2_2, g3, if_neg (nI_ge (by omega) (by omega)), e2, bd1_some, er, nm_eq, nI_1]
      by_cases hz : r1 = 0
      · rw [if_pos hz, if_pos hz]
        exact ⟨nI g, rfl, rfl, Or.inr ⟨g, by omega, rfl⟩⟩
      · rw [if_neg hz, if_neg hz]
        exact ih n n' (g + 1) (by omega) (by omega) (by omega)
  exact key ng N N 0 (by omega) (by omega) (by omega)
theorem lp_isMet_a11 {N : Nat} (hN : 100 ≤ N) (τ : St) {nb g : Nat} (hb : nb ≤ 8) (hg : g < 6) (h4 : τ.1 4 = nI nb) (hi25 : ∀ b, b < nb → inb (τ.2.1 10 b) 25) : ∀ (d n i : Nat), i + d = nb → d < n → ∃ r : Int32, Yn r (∃ b, i ≤ b ∧ b < nb ∧ ((τ.2.1 2 g = nI b ∨ τ.2.1 2 g = 100 + τ.2.1 0 b) ∧ plc (τ.2.1 10 b) = τ.2.1 3 g)) ∧ lp_X7_isMet_a11_2 N τ (nI g) n (nI i) = some r := by
  intro d
  induction d with
  | zero =>
    intro n i hi hn
    obtain ⟨n, rfl⟩ : ∃ m, n = m + 1 := ⟨n - 1, by omega⟩
    exact ⟨0, Or.inr ⟨rfl, fun ⟨b, h1, h2, _⟩ => by omega⟩, by rw [lp_X7_isMet_a11_2, h4, if_pos (nI_le (by omega) (by omega))]⟩
  | succ d ih =>
    intro n i hi hn
    obtain ⟨n, rfl⟩ : ∃ m, n = m + 1 := ⟨n - 1, by omega⟩
    obtain ⟨r, hr, e⟩ := ih n (i + 1) (by omega) (by omega)
    have o8 : okx (nI i) 8 = true := okx_nI (by omega) (by omega)
    have o6 : okx (nI g) 6 = true := okx_nI (by omega) (by omega)
    have q0 : ra τ 0 (nI i) = τ.2.1 0 i := ra_nI _ _ (by omega)
    have q1 : ra τ 10 (nI i) = τ.2.1 10 i := ra_nI _ _ (by omega)
    have q2 : ra τ 2 (nI g) = τ.2.1 2 g := ra_nI _ _ (by omega)
    have q3 : ra τ 3 (nI g) = τ.2.1 3 g := ra_nI _ _ (by omega)
    have hp := placeOf_plc hN τ (hi25 i (by omega))
    rw [lp_X7_isMet_a11_2, h4, if_neg (nI_ge (by omega) (by omega))]
    simp only [gd_t o8, gd_t o6, q0, q1, q2, q3, hp, bd1_some, nm_eq, nI_1]
    by_cases h1 : τ.2.1 2 g = nI i ∨ τ.2.1 2 g = 100 + τ.2.1 0 i
    · by_cases h2 : plc (τ.2.1 10 i) = τ.2.1 3 g
      · refine ⟨1, Or.inl ⟨rfl, i, by omega, by omega, h1, h2⟩, ?_⟩
        by_cases h3 : τ.2.1 2 g = nI i
        · rw [if_pos h3, if_pos h2]
        · rw [if_neg h3, if_pos (h1.resolve_left h3), if_pos h2]
      · refine ⟨r, hr.congr (ex_skip (fun q => h2 q.2)), ?_⟩
        by_cases h3 : τ.2.1 2 g = nI i
        · rw [if_pos h3, if_neg h2]; exact e
        · rw [if_neg h3, if_pos (h1.resolve_left h3), if_neg h2]; exact e
    · refine ⟨r, hr.congr (ex_skip (fun q => h1 q.1)), ?_⟩
      rw [if_neg (fun h => h1 (Or.inl h)), if_neg (fun h => h1 (Or.inr h))]; exact e
theorem open_a11 {N : Nat} (hN : 100 ≤ N) {σ τ : St} {nb ng : Nat} (hb : nb ≤ 8) (h6 : σ.1 6 = nI nb) (h4 : τ.1 4 = nI nb) (hG : RG nb ng σ τ) (hk : ∀ b, b < nb → τ.2.1 0 b = σ.2.1 0 b ∧ ∃ kd : Nat, kd < 26 ∧ σ.2.1 0 b = nI kd) (hp : ∀ b, b < nb → σ.2.1 7 b = plc (τ.2.1 10 b) ∧ inb (τ.2.1 10 b) 25) :
    ∃ r : Int32, f_X2_firstOpen_a11 N σ = some r ∧ f_X7_openIn_a11 N τ = some r ∧ (r = -1 ∨ ∃ g, g < 6 ∧ r = nI g) := by
  have hG' := hG
  obtain ⟨g1, g2, g3, g4⟩ := hG'
  have key : ∀ (d n n' g : Nat), g + d = ng → d < n → d < n' → ∃ r : Int32, lp_X2_firstOpen_a11_2 N σ n (nI g) = some r ∧ lp_X7_openIn_a11_2 N τ n' (nI g) = some r ∧ (r = -1 ∨ ∃ g, g < 6 ∧ r = nI g) := by
    intro d
    induction d with
    | zero =>
      intro n n' g hg hn hn'
      obtain ⟨n, rfl⟩ : ∃ m, n = m + 1 := ⟨n - 1, by omega⟩
      obtain ⟨n', rfl⟩ : ∃ m, n' = m + 1 := ⟨n' - 1, by omega⟩
      refine ⟨-1, ?_, ?_, Or.inl rfl⟩
      · rw [lp_X2_firstOpen_a11_2, g2, if_pos (nI_le (by omega) (by omega))]
      · rw [lp_X7_openIn_a11_2, g3, if_pos (nI_le (by omega) (by omega))]
    | succ d ih =>
      intro n n' g hg hn hn'
      obtain ⟨n, rfl⟩ : ∃ m, n = m + 1 := ⟨n - 1, by omega⟩
      obtain ⟨n', rfl⟩ : ∃ m, n' = m + 1 := ⟨n' - 1, by omega⟩
      obtain ⟨r1, hr1, e1⟩ := fo_step hN hb h6 hG (show g < ng by omega) n
      obtain ⟨r2, hr2, e2⟩ := lp_isMet_a11 (g := g) hN τ hb (by omega) h4 (fun b hb => (hp b hb).2) nb N 0 (by omega) (by omega)
      obtain ⟨f3, v, f4, hv⟩ := g4 g (by omega)
      have hM : (∃ b, 0 ≤ b ∧ b < nb ∧ ((τ.2.1 2 g = nI b ∨ τ.2.1 2 g = 100 + τ.2.1 0 b) ∧ plc (τ.2.1 10 b) = τ.2.1 3 g)) ↔ Mt σ nb (σ.2.1 7) g := by
        have hb2 : ∀ b, b < nb → ((τ.2.1 2 g = nI b ∨ τ.2.1 2 g = 100 + τ.2.1 0 b) ↔ ((σ.2.1 2 g = 0 ∧ σ.2.1 3 g = nI b) ∨ (σ.2.1 2 g ≠ 0 ∧ σ.2.1 0 b = σ.2.1 3 g))) := by
          intro b hbb
          obtain ⟨k1, kd, k2, k3⟩ := hk b hbb
          rw [k1, k3, f4, show (100 : Int32) + nI kd = nI (100 + kd) from nI_add 100 kd]
          rcases hv with ⟨z, hv, t⟩ | ⟨z, hv, t⟩
          · rw [t, z, nI_eq (by omega) (by omega), nI_eq (by omega) (by omega), nI_eq (by omega) (by omega)]
            constructor
            · rintro (h | h)
              · exact Or.inl ⟨rfl, h⟩
              · omega
            · rintro (⟨_, h⟩ | ⟨h, _⟩)
              · exact Or.inl h
              · exact absurd rfl h
          · rw [t, z, nI_eq (by omega) (by omega), nI_eq (by omega) (by omega), nI_eq (by omega) (by omega), nI_eq (by omega) (by omega)]
            constructor
            · rintro (h | h)
              · omega
              · exact Or.inr ⟨by decide, by omega⟩
            · rintro (⟨h, _⟩ | ⟨_, h⟩)
              · exact absurd h (by decide)
              · right; omega
        constructor
        · rintro ⟨b, _, hbb, h1, h2⟩
          exact ⟨b, hbb, (hb2 b hbb).mp h1, by rw [(hp b hbb).1, h2, f3]⟩
        · rintro ⟨b, hbb, h1, h2⟩
          exact ⟨b, by omega, hbb, (hb2 b hbb).mpr h1, by rw [← (hp b hbb).1, h2, f3]⟩
      have hr2 := hr2.congr hM
      have er : r2 = r1 := by
        rcases hr1 with ⟨a, b⟩ | ⟨a, b⟩ <;> rcases hr2 with ⟨c, e⟩ | ⟨c, e⟩
        · rw [a, c]
        · exact absurd b e
        · exact absurd e b
        · rw [a, c]
      have e2 : f_X7_isMet_a11 N τ (nI g) = some r2 := e2
      rw [e1, lp_X7_openIn_a11_2, g3, if_neg (nI_ge (by omega) (by omega)), e2, bd1_some, er, nm_eq, nI_1]
      by_cases hz : r1 = 0
      · rw [if_pos hz, if_pos hz]
        exact ⟨nI g, rfl, rfl, Or.inr ⟨g, by omega, rfl⟩⟩
      · rw [if_neg hz, if_neg hz]
        exact ih n n' (g + 1) (by omega) (by omega) (by omega)
  exact key ng N N 0 (by omega) (by omega) (by omega)
/-- the class's places of the blocks as they stand -/
theorem lp_presentOpen {N : Nat} {w h nb : Nat} : ∀ (d n i : Nat) (σ τ : St), RB w h nb σ τ → i + d = nb → d < n → (∀ b, b < i → σ.2.1 7 b = plc (σ.2.1 1 b)) → ∃ σ1, O1 7 σ σ1 ∧ (∀ b, b < nb → σ1.2.1 7 b = plc (σ1.2.1 1 b)) ∧ lp_X1_presentOpenGoal_2 N n σ (nI i) = bd1 (f_X2_firstOpen_a11 N σ1) (fun r1 => some (r1, σ1)) := by
  intro d
  induction d with
  | zero =>
    intro n i σ τ hB hi hn hp
    obtain ⟨n, rfl⟩ : ∃ m, n = m + 1 := ⟨n - 1, by omega⟩
    refine ⟨σ, O1.rf, fun b hb => hp b (by omega), ?_⟩
    rw [lp_X1_presentOpenGoal_2, hB.2.1.2.2.2.2.2.2, if_pos (nI_le (by omega) (by have := hB.1.2.2; omega))]
  | succ d ih =>
    intro n i σ τ hB hi hn hp
    obtain ⟨n, rfl⟩ : ∃ m, n = m + 1 := ⟨n - 1, by omega⟩
    have hB' := hB
    obtain ⟨⟨hw, hh, hnb⟩, ⟨s0, s1, s2, s3, s4, s5, s6⟩, ⟨t1, t2, t4, t3⟩, hbl, hz, hwi, hdj⟩ := hB'
    have a7 : ∀ b, (sA σ 7 (nI i) (plc (σ.2.1 1 i))).2.1 7 b = if b = i then plc (σ.2.1 1 i) else σ.2.1 7 b := fun b => by rw [sA_21 σ 7 i b _ 7 (by omega)]; simp
    have o := O1.sA (a := 7) (σ := σ) (nI i) (plc (σ.2.1 1 i))
    have hB1 : RB w h nb (sA σ 7 (nI i) (plc (σ.2.1 1 i))) τ := RB_fr hB (fun j _ => rfl) (o.2.1 0 (by omega)) (o.2.1 1 (by omega)) (fun _ _ _ => rfl) rfl rfl
    obtain ⟨σ1, p1, p2, p3⟩ := ih n (i + 1) _ τ hB1 (by omega) (by omega) (fun b hb => by
      rw [a7, o.2.1 1 (by omega)]
      by_cases e : b = i
      · rw [if_pos e, e]
      · rw [if_neg e]; exact hp b (by omega))
    refine ⟨σ1, o.tr p1, p2, ?_⟩
    rw [lp_X1_presentOpenGoal_2, s6, if_neg (nI_ge (by omega) (by omega)), gd_t (okx_nI (by omega) (by omega)), ra_nI _ _ (by omega), leastCell_plc N σ (inb_mono (hbl i (by omega)).2.2.1 (wh25 hw.1 hh.1)), bd1_some, gd_t (okx_nI (by omega) (by omega)), nm_eq, nm_eq, nI_1]
    exact p3
/-- the relation, when a row that it doesn't look at has changed -/
theorem Rel_fr {σ τ σ1 : St} (hR : Rel σ τ) (a : Nat) (ha : (5 ≤ a ∧ a ≤ 11) ∨ a = 13 ∨ a = 17) (o : O1 a σ σ1) : Rel σ1 τ := by
  obtain ⟨w, h, nb, ng, nn, hB, hG, hS, hC, hT, hM⟩ := hR
  obtain ⟨a1, a2, a3⟩ := o
  refine ⟨w, h, nb, ng, nn, RB_fr hB (fun j _ => by rw [a1]) (a2 0 (by omega)) (a2 1 (by omega)) (fun _ _ _ => rfl) rfl rfl, ?_, ?_, ?_, ?_, ?_⟩
  · exact RG_fr hG (by rw [a1]) (a2 2 (by omega)) (a2 3 (by omega)) (a2 4 (by omega)) rfl rfl rfl
  · exact RS_fr hS (by rw [a1]) (by rw [a1]) (a2 14 (by omega)) rfl rfl rfl
  · exact RC_fr hC (by rw [a1]) (a2 12 (by omega)) (by rw [a3])
  · exact RT_fr hT (by rw [a1]) (a2 15 (by omega)) (a2 16 (by omega)) rfl rfl rfl
  · exact RM_fr hM (by rw [a1]) (a2 18 (by omega)) (by rw [a3])
theorem pg_8 {σ τ : St} (hR : Rel σ τ) {N : Nat} (hN : 100 ≤ N) (xs : Nat → Int32) (L : Nat) (i : Int32) (K : St → St → Option Int32) : ∃ σ1 τ1, Rel σ1 τ1 ∧ g_law_8 N xs L σ τ i K = K σ1 τ1 := by
  have hR' := hR
  obtain ⟨w, h, nb, ng, nn, hB, hG, hS, hC, hT, hM⟩ := hR'
  have hnb := hB.1.2.2
  obtain ⟨σ1, p1, p2, p3⟩ := lp_presentOpen (N := N) nb N 0 σ τ hB (by omega) (by omega) (fun b hb => by omega)
  have hR1 : Rel σ1 (sI τ 0 0) := th_rel (Rel_fr hR 7 (by omega) p1) 0
  refine ⟨σ1, sI τ 0 0, hR1, ?_⟩
  have hG1 : RG nb ng σ1 (sI τ 0 0) := RG_fr hG (by rw [p1.1]) (p1.2.1 2 (by omega)) (p1.2.1 3 (by omega)) (p1.2.1 4 (by omega)) rfl rfl rfl
  obtain ⟨r, r1, r2, -⟩ := open_a2 hN hnb (show σ1.1 6 = nI nb by rw [p1.1]; exact hB.2.1.2.2.2.2.2.2) (show (sI τ 0 0).1 4 = nI nb from hB.2.2.1.2.2.1) hG1 (fun b hb => by
    obtain ⟨e0, e1, e2, e3⟩ := hB.2.2.2.1 b hb
    rw [p1.2.1 0 (by omega)]
    exact ⟨e0, e3⟩) (fun b hb => by
    obtain ⟨e0, e1, e2, e3⟩ := hB.2.2.2.1 b hb
    rw [sI_2, p2 b hb, p1.2.1 1 (by omega), e1]
    exact ⟨rfl, inb_mono e2 (wh25 hB.1.1.1 hB.1.2.1.1)⟩)
  have p3 : f_X1_presentOpenGoal N σ = bd1 (f_X2_firstOpen_a11 N σ1) (fun r1 => some (r1, σ1)) := p3
  unfold g_law_8 f_X6_open f_X7_open
  rw [p3, r1, bd1_some, bd_some, bd_some, nm_eq, r2, bd1_some, bd_some, if_pos rfl]
