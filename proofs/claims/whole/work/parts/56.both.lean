/-! a state of the search, and both sides' taking of it -/
def GS (w h nb : Nat) (wl : Int32) (B m : Nat → Int32) : Prop := (∀ b, b < nb → inb (m b) (w * h) ∧ Sm (B b) (m b)) ∧ dj wl m nb ∧ ∀ b, nb ≤ b → b < 8 → m b = 0
theorem GS_step {w h nb b way : Nat} {wl : Int32} {B m : Nat → Int32} (hw : w < 6 ∧ 1 ≤ w) (hh : h < 6 ∧ 1 ≤ h) (hy : way < 4) (hb : b < nb) (hnb : nb ≤ 8) (hg : GS w h nb wl B m) (hz : stp w h way (m b) (ormx wl m b nb) ≠ 0) : GS w h nb wl B (upd m b (stp w h way (m b) (ormx wl m b nb))) ∧ ∀ c, c < w * h → bt (m b) c = true → ∃ c', c' < w * h ∧ bt (stp w h way (m b) (ormx wl m b nb)) c' = true ∧ room w h way c' + 1 = room w h way c := by
  obtain ⟨y1, y2⟩ := stp_nz hz
  have hmz : mv w h way (m b) ≠ 0 := by rw [← y1]; exact hz
  obtain ⟨hin, hsm⟩ := hg.1 b hb
  have hno2 : ∀ i, i < 32 → bt (mv w h way (m b)) i = true → ¬ (bt wl i = true ∨ ∃ k, k < nb ∧ k ≠ b ∧ bt (m k) i = true) := by
    intro i hi hbi hq
    have h1 := b_and (mv w h way (m b)) (ormx wl m b nb) i
    rw [y2, b_0, hbi, (bt_ormx _ _ _ _ _).mpr hq] at h1
    cases h1
  have hm0 : m b ≠ 0 := by
    intro e
    obtain ⟨i, hi, hbi⟩ := nz_iff.mp hmz
    obtain ⟨c, hc, hbc, -⟩ := mv_bw hw hh hy hin hmz hi hbi
    rw [e, b_0] at hbc
    cases hbc
  rw [y1]
  refine ⟨⟨fun k hk => ?_, ⟨fun k hk i hi hbi => ?_, fun a k ha hk hak i hi hbi => ?_⟩, fun k h1 h2 => ?_⟩, fun c hc hbc => ?_⟩
  · by_cases d : k = b
    · subst d
      rw [pk_us]
      refine ⟨mv_inb hw hh hy hin hmz, ?_⟩
      rcases hsm with ⟨_, e⟩ | ⟨c, l, k', h1, h2, h3⟩
      · exact absurd e hm0
      · obtain ⟨l', e⟩ := mv_core hw hh hy hin hmz h1 h3
        exact Or.inr ⟨c, l, l', h1, h2, e⟩
    · rw [pk_un d]; exact hg.1 k hk
  · by_cases d : k = b
    · subst d
      rw [pk_us] at hbi
      cases e : bt wl i
      · rfl
      · exact absurd (Or.inl e) (hno2 i hi hbi)
    · rw [pk_un d] at hbi; exact hg.2.1.1 k hk i hi hbi
  · by_cases d : a = b
    · subst d
      rw [pk_us] at hbi
      rw [pk_un (fun q => hak q.symm)]
      cases e : bt (m k) i
      · rfl
      · exact absurd (Or.inr ⟨k, hk, fun q => hak q.symm, e⟩) (hno2 i hi hbi)
    · rw [pk_un d] at hbi
      by_cases d' : k = b
      · subst d'
        rw [pk_us]
        cases e : bt (mv w h way (m k)) i
        · rfl
        · exact absurd (Or.inr ⟨a, ha, d, hbi⟩) (hno2 i hi e)
      · rw [pk_un d']; exact hg.2.1.2 a k ha hk hak i hi hbi
  · rw [pk_un (by omega)]; exact hg.2.2 k h1 h2
  · obtain ⟨-, f1, f2, f3⟩ := mv_fw hw hh hy hmz hc hbc
    exact ⟨_, f1, f2, f3⟩
/-- what stands fast while the search goes on -/
def CX (w h nb ng most me goal : Nat) (α : Nat → Nat) (B : Nat → Int32) (wl : Int32) (σ τ : St) : Prop :=
  RB w h nb σ τ ∧ RG nb ng σ τ ∧ (σ.1 9 = nI most ∧ σ.1 10 = nI (if me = 0 then 1 else 5) ∧ σ.1 11 = nI goal ∧ σ.1 7 = wl ∧ σ.2.1 1 = B) ∧ (∀ b, b < nb → (σ.2.1 5 b = nI (α b) ∧ α b < 8) ∧ τ.2.1 9 b = nI (α b) ∧ σ.2.1 6 b = plc (B b)) ∧ (1 ≤ most ∧ most ≤ 10000 ∧ me ≤ 1 ∧ goal ≤ 1) ∧ ∀ k b, k < nb → b < nb → α k = α b → Sm (B k) (B b)
def FE (σ σ' : St) : Prop := (∀ j, j ≠ 12 → σ'.1 j = σ.1 j) ∧ (∀ b, b < 7 ∨ 13 < b → σ'.2.1 b = σ.2.1 b) ∧ ∀ b, b ≠ 0 → b ≠ 1 → σ'.2.2 b = σ.2.2 b
theorem FE.rf {σ : St} : FE σ σ := ⟨fun _ _ => rfl, fun _ _ => rfl, fun _ _ _ => rfl⟩
theorem FE.tr {σ σ1 σ2 : St} (h1 : FE σ σ1) (h2 : FE σ1 σ2) : FE σ σ2 := ⟨fun b hb => (h2.1 b hb).trans (h1.1 b hb), fun b hb => (h2.2.1 b hb).trans (h1.2.1 b hb), fun b hb hc => (h2.2.2 b hb hc).trans (h1.2.2 b hb hc)⟩
theorem FE.o {σ σ1 : St} {a : Nat} (ha : 7 ≤ a ∧ a ≤ 13) (h : O1 a σ σ1) : FE σ σ1 := ⟨fun j _ => by rw [h.1], fun b hb => h.2.1 b (by omega), fun b _ _ => by rw [h.2.2]⟩
theorem FE.f {σ σ1 : St} (h : FO σ σ1) : FE σ σ1 := ⟨h.1, fun b hb => h.2.1 b (by omega), h.2.2⟩
def FT (τ τ' : St) : Prop := (∀ j, j ≠ 6 → τ'.1 j = τ.1 j) ∧ (∀ b, b < 4 ∨ b = 9 ∨ 11 < b → τ'.2.1 b = τ.2.1 b) ∧ τ'.2.2 = τ.2.2
theorem FT.rf {τ : St} : FT τ τ := ⟨fun _ _ => rfl, fun _ _ => rfl, rfl⟩
theorem FT.tr {τ τ1 τ2 : St} (h1 : FT τ τ1) (h2 : FT τ1 τ2) : FT τ τ2 := ⟨fun b hb => (h2.1 b hb).trans (h1.1 b hb), fun b hb => (h2.2.1 b hb).trans (h1.2.1 b hb), h2.2.2.trans h1.2.2⟩
theorem FT.o {τ τ1 : St} {a : Nat} (ha : (4 ≤ a ∧ a ≤ 8) ∨ a = 10 ∨ a = 11) (h : O1 a τ τ1) : FT τ τ1 := ⟨fun j _ => by rw [h.1], fun b hb => h.2.1 b (by omega), h.2.2⟩
theorem FT.f {τ τ1 : St} (h : FN τ τ1) : FT τ τ1 := ⟨h.1, fun b hb => h.2.1 b (by omega), h.2.2⟩
theorem CX_fr {w h nb ng most me goal : Nat} {α : Nat → Nat} {B : Nat → Int32} {wl : Int32} {σ τ σ' τ' : St} (H : CX w h nb ng most me goal α B wl σ τ) (f : FE σ σ') (g : FT τ τ') : CX w h nb ng most me goal α B wl σ' τ' := by
  obtain ⟨h1, h2, h3, h4, h5, h6⟩ := H
  refine ⟨RB_fr h1 (fun j hj => f.1 j (by omega)) (f.2.1 0 (by omega)) (f.2.1 1 (by omega)) (fun j c1 c2 => g.1 j (by omega)) (g.2.1 0 (by omega)) (g.2.1 1 (by omega)), RG_fr h2 (f.1 8 (by omega)) (f.2.1 2 (by omega)) (f.2.1 3 (by omega)) (f.2.1 4 (by omega)) (g.1 5 (by omega)) (g.2.1 2 (by omega)) (g.2.1 3 (by omega)), ?_, ?_, h5, h6⟩
  · rw [f.1 9 (by omega), f.1 10 (by omega), f.1 11 (by omega), f.1 7 (by omega), f.2.1 1 (by omega)]; exact h3
  · rw [f.2.1 5 (by omega), f.2.1 6 (by omega), g.2.1 9 (by omega)]; exact h4
/-- both stores hold the same states -/
def IV (w h nb most : Nat) (α : Nat → Nat) (B : Nat → Int32) (wl : Int32) (n : Nat) (S : Nat → Nat → Int32) (par mov : Nat → Int32) (σ τ : St) : Prop :=
  SC nb α n S par mov σ ∧ SR nb α n S par mov τ ∧ n ≤ most ∧ (∀ j, j < n → GS w h nb wl B (S j)) ∧ ∀ j, j < n → (j = 0 → par j = -1) ∧ (0 < j → ∃ i, i < j ∧ par j = nI i)
theorem GS_cmp {w h nb : Nat} {α : Nat → Nat} {wl : Int32} {B m m' : Nat → Int32} (h25 : w * h ≤ 25) (hA : ∀ k b, k < nb → b < nb → α k = α b → Sm (B k) (B b)) (h1 : GS w h nb wl B m) (h2 : GS w h nb wl B m') {k b : Nat} (hk : k < nb) (hb : b < nb) (e : α k = α b) : (m k < m' b ↔ pp (m k) < pp (m' b)) ∧ (m k = m' b ↔ pp (m k) = pp (m' b)) :=
  Sm_pp (((h1.1 k hk).2.sy.tr (hA k b hk hb e)).tr (h2.1 b hb).2) (inb_mono (h1.1 k hk).1 h25) (inb_mono (h2.1 b hb).1 h25)
theorem both {N : Nat} (hN : 100000 ≤ N) {w h nb ng most me goal : Nat} {α : Nat → Nat} {B : Nat → Int32} {wl : Int32} {σ τ : St} (hX : CX w h nb ng most me goal α B wl σ τ) {n : Nat} {S : Nat → Nat → Int32} {par mov m : Nat → Int32} (hV : IV w h nb most α B wl n S par mov σ τ) (hg : GS w h nb wl B m) (h7 : ∀ b, b < nb → σ.2.1 7 b = plc (m b)) (t10 : ∀ b, b < 8 → τ.2.1 10 b = m b) (a0 a1 : Int32) (ha : (n = 0 ∧ a0 = -1) ∨ ∃ i, i < n ∧ a0 = nI i) :
    (∃ σ' τ', FO σ σ' ∧ FN τ τ' ∧ IV w h nb most α B wl n S par mov σ' τ' ∧ 1 ≤ n ∧ f_X1_offer N σ a0 a1 = some (1, σ') ∧ f_X7_isNew N τ a0 a1 = some (0, τ')) ∨
    (∃ σ' τ', FO σ σ' ∧ FN τ τ' ∧ n = most ∧ SC nb α most S par mov σ' ∧ τ'.1 6 = nI (most + 1) ∧ f_X1_offer N σ a0 a1 = some (-2, σ') ∧ f_X7_isNew N τ a0 a1 = some (1, τ')) ∨
    (∃ σ' τ', FO σ σ' ∧ FN τ τ' ∧ IV w h nb most α B wl (n + 1) (pu S n m) (pu par n a0) (pu mov n a1) σ' τ' ∧ f_X1_offer N σ a0 a1 = some (1, σ') ∧ f_X7_isNew N τ a0 a1 = some (1, τ') ∧ (goal = 0 ∨ (goal = 1 ∧ ∃ g, g < 6 ∧ f_X7_openIn_a11 N τ' = some (nI g)))) ∨
    (∃ σ' τ', FO σ σ' ∧ FN τ τ' ∧ IV w h nb most α B wl (n + 1) (pu S n m) (pu par n a0) (pu mov n a1) σ' τ' ∧ goal = 1 ∧ f_X1_offer N σ a0 a1 = some (0, σ') ∧ f_X7_isNew N τ a0 a1 = some (1, τ') ∧ f_X7_openIn_a11 N τ' = some (-1)) := by
  have hX' := hX
  obtain ⟨hB, hG, ⟨x9, x10, x11, x7, x1⟩, hal, ⟨z1, z2, z3, z4⟩, hA⟩ := hX'
  obtain ⟨⟨hw, hh, hnb⟩, ⟨s0, s1, s2, s3, s4, s5, s6⟩, ⟨t1, t2, t4, t3⟩, hbl, -⟩ := hB
  have h25 := wh25 hw.1 hh.1
  obtain ⟨vC, vR, vn, vG, vP⟩ := hV
  obtain ⟨c1, c2, c3⟩ := offer_ok (N := N) (m := m) hN hnb s6 (fun b hb => (hal b hb).1) h7 (fun b hb => inb_mono (hg.1 b hb).1 h25) (fun j hj b hb => inb_mono ((vG j hj).1 b hb).1 h25) x9 z2 vn vC a0 a1
  obtain ⟨r1, r2⟩ := isNew_ok (N := N) (m := m) hN hnb t4 (fun b hb => ⟨(hal b hb).2.1, (hal b hb).1.2⟩) t10 (fun k b hk hb e => GS_cmp h25 hA hg hg hk hb e) (fun j hj k b hk hb e => (GS_cmp h25 hA (vG j hj) hg hk hb e).2) (by omega) vR a0 a1
  by_cases hh' : Has nb α n S m
  · obtain ⟨σ', f1, f2, f3⟩ := c1 hh'
    obtain ⟨τ', g1, g2, g3⟩ := r1 hh'
    have hn1 : 1 ≤ n := by obtain ⟨j, hj, -⟩ := hh'; omega
    exact Or.inl ⟨σ', τ', f1, g1, ⟨f2, g2, vn, vG, vP⟩, hn1, f3, g3⟩
  · obtain ⟨τ', g1, g2, g3⟩ := r2 hh'
    right
    rcases Nat.lt_or_ge n most with d | d
    · right
      obtain ⟨σ', f1, f2, f3⟩ := c3 hh' d
      have hV' : IV w h nb most α B wl (n + 1) (pu S n m) (pu par n a0) (pu mov n a1) σ' τ' := by
        refine ⟨f2, g2, d, fun j hj => ?_, fun j hj => ?_⟩
        · by_cases q : j = n
          · rw [q, pu_n]; exact hg
          · rw [pu_o _ _ q]; exact vG j (by omega)
        · by_cases q : j = n
          · subst q
            rw [pu_n]
            rcases ha with ⟨e1, e2⟩ | ⟨i, e1, e2⟩
            · exact ⟨fun _ => e2, fun q => by omega⟩
            · exact ⟨fun q => by omega, fun _ => ⟨i, e1, e2⟩⟩
          · rw [pu_o _ _ q]; exact vP j (by omega)
      have e11 : σ'.1 11 = nI goal := by rw [f1.1 11 (by omega)]; exact x11
      rcases (show goal = 0 ∨ goal = 1 by omega) with q | q
      · left
        refine ⟨σ', τ', f1, g1, hV', ?_, g3, Or.inl q⟩
        rw [f3, e11, q, if_pos (show nI 0 = 0 from rfl)]
      · have hX2 := CX_fr hX (FE.f f1) (FT.f g1)
        obtain ⟨ro, o1, o2, o3⟩ := open_a11 (N := N) (σ := σ') (τ := τ') (nb := nb) (ng := ng) (by omega) hnb (by rw [f1.1 6 (by omega)]; exact s6) (by rw [g1.1 4 (by omega)]; exact t4) hX2.2.1 (fun b hb => by
          obtain ⟨q0, -, -, q3⟩ := hX2.1.2.2.2.1 b hb
          exact ⟨q0, q3⟩) (fun b hb => by
          rw [f1.2.1 7 (by omega), g1.2.1 10 (by omega), t10 b (by omega)]
          exact ⟨h7 b hb, inb_mono (hg.1 b hb).1 h25⟩)
        rcases o3 with o3 | ⟨g, hg6, o3⟩
        · right
          refine ⟨σ', τ', f1, g1, hV', q, ?_, g3, by rw [o2, o3]⟩
          rw [f3, e11, q, if_neg (show ¬ nI 1 = 0 by decide), o1, bd1_some, if_pos o3]
        · left
          refine ⟨σ', τ', f1, g1, hV', ?_, g3, Or.inr ⟨q, g, hg6, by rw [o2, o3]⟩⟩
          rw [f3, e11, q, if_neg (show ¬ nI 1 = 0 by decide), o1, bd1_some, if_neg (by rw [o3]; exact nI_nm1 (by omega))]
    · left
      have en : n = most := by omega
      obtain ⟨σ', f1, f2, f3⟩ := c2 hh' en
      subst en
      exact ⟨σ', τ', f1, g1, rfl, f2, g2.1, f3, g3⟩
