/-! loading a state -/
theorem bl_31 (i : Nat) : btl 31 i = decide (i < 5) := by
  rcases Nat.lt_or_ge i 64 with h | h
  · exact (by decide +kernel : ∀ i, i < 64 → btl 31 i = decide (i < 5)) i h
  · rw [l_big h, decide_eq_false (by omega)]
theorem l_and31 {n : Nat} (h : n < 2 ^ 64) : lN n &&& 31 = lN (n % 32) := by
  apply l_ext
  intro i hi
  rw [l_and, bl_31, btl_lN h, btl_lN (by omega), show 32 = 2 ^ 5 from rfl, Nat.testBit_mod_two_pow, Bool.and_comm]
theorem l_shr5 {n : Nat} (h : n < 2 ^ 64) : jlushr (lN n) 5 = lN (n / 32) := by
  apply l_ext
  intro i hi
  rw [show jlushr (lN n) 5 = jlushr (lN n) (nI 5) from rfl, l_ushr (by omega), btl_lN h, btl_lN (by omega), show 32 = 2 ^ 5 from rfl, Nat.testBit_div_two_pow, Nat.add_comm 5 i]
theorem zI_sub (a b : Int) : zI a - zI b = zI (a - b) := (Int32.ofInt_sub a b).symm
theorem gone_eq (a b : Nat) : (nI a - 1) - (nI b - 1) = nI a - nI b := by
  rw [← zI_nI a, ← zI_nI b, show (1 : Int32) = zI 1 from rfl]
  simp only [zI_sub]
  congr 1
  omega
theorem gone_sy (a b : Nat) : -(nI a - nI b) = nI b - nI a := Int32.neg_sub
theorem mask_load {B m : Int32} (hs : Sm B m) (hB : inb B 25) (hm : inb m 25) : (pp m < pp B → jushr B (-(nI (pp m) - nI (pp B))) = m) ∧ (pp B ≤ pp m → jshl B (nI (pp m) - nI (pp B)) = m) := by
  have b1 := pp_le hB
  have b2 := pp_le hm
  rcases hs with ⟨e1, e2⟩ | ⟨c, l, k, h1, h2, h3⟩
  · rw [e1, e2]
    refine ⟨fun q => by omega, fun _ => ?_⟩
    rw [pk_sub (Nat.le_refl _), Nat.sub_self]
    decide
  · have p1 := pp_low (num_low h1 h2)
    have p2 := pp_low (num_low h1 h3)
    rw [p1] at b1
    rw [p2] at b2
    rw [p1, p2]
    constructor
    · intro q
      apply num_inj
      rw [gone_sy, pk_sub (by omega), ushr_num (by omega), h2, pow_split (by omega), h3]
      congr 2
      omega
    · intro q
      apply num_inj
      have hlt := num_lt_inb hm
      have e : num B * 2 ^ (k + 1 - (l + 1)) = num m := by
        rw [h2, h3, Nat.mul_assoc, ← Nat.pow_add]
        congr 2
        omega
      rw [pk_sub (by omega), shl_num (by omega) (by rw [e]; omega), e]
theorem loadC {N : Nat} (hN : 100 ≤ N) {w h nb : Nat} {B m : Nat → Int32} {wl : Int32} {σ0 : St} (hnb : nb ≤ 8) (h25 : w * h ≤ 25) (h6 : σ0.1 6 = nI nb) (h7 : σ0.1 7 = wl) (hB : σ0.2.1 1 = B) (hBi : ∀ b, b < nb → inb (B b) (w * h)) (hp : ∀ b, b < nb → σ0.2.1 6 b = plc (B b)) (hg : GS w h nb wl B m) : ∃ σ', O2 7 8 σ0 σ' ∧ (∀ b, b < nb → σ'.2.1 7 b = plc (m b)) ∧ (∀ b, b < nb → σ'.2.1 8 b = m b) ∧ f_X1_load N σ0 (lN (lyr (fun b => pp (m b)) 0 nb)) = some (orm wl m nb, σ') := by
  have hpp : ∀ b, b < nb → pp (m b) < 32 := fun b hb => by have := pp_le (hg.1 b hb).1; omega
  have lp : ∀ (e f k : Nat) (σ : St), k + e = nb → e < f → O2 7 8 σ0 σ → (∀ b, b < k → σ.2.1 7 b = plc (m b) ∧ σ.2.1 8 b = m b) → ∃ σ', O2 7 8 σ0 σ' ∧ (∀ b, b < nb → σ'.2.1 7 b = plc (m b)) ∧ (∀ b, b < nb → σ'.2.1 8 b = m b) ∧ lp_X1_load_14 N f σ (orm wl m k) (lN (lyr (fun b => pp (m b)) k e)) (nI k) = some (orm wl m nb, σ') := by
    intro e
    induction e with
    | zero =>
      intro f k σ hk hf o h
      obtain ⟨f, rfl⟩ : ∃ j, f = j + 1 := ⟨f - 1, by omega⟩
      have ek : k = nb := by omega
      subst ek
      exact ⟨σ, o, fun b hb => (h b hb).1, fun b hb => (h b hb).2, by rw [lp_X1_load_14, o.1, h6, if_pos (nI_le (by omega) (by omega))]⟩
    | succ e ih =>
      intro f k σ hk hf o h
      obtain ⟨f, rfl⟩ : ∃ j, f = j + 1 := ⟨f - 1, by omega⟩
      have hl := lyr_lt8 hnb hpp (show k + (e + 1) ≤ nb by omega)
      have hk8 := hpp k (by omega)
      have ok : okx (nI k) 8 = true := okx_nI (by omega) (by omega)
      obtain ⟨gi, gs⟩ := hg.1 k (by omega)
      have ml := mask_load gs (inb_mono (hBi k (by omega)) h25) (inb_mono gi h25)
      have b1 := pp_le (inb_mono (hBi k (by omega)) h25)
      have b2 := pp_le (inb_mono gi h25)
      have e1 : lyr (fun b => pp (m b)) k (e + 1) % 32 = pp (m k) := by
        show (lyr (fun b => pp (m b)) (k + 1) e * 32 + pp (m k)) % 32 = _
        omega
      have e2 : lyr (fun b => pp (m b)) k (e + 1) / 32 = lyr (fun b => pp (m b)) (k + 1) e := by
        show (lyr (fun b => pp (m b)) (k + 1) e * 32 + pp (m k)) / 32 = _
        omega
      rw [lp_X1_load_14, o.1, h6, if_neg (nI_ge (by omega) (by omega)), gd_t ok, l_and31 (by omega), e1, lN_i, l_shr5 (by omega), e2, nm_eq, nm_eq, gd_t ok, gd_t ok]
      have r7 : (sA σ 7 (nI k) (nI (pp (m k)) - 1)).2.1 7 = upd (σ.2.1 7) k (plc (m k)) := by rw [sA_row _ _ _ _ (by omega), plc_pp]
      have y4 : ra (sA σ 7 (nI k) (nI (pp (m k)) - 1)) 7 (nI k) - ra (sA σ 7 (nI k) (nI (pp (m k)) - 1)) 6 (nI k) = nI (pp (m k)) - nI (pp (B k)) := by
        rw [ra_nI _ _ (by omega), ra_nI _ _ (by omega), r7, pk_us, sA_oth _ _ _ (show 6 ≠ 7 by omega), o.2.1 6 (by omega) (by omega), hp k (by omega), plc_pp, plc_pp, gone_eq]
      have y1 : ra (sA σ 7 (nI k) (nI (pp (m k)) - 1)) 1 (nI k) = B k := by
        rw [ra_nI _ _ (by omega), sA_oth _ _ _ (show 1 ≠ 7 by omega), o.2.1 1 (by omega) (by omega), hB]
      have fin : lp_X1_load_14 N f (sA (sA σ 7 (nI k) (nI (pp (m k)) - 1)) 8 (nI k) (m k)) (orm wl m (k + 1)) (lN (lyr (fun b => pp (m b)) (k + 1) e)) (nI (k + 1)) = lp_X1_load_14 N f (sA (sA σ 7 (nI k) (nI (pp (m k)) - 1)) 8 (nI k) (m k)) (orm wl m k ||| ra (sA (sA σ 7 (nI k) (nI (pp (m k)) - 1)) 8 (nI k) (m k)) 8 (nI k)) (lN (lyr (fun b => pp (m b)) (k + 1) e)) (nI k + 1) := by
        rw [ra_nI _ _ (by omega), sA_row _ _ _ _ (by omega), pk_us, nI_1]
        rfl
      have go := ih f (k + 1) (sA (sA σ 7 (nI k) (nI (pp (m k)) - 1)) 8 (nI k) (m k)) (by omega) (by omega) ⟨o.1, fun b c1 c2 => by rw [sA_oth _ _ _ c2, sA_oth _ _ _ c1]; exact o.2.1 b c1 c2, o.2.2⟩ (fun b hb => by
        rw [sA_oth _ _ _ (show 7 ≠ 8 by omega), r7, sA_row _ _ _ _ (by omega), sA_oth _ _ _ (show 8 ≠ 7 by omega)]
        by_cases d : b = k
        · rw [d, pk_us, pk_us]; exact ⟨rfl, rfl⟩
        · rw [pk_un d, pk_un d]; exact h b (by omega))
      rw [fin] at go
      rw [y4, nm_eq]
      rcases Nat.lt_or_ge (pp (m k)) (pp (B k)) with d | d
      · rw [if_pos (pk_sneg (by omega) d), gd_t ok, gd_t ok, y1, ml.1 d, nm_eq, gd_t ok, nm_eq, nm_eq]
        exact go
      · rw [if_neg (by rw [pk_sub d]; exact nI_pos (by omega)), gd_t ok, gd_t ok, y1, ml.2 d, nm_eq, gd_t ok, nm_eq, nm_eq]
        exact go
  unfold f_X1_load
  rw [h7, nm_eq]
  exact lp nb N 0 σ0 (by omega) (by omega) O2.rf (fun b hb => by omega)
theorem loadR {N : Nat} (hN : 100 ≤ N) {i : Nat} (hi : i ≤ 10000) {m : Nat → Int32} {τ0 : St} (hm : ∀ b, b < 8 → τ0.2.1 4 (8 * i + b) = m b) : ∃ τ', O1 10 τ0 τ' ∧ (∀ b, b < 8 → τ'.2.1 10 b = m b) ∧ f_X7_load N τ0 (nI i) = some τ' := by
  have lp : ∀ (e f k : Nat) (τ : St), k + e = 8 → e < f → O1 10 τ0 τ → (∀ b, b < k → τ.2.1 10 b = m b) → ∃ τ', O1 10 τ0 τ' ∧ (∀ b, b < 8 → τ'.2.1 10 b = m b) ∧ lp_X7_load_2 N (nI i) f τ (nI k) = some τ' := by
    intro e
    induction e with
    | zero =>
      intro f k τ hk hf o h
      obtain ⟨f, rfl⟩ : ∃ j, f = j + 1 := ⟨f - 1, by omega⟩
      exact ⟨τ, o, fun b hb => h b (by omega), by rw [lp_X7_load_2, if_pos (show (8 : Int32) ≤ nI k from nI_le (a := 8) (by omega) (by omega))]⟩
    | succ e ih =>
      intro f k τ hk hf o h
      obtain ⟨f, rfl⟩ : ∃ j, f = j + 1 := ⟨f - 1, by omega⟩
      rw [lp_X7_load_2, if_neg (show ¬ (8 : Int32) ≤ nI k from nI_ge (b := 8) (by omega) (by omega)), show (8 : Int32) * nI i + nI k = nI (8 * i + k) from cell_nI 8 k i, gd_t (okx_nI (by omega) (by omega)), gd_t (okx_nI (by omega) (by omega)), ra_nI _ _ (by omega), o.2.1 4 (by omega), hm k (by omega), nm_eq, nm_eq, nI_1]
      refine ih f (k + 1) _ (by omega) (by omega) (o.tr (O1.sA _ _)) (fun b hb => ?_)
      rw [sA_row _ _ _ _ (by omega)]
      by_cases d : b = k
      · rw [d, pk_us]
      · rw [pk_un d]; exact h b (by omega)
  exact lp 8 N 0 τ0 (by omega) (by omega) O1.rf (fun b hb => by omega)
/-! the ways of a block -/
theorem way_out {N : Nat} (x1 x3 x4 x5 x6 x7 x8 : Int32) {b f : Nat} (hb : b < 8) (σ : St) (h : x7 ≠ 1) : lp_X1_tryWay_22 N x1 (nI b) x3 x4 x5 (f + 1) σ x6 x7 x8 = some (x7, sA σ 7 (nI b) x5) := by
  have ob : okx (nI b) 8 = true := okx_nI hb (by omega)
  rw [lp_X1_tryWay_22]
  by_cases c : σ.1 10 < x8
  · rw [if_pos c, gd_t ob, nm_eq]
  · rw [if_neg c, if_neg h, gd_t ob, nm_eq]
theorem jn180 {N : Nat} (x1 x2 x3 x4 x5 x8 x9 w0 : Int32) {b : Nat} (hb : b < 8) (τ : St) (h : x9 ≠ 0) (K : St → Int32 → Int32 → Option (Int32 × St)) : jn_X7_spread_180 N τ x1 x2 x3 x4 x5 (nI b) x8 x9 w0 K = bd (f_X7_isNew N (sA τ 10 (nI b) x9) x4 ((32 * x8) + x5)) (fun r11 σ12 => if r11 = 0 then K σ12 w0 (x8 + 1) else (if (σ12.1 6) ≤ x2 then (if x3 = 0 then K σ12 w0 (x8 + 1) else bd1 (f_X7_openIn_a11 N σ12) (fun r14 => if 0 ≤ r14 then K σ12 w0 (x8 + 1) else some ((σ12.1 6) - 1, σ12))) else some (-2, σ12))) := by
  unfold jn_X7_spread_180
  rw [if_neg h, gd_t (okx_nI hb (by omega)), nm_eq]
  rfl
theorem jn180z {N : Nat} (x1 x2 x3 x4 x5 x6 x8 w0 : Int32) (τ : St) (K : St → Int32 → Int32 → Option (Int32 × St)) : jn_X7_spread_180 N τ x1 x2 x3 x4 x5 x6 x8 0 w0 K = K τ w0 (x8 + 1) := by
  unfold jn_X7_spread_180
  rw [if_pos rfl, nm_eq]
/-- how the search may end -/
def FIN (w h nb most : Nat) (α : Nat → Nat) (B : Nat → Int32) (wl : Int32) (σ0 τ0 : St) (r rr : Int32) (σ' τ' : St) : Prop :=
  FE σ0 σ' ∧ FT τ0 τ' ∧ ((r = 0 ∧ ∃ n S par mov, 1 ≤ n ∧ IV w h nb most α B wl n S par mov σ' τ' ∧ rr = nI (n - 1)) ∨ (r = -2 ∧ rr = -2 ∧ ∃ S par mov, SC nb α most S par mov σ') ∨ (r = -1 ∧ rr = -1 ∧ ∃ n S par mov, 1 ≤ n ∧ IV w h nb most α B wl n S par mov σ' τ'))
theorem upd_self (m : Nat → Int32) (b : Nat) : upd m b (m b) = m := by
  funext k
  by_cases d : k = b
  · rw [d, pk_us]
  · rw [pk_un d]
theorem upd_upd (m : Nat → Int32) (b : Nat) (x y : Int32) : upd (upd m b x) b y = upd m b y := by
  funext k
  by_cases d : k = b
  · rw [d, pk_us, pk_us]
  · rw [pk_un d, pk_un d, pk_un d]
theorem try_loop {N : Nat} (hN : 100000 ≤ N) {w h nb ng most me goal : Nat} {α : Nat → Nat} {B : Nat → Int32} {wl : Int32} {σ0 τ0 : St} (hX : CX w h nb ng most me goal α B wl σ0 τ0) {i b way : Nat} (hb : b < nb) (hy : way < 4) {m M8 : Nat → Int32} (KR : St → Int32 → Option (Int32 × St)) :
    ∀ (r f f' t n : Nat) (S : Nat → Nat → Int32) (par mov : Nat → Int32) (cur : Int32) (σ τ : St), FE σ0 σ → FT τ0 τ → IV w h nb most α B wl n S par mov σ τ → i < n → GS w h nb wl B (upd m b cur) → (∀ k, k < nb → σ.2.1 7 k = plc (upd m b cur k)) → σ.2.1 8 = M8 → (∀ k, k < 8 → τ.2.1 10 k = upd m b cur k) → (cur ≠ 0 → ∃ c, c < w * h ∧ bt cur c = true ∧ room w h way c ≤ r) → (me = 1 → t + r ≤ 5) → (me = 0 → t = 1) → t ≤ 5 → r + 2 < f → r + 3 < f' →
    (∃ n' S' par' mov' σ' τ', FE σ0 σ' ∧ FT τ0 τ' ∧ IV w h nb most α B wl n' S' par' mov' σ' τ' ∧ n ≤ n' ∧ (∀ j, j < n → S' j = S j) ∧ (∀ k, k < nb → σ'.2.1 7 k = plc (m k)) ∧ σ'.2.1 8 = M8 ∧ lp_X1_tryWay_22 N (nI i) (nI b) (nI way) (ormx wl m b nb) (plc (m b)) f σ cur 1 (nI t) = some (1, σ') ∧ lp_X7_spread_144 N (nI me) (nI most) (nI goal) (nI i) (nI (4 * b + way)) (nI b) KR f' τ 1 (nI t) = KR τ' (nI (4 * b + way + 1))) ∨
    (∃ r rr σ' τ', r ≠ 1 ∧ FIN w h nb most α B wl σ0 τ0 r rr σ' τ' ∧ lp_X1_tryWay_22 N (nI i) (nI b) (nI way) (ormx wl m b nb) (plc (m b)) f σ cur 1 (nI t) = some (r, σ') ∧ lp_X7_spread_144 N (nI me) (nI most) (nI goal) (nI i) (nI (4 * b + way)) (nI b) KR f' τ 1 (nI t) = some (rr, τ')) := by
  intro r
  induction r using Nat.strongRecOn with
  | ind r ih =>
    intro f f' t n S par mov cur σ τ fe ft hV hin hg h7 h8 t10 hroom ht1 ht0 ht5 hf hf'
    obtain ⟨f, rfl⟩ : ∃ j, f = j + 2 := ⟨f - 2, by omega⟩
    obtain ⟨f', rfl⟩ : ∃ j, f' = j + 2 := ⟨f' - 2, by omega⟩
    have hXc := CX_fr hX fe ft
    have hXc' := hXc
    obtain ⟨hB, hG, ⟨x9, x10, x11, x7, x1⟩, hal, ⟨z1, z2, z3, z4⟩, hA⟩ := hXc'
    obtain ⟨⟨hw, hh, hnb⟩, ⟨s0, s1, s2, s3, s4, s5, s6⟩, ⟨t1, t2, t4, t3⟩, hbl, -⟩ := hB
    have h25 := wh25 hw.1 hh.1
    have ob : okx (nI b) 8 = true := okx_nI (by omega) (by omega)
    have eo : ormx wl (upd m b cur) b nb = ormx wl m b nb := ormx_congr (fun k hk hkb => pk_un hkb)
    have hm : f_X0_moved N σ cur (nI way) (ormx wl m b nb) = some (stp w h way cur (ormx wl m b nb)) := moved_ok (h := h) (way := way) N s0 s2 s3 s4 s5 hy cur (ormx wl m b nb)
    have hcb : τ.2.1 10 b = cur := by rw [t10 b (by omega), pk_us]
    have hci : inb cur (w * h) := by have := (hg.1 b hb).1; rw [pk_us] at this; exact this
    have hs : f_X7_stepped_a11 N τ (nI b) (nI way) = some (stp w h way cur (ormx wl m b nb)) := by
      have := stepped_a11_ok (N := N) (by omega) t1 t2 hw hh hy hnb t4 (show b < 8 by omega) (by rw [hcb]; exact hci)
      rw [this, hcb, t3, x7]
      congr 2
      rw [← eo]
      exact ormx_congr (fun k hk _ => t10 k (by omega))
    have er : jrem (nI (4 * b + way)) 4 = nI way := by
      unfold jrem
      rw [show (4 : Int32) = nI 4 from rfl, pk_rem (by omega) (by omega) (by omega)]
      congr 1
      omega
    have nle : ¬ σ.1 10 < nI t := by
      rw [x10]
      refine nI_nlt ?_ ?_
      · by_cases q : me = 0
        · rw [if_pos q, ht0 q]; exact Nat.le_refl _
        · rw [if_neg q]; exact ht5
      · by_cases q : me = 0
        · rw [if_pos q]; omega
        · rw [if_neg q]; omega
    have r7 : ∀ (ρ : St) (v : Int32), (sA ρ 7 (nI b) v).2.1 7 = upd (ρ.2.1 7) b v := fun ρ v => sA_row _ _ _ _ (by omega)
    have hback : ∀ (ρ : St) (c : Int32), (∀ k, k < nb → ρ.2.1 7 k = plc (upd m b c k)) → ∀ k, k < nb → (sA ρ 7 (nI b) (plc (m b))).2.1 7 k = plc (m k) := by
      intro ρ c hρ k hk
      rw [r7]
      by_cases d : k = b
      · rw [d, pk_us]
      · rw [pk_un d, hρ k hk, pk_un d]
    have cl1 : lp_X1_tryWay_22 N (nI i) (nI b) (nI way) (ormx wl m b nb) (plc (m b)) (f + 2) σ cur 1 (nI t) = if stp w h way cur (ormx wl m b nb) = 0 then some (1, sA σ 7 (nI b) (plc (m b))) else bd1 (f_X0_leastCell N σ (stp w h way cur (ormx wl m b nb))) (fun r6 => gd (okx (nI b) 8) (nm (sA σ 7 (nI b) r6) (fun σ7 => bd (f_X1_offer N σ7 (nI i) ((((32 : Int32) * nI t) + ((4 : Int32) * nI b)) + nI way)) (fun r8 σ9 => nm (nI t + (1 : Int32)) (fun y10 => lp_X1_tryWay_22 N (nI i) (nI b) (nI way) (ormx wl m b nb) (plc (m b)) (f + 1) σ9 (stp w h way cur (ormx wl m b nb)) r8 y10))))) := by
      rw [lp_X1_tryWay_22, if_neg nle, if_pos rfl, hm, bd1_some]
      by_cases q : stp w h way cur (ormx wl m b nb) = 0
      · rw [if_pos q, if_pos q, gd_t ob, nm_eq]
      · rw [if_neg q, if_neg q]
    have rf1 : lp_X7_spread_144 N (nI me) (nI most) (nI goal) (nI i) (nI (4 * b + way)) (nI b) KR (f' + 2) τ 1 (nI t) = jn_X7_spread_180 N τ (nI me) (nI most) (nI goal) (nI i) (nI (4 * b + way)) (nI b) (nI t) (stp w h way cur (ormx wl m b nb)) (if stp w h way cur (ormx wl m b nb) = 0 then 0 else nI me) (fun v0 v1 v2 => lp_X7_spread_144 N (nI me) (nI most) (nI goal) (nI i) (nI (4 * b + way)) (nI b) KR (f' + 1) v0 v1 v2) := by
      rw [lp_X7_spread_144, if_neg (show ¬ (1 : Int32) = 0 by decide), er, hs, bd1_some]
      by_cases q : stp w h way cur (ormx wl m b nb) = 0
      · rw [if_pos q, if_pos q]; rfl
      · rw [if_neg q, if_neg q]
        rcases (show me = 0 ∨ me = 1 by omega) with d | d
        · rw [d, if_neg (show ¬ nI 0 = 1 by decide)]; rfl
        · rw [d, if_pos (show nI 1 = 1 from rfl)]; rfl
    have rst : ∀ (ρ : St) (x8 : Int32), lp_X7_spread_144 N (nI me) (nI most) (nI goal) (nI i) (nI (4 * b + way)) (nI b) KR (f' + 1) ρ 0 x8 = KR ρ (nI (4 * b + way + 1)) := by
      intro ρ x8
      rw [lp_X7_spread_144, if_pos rfl, nm_eq, nI_1]
    rw [cl1, rf1]
    by_cases hz : stp w h way cur (ormx wl m b nb) = 0
    · left
      rw [if_pos hz, if_pos hz, hz, jn180z, rst]
      refine ⟨n, S, par, mov, _, τ, fe.tr (FE.o (a := 7) (by omega) (O1.sA _ _)), ft, ⟨SC_o (a := 7) (by omega) hV.1 (O1.sA _ _), hV.2⟩, Nat.le_refl _, fun j _ => rfl, hback σ cur h7, ?_, rfl, rfl⟩
      rw [sA_oth _ _ _ (by omega)]; exact h8
    · rw [if_neg hz, if_neg hz]
      have gz : stp w h way (upd m b cur b) (ormx wl (upd m b cur) b nb) = stp w h way cur (ormx wl m b nb) := by rw [pk_us, eo]
      have hstep := GS_step hw hh hy hb hnb hg (by rw [gz]; exact hz)
      rw [gz, upd_upd, pk_us] at hstep
      obtain ⟨hg2, hrm⟩ := hstep
      have hcz : cur ≠ 0 := by
        intro e
        obtain ⟨y1, -⟩ := stp_nz hz
        have hmz : mv w h way cur ≠ 0 := by rw [← y1]; exact hz
        obtain ⟨i', hi', hbi⟩ := nz_iff.mp hmz
        obtain ⟨c, hc, hbc, -⟩ := mv_bw hw hh hy hci hmz hi' hbi
        rw [e, b_0] at hbc
        cases hbc
      clear hm hs cl1 rf1 gz
      generalize stp w h way cur (ormx wl m b nb) = cur2 at *
      have hc2i : inb cur2 (w * h) := by have := (hg2.1 b hb).1; rw [pk_us] at this; exact this
      rw [leastCell_plc N σ (inb_mono hc2i h25), bd1_some, gd_t ob, nm_eq, jn180 _ _ _ _ _ _ _ _ (by omega) τ hz]
      have emv : (((32 : Int32) * nI t) + ((4 : Int32) * nI b)) + nI way = ((32 : Int32) * nI t) + nI (4 * b + way) := by
        rw [Int32.add_assoc, show (4 : Int32) * nI b = nI (4 * b) from pk_mul 4 b, nI_add]
      rw [emv, nI_1]
      have fe7 : FE σ (sA σ 7 (nI b) (plc cur2)) := FE.o (a := 7) (by omega) (O1.sA _ _)
      have ft10 : FT τ (sA τ 10 (nI b) cur2) := FT.o (a := 10) (by omega) (O1.sA _ _)
      have h7' : ∀ k, k < nb → (sA σ 7 (nI b) (plc cur2)).2.1 7 k = plc (upd m b cur2 k) := by
        intro k hk
        rw [r7]
        by_cases d : k = b
        · rw [d, pk_us, pk_us]
        · rw [pk_un d, pk_un d, h7 k hk, pk_un d]
      have t10' : ∀ k, k < 8 → (sA τ 10 (nI b) cur2).2.1 10 k = upd m b cur2 k := by
        intro k hk
        rw [sA_row _ _ _ _ (by omega)]
        by_cases d : k = b
        · rw [d, pk_us, pk_us]
        · rw [pk_un d, pk_un d, t10 k hk, pk_un d]
      have hV7 : IV w h nb most α B wl n S par mov (sA σ 7 (nI b) (plc cur2)) (sA τ 10 (nI b) cur2) := ⟨SC_o (a := 7) (by omega) hV.1 (O1.sA _ _), SR_o (a := 10) (by omega) hV.2.1 (O1.sA _ _), hV.2.2⟩
      have h87 : (sA σ 7 (nI b) (plc cur2)).2.1 8 = M8 := by rw [sA_oth _ _ _ (by omega)]; exact h8
      have hvn := hV.2.2.1
      -- going on from a state that both have
      have goon : ∀ (n1 : Nat) (S1 : Nat → Nat → Int32) (par1 mov1 : Nat → Int32) (σ1 τ1 : St), FO (sA σ 7 (nI b) (plc cur2)) σ1 → FN (sA τ 10 (nI b) cur2) τ1 → IV w h nb most α B wl n1 S1 par1 mov1 σ1 τ1 → n ≤ n1 → (∀ j, j < n → S1 j = S j) →
          (∃ n' S' par' mov' σ' τ', FE σ0 σ' ∧ FT τ0 τ' ∧ IV w h nb most α B wl n' S' par' mov' σ' τ' ∧ n ≤ n' ∧ (∀ j, j < n → S' j = S j) ∧ (∀ k, k < nb → σ'.2.1 7 k = plc (m k)) ∧ σ'.2.1 8 = M8 ∧ lp_X1_tryWay_22 N (nI i) (nI b) (nI way) (ormx wl m b nb) (plc (m b)) (f + 1) σ1 cur2 1 (nI (t + 1)) = some (1, σ') ∧ lp_X7_spread_144 N (nI me) (nI most) (nI goal) (nI i) (nI (4 * b + way)) (nI b) KR (f' + 1) τ1 (nI me) (nI (t + 1)) = KR τ' (nI (4 * b + way + 1))) ∨
          (∃ r rr σ' τ', r ≠ 1 ∧ FIN w h nb most α B wl σ0 τ0 r rr σ' τ' ∧ lp_X1_tryWay_22 N (nI i) (nI b) (nI way) (ormx wl m b nb) (plc (m b)) (f + 1) σ1 cur2 1 (nI (t + 1)) = some (r, σ') ∧ lp_X7_spread_144 N (nI me) (nI most) (nI goal) (nI i) (nI (4 * b + way)) (nI b) KR (f' + 1) τ1 (nI me) (nI (t + 1)) = some (rr, τ')) := by
        intro n1 S1 par1 mov1 σ1 τ1 fo fn hV1 hn1 hS1
        have fe1 := (fe.tr fe7).tr (FE.f fo)
        have ft1 := (ft.tr ft10).tr (FT.f fn)
        have g7 : ∀ k, k < nb → σ1.2.1 7 k = plc (upd m b cur2 k) := by rw [fo.2.1 7 (by omega)]; exact h7'
        have g8 : σ1.2.1 8 = M8 := by rw [fo.2.1 8 (by omega)]; exact h87
        have g10 : ∀ k, k < 8 → τ1.2.1 10 k = upd m b cur2 k := by rw [fn.2.1 10 (by omega)]; exact t10'
        rcases (show me = 0 ∨ me = 1 by omega) with d | d
        · left
          have e10 : σ1.1 10 = nI 1 := by
            rw [fe1.1 10 (by omega)]
            have := hX.2.2.1.2.1
            rw [this, if_pos d]
          refine ⟨n1, S1, par1, mov1, sA σ1 7 (nI b) (plc (m b)), τ1, fe1.tr (FE.o (a := 7) (by omega) (O1.sA _ _)), ft1, ⟨SC_o (a := 7) (by omega) hV1.1 (O1.sA _ _), hV1.2⟩, hn1, hS1, hback σ1 cur2 g7, by rw [sA_oth _ _ _ (by omega)]; exact g8, ?_, ?_⟩
          · rw [lp_X1_tryWay_22, e10, if_pos (nI_lt (by have := ht0 d; omega) (by omega)), gd_t ob, nm_eq]
          · rw [d]
            have := rst τ1 (nI (t + 1))
            rw [d] at this
            exact this
        · have hz2 : cur ≠ 0 := hcz
          obtain ⟨c, c1, c2, c3⟩ := hroom hz2
          obtain ⟨c', d1, d2, d3⟩ := hrm c c1 c2
          have ht1' := ht1 d
          have res := ih (r - 1) (by omega) (f + 1) (f' + 1) (t + 1) n1 S1 par1 mov1 cur2 σ1 τ1 fe1 ft1 hV1 (by omega) hg2 g7 g8 g10 (fun _ => ⟨c', d1, d2, by omega⟩) (fun _ => by omega) (fun q => by omega) (by omega) (by omega) (by omega)
          have em : nI me = 1 := by rw [d]; rfl
          rcases res with ⟨n', S', par', mov', σ', τ', q1, q2, q3, q4, q5, q6, q7, q8, q9⟩ | ⟨r', rr, σ', τ', q1, q2, q3, q4⟩
          · left
            refine ⟨n', S', par', mov', σ', τ', q1, q2, q3, by omega, fun j hj => (q5 j (by omega)).trans (hS1 j hj), q6, q7, q8, ?_⟩
            rw [← q9, em]
          · right
            refine ⟨r', rr, σ', τ', q1, q2, q3, ?_⟩
            rw [← q4, em]
      rcases both (N := N) hN (CX_fr hXc fe7 ft10) hV7 hg2 h7' t10' (nI i) ((32 : Int32) * nI t + nI (4 * b + way)) (Or.inr ⟨i, hin, rfl⟩) with ⟨σ1, τ1, f1, g1, hV1, -, e1, e2⟩ | ⟨σ1, τ1, f1, g1, -, hC1, e6, e1, e2⟩ | ⟨σ1, τ1, f1, g1, hV1, e1, e2, e3⟩ | ⟨σ1, τ1, f1, g1, hV1, eg, e1, e2, e3⟩
      · rw [e1, bd_some, nm_eq, e2, bd_some, if_pos rfl]
        exact goon n S par mov σ1 τ1 f1 g1 hV1 (Nat.le_refl _) (fun j _ => rfl)
      · right
        rw [e1, bd_some, nm_eq, e2, bd_some, if_neg (show ¬ (1 : Int32) = 0 by decide), e6, if_neg (nI_ge (by omega) (by omega)), way_out _ _ _ _ _ _ _ (by omega) _ (by decide)]
        refine ⟨-2, -2, _, τ1, by decide, ⟨((fe.tr fe7).tr (FE.f f1)).tr (FE.o (a := 7) (by omega) (O1.sA _ _)), (ft.tr ft10).tr (FT.f g1), Or.inr (Or.inl ⟨rfl, rfl, S, par, mov, SC_o (a := 7) (by omega) hC1 (O1.sA _ _)⟩)⟩, rfl, rfl⟩
      · have e6 : τ1.1 6 = nI (n + 1) := hV1.2.1.1
        have hm1 := hV1.2.2.1
        rw [e1, bd_some, nm_eq, e2, bd_some, if_neg (show ¬ (1 : Int32) = 0 by decide), e6, if_pos (nI_le (by omega) (by omega))]
        have e4 : (if nI goal = 0 then lp_X7_spread_144 N (nI me) (nI most) (nI goal) (nI i) (nI (4 * b + way)) (nI b) KR (f' + 1) τ1 (nI me) (nI (t + 1)) else bd1 (f_X7_openIn_a11 N τ1) (fun r14 => if 0 ≤ r14 then lp_X7_spread_144 N (nI me) (nI most) (nI goal) (nI i) (nI (4 * b + way)) (nI b) KR (f' + 1) τ1 (nI me) (nI (t + 1)) else some (nI (n + 1) - 1, τ1))) = lp_X7_spread_144 N (nI me) (nI most) (nI goal) (nI i) (nI (4 * b + way)) (nI b) KR (f' + 1) τ1 (nI me) (nI (t + 1)) := by
          rcases e3 with e3 | ⟨e3, g, hg6, e5⟩
          · rw [if_pos (by rw [e3]; rfl)]
          · rw [if_neg (by rw [e3]; decide), e5, bd1_some, if_pos (nI_pos' (by omega))]
        rw [e4]
        exact goon (n + 1) _ _ _ σ1 τ1 f1 g1 hV1 (by omega) (fun j hj => pu_o _ _ (by omega))
      · right
        have e6 : τ1.1 6 = nI (n + 1) := hV1.2.1.1
        have hm1 := hV1.2.2.1
        rw [e1, bd_some, nm_eq, e2, bd_some, if_neg (show ¬ (1 : Int32) = 0 by decide), e6, if_pos (nI_le (by omega) (by omega)), if_neg (by rw [eg]; decide), e3, bd1_some, if_neg (by decide), nI_pred, way_out _ _ _ _ _ _ _ (by omega) _ (by decide)]
        refine ⟨0, nI n, _, τ1, by decide, ⟨((fe.tr fe7).tr (FE.f f1)).tr (FE.o (a := 7) (by omega) (O1.sA _ _)), (ft.tr ft10).tr (FT.f g1), Or.inl ⟨rfl, n + 1, _, _, _, by omega, ⟨SC_o (a := 7) (by omega) hV1.1 (O1.sA _ _), hV1.2⟩, by rw [Nat.add_sub_cancel]⟩⟩, rfl, rfl⟩
