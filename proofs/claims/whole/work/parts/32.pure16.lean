/-! pure: left -/
theorem andn_bit (t l i : Nat) : (nI t &&& (nI l ^^^ (-1 : Int32))).toBitVec.getLsbD i = (decide (i < 32) && (t.testBit i && !l.testBit i)) := by
  show ((BitVec.ofNat 32 t) &&& ((BitVec.ofNat 32 l) ^^^ (BitVec.allOnes 32))).getLsbD i = _
  rw [BitVec.getLsbD_and, BitVec.getLsbD_xor, BitVec.getLsbD_ofNat, BitVec.getLsbD_ofNat, BitVec.getLsbD_allOnes]
  by_cases h : i < 32
  · simp [h]
  · simp [h]
theorem andn {t l : Nat} (ht : t < 128) : (nI t &&& (nI l ^^^ (-1 : Int32))) = 0 ↔ ∀ i, t.testBit i = true → l.testBit i = true := by
  constructor
  · intro h i hi
    have e := andn_bit t l i
    rw [h] at e
    have hlt : i < 32 := by
      by_cases hc : i < 32
      · exact hc
      · have : t < 2 ^ i := Nat.lt_of_lt_of_le ht (Nat.le_trans (show 128 ≤ 2 ^ 7 by decide) (Nat.pow_le_pow_right (by decide) (by omega)))
        rw [Nat.testBit_lt_two_pow this] at hi
        cases hi
    have z : (0 : Int32).toBitVec.getLsbD i = false := by
      show (0#32).getLsbD i = false
      simp
    rw [z, hi] at e
    simpa [hlt] using e
  · intro h
    apply Int32.toBitVec_inj.mp
    apply BitVec.eq_of_getLsbD_eq
    intro i hi
    rw [andn_bit]
    have z : (0 : Int32).toBitVec.getLsbD i = false := by
      show (0#32).getLsbD i = false
      simp
    rw [z]
    cases e : t.testBit i with
    | false => simp
    | true => simp [h i e]
theorem cnt_c16 : ∀ t, t < 128 → cnt t = c16 t 7 := by decide +kernel
theorem c16_top {t n : Nat} (h : t < 2 ^ n) : ∀ k, c16 t (n + k) = c16 t n
  | 0 => rfl
  | k + 1 => by
    show c16 t (n + k) + (if t.testBit (n + k) = true then 1 else 0) = _
    rw [c16_top h k, Nat.testBit_lt_two_pow (Nat.lt_of_lt_of_le h (Nat.pow_le_pow_right (by decide) (by omega)))]
    rfl
theorem cnt_n {t n : Nat} (hn : n ≤ 7) (h : t < 2 ^ n) : cnt t = c16 t n := by
  have h7 : t < 128 := Nat.lt_of_lt_of_le h (show 2 ^ n ≤ 2 ^ 7 from Nat.pow_le_pow_right (by decide) hn)
  rw [cnt_c16 t h7, show 7 = n + (7 - n) by omega, c16_top h]
theorem x_pow (σ : St) (b : Nat) {t : Nat} (ht : t ≤ 7) : ∀ (m n k : Nat), k + m = t → m < n → m_Fore_power_L4 n σ (nI b) (nI t) (nI (b ^ k)) (nI k) = some (nI (b ^ t), σ) := by
  intro m
  induction m with
  | zero =>
    intro n k hk hn
    obtain ⟨n, rfl⟩ : ∃ k, n = k + 1 := ⟨n - 1, by omega⟩
    show m_Fore_power_B4 (m_Fore_power_L4 n) σ _ _ _ _ = _
    unfold m_Fore_power_B4
    rw [ile (by omega) (by omega), if_pos (by omega), show k = t by omega]
  | succ m ih =>
    intro n k hk hn
    obtain ⟨n, rfl⟩ : ∃ k, n = k + 1 := ⟨n - 1, by omega⟩
    show m_Fore_power_B4 (m_Fore_power_L4 n) σ _ _ _ _ = _
    unfold m_Fore_power_B4
    rw [ile (by omega) (by omega), if_neg (by omega), nm_i, mu_n, ad_1, ← Nat.pow_succ]
    exact ih n (k + 1) (by omega) (by omega)
theorem x_power (σ : St) (b : Nat) {t : Nat} (ht : t ≤ 7) : m_Fore_power σ (nI b) (nI t) = some (nI (b ^ t), σ) := x_pow σ b ht t FU 0 (by omega) (fu_lt (by omega))
theorem half {a b : Nat} (hr : 0 < a % b) : 2 * (b % (a % b)) < b + 0 * a ∨ b = 0 := by
  by_cases hb : b = 0
  · exact Or.inr hb
  · left
    have h1 : a % b < b := Nat.mod_lt _ (by omega)
    have h2 : b % (a % b) < a % b := Nat.mod_lt _ hr
    have h3 := Nat.div_add_mod b (a % b)
    have h4 : 1 ≤ b / (a % b) := (Nat.one_le_div_iff hr).mpr (by omega)
    have h5 : a % b ≤ a % b * (b / (a % b)) := Nat.le_mul_of_pos_right _ h4
    omega
theorem x_gcd (σ : St) : ∀ (j a b k n : Nat), a < 2147483648 → b < 2147483648 → b < 2 ^ j → k + 2 * j ≤ 99 → 2 * j < n → m_Fore_commonDivisor_L7 n σ (nI a) (nI b) (nI k) = some (nI (Nat.gcd a b), σ) := by
  have stop : ∀ (a k n : Nat), m_Fore_commonDivisor_L7 (n + 1) σ (nI a) (nI 0) (nI k) = some (nI (Nat.gcd a 0), σ) := by
    intro a k n
    show m_Fore_commonDivisor_B7 (m_Fore_commonDivisor_L7 n) σ _ _ _ = _
    unfold m_Fore_commonDivisor_B7
    rw [Nat.gcd_zero_right, if_pos (show nI 0 ≤ (0 : Int32) by decide)]
    split <;> rfl
  have step : ∀ (a b k n : Nat), a < 2147483648 → 0 < b → b < 2147483648 → k < 100 → m_Fore_commonDivisor_L7 (n + 1) σ (nI a) (nI b) (nI k) = m_Fore_commonDivisor_L7 n σ (nI b) (nI (a % b)) (nI (k + 1)) := by
    intro a b k n ha h0 hb hk
    show m_Fore_commonDivisor_B7 (m_Fore_commonDivisor_L7 n) σ _ _ _ = _
    unfold m_Fore_commonDivisor_B7
    rw [li_100, ile (by omega) (by omega), if_neg (by omega), li_0, ile (by omega) (by omega), if_neg (by omega), nz_n h0 hb, nm_i, rm_n ha h0 hb, ad_1]
  intro j
  induction j with
  | zero =>
    intro a b k n ha hb hj hk hn
    obtain ⟨n, rfl⟩ : ∃ k, n = k + 1 := ⟨n - 1, by omega⟩
    have : b = 0 := by simpa using hj
    rw [this]
    exact stop a k n
  | succ j ih =>
    intro a b k n ha hb hj hk hn
    obtain ⟨n, rfl⟩ : ∃ k, n = k + 2 := ⟨n - 2, by omega⟩
    by_cases h0 : b = 0
    · rw [h0]
      exact stop a k _
    · rw [step a b k (n + 1) ha (by omega) hb (by omega), Nat.gcd_comm a b, Nat.gcd_rec b a, Nat.gcd_comm (a % b) b]
      have hm : a % b < b := Nat.mod_lt _ (by omega)
      by_cases h1 : a % b = 0
      · rw [h1]
        exact stop b _ _
      · rw [step b (a % b) (k + 1) n hb (by omega) (by omega) (by omega), Nat.gcd_comm b (a % b), Nat.gcd_rec (a % b) b, Nat.gcd_comm (b % (a % b)) (a % b)]
        rw [Nat.pow_succ] at hj
        rcases half (a := a) (b := b) (by omega) with hh | hh
        · exact ih (a % b) (b % (a % b)) (k + 1 + 1) n (by omega) (by omega) (by omega) (by omega) (by omega)
        · exact absurd hh h0
theorem m_gcd (μ : St) (x3 x5 x6 : Int32) : ∀ (j a b n : Nat), a < 2147483648 → b < 2147483648 → b < 2 ^ j → 2 * j < n → m_M_left_L256 n μ x3 x5 x6 (nI a) (nI b) = m_M_left_B279 μ x3 x5 x6 (nI (Nat.gcd a b)) := by
  have stop : ∀ (a n : Nat), m_M_left_L256 (n + 1) μ x3 x5 x6 (nI a) (nI 0) = m_M_left_B279 μ x3 x5 x6 (nI (Nat.gcd a 0)) := by
    intro a n
    show m_M_left_B256 (m_M_left_L256 n) μ _ _ _ _ _ = _
    unfold m_M_left_B256
    rw [Nat.gcd_zero_right, if_pos (show nI 0 = (0 : Int32) by decide)]
  have step : ∀ (a b n : Nat), a < 2147483648 → 0 < b → b < 2147483648 → m_M_left_L256 (n + 1) μ x3 x5 x6 (nI a) (nI b) = m_M_left_L256 n μ x3 x5 x6 (nI b) (nI (a % b)) := by
    intro a b n ha h0 hb
    show m_M_left_B256 (m_M_left_L256 n) μ _ _ _ _ _ = _
    unfold m_M_left_B256
    rw [li_0, ieq (by omega) (by omega), if_neg (by omega), nz_n h0 hb, nm_i, rm_n ha h0 hb]
  intro j
  induction j with
  | zero =>
    intro a b n ha hb hj hn
    obtain ⟨n, rfl⟩ : ∃ k, n = k + 1 := ⟨n - 1, by omega⟩
    have : b = 0 := by simpa using hj
    rw [this]
    exact stop a n
  | succ j ih =>
    intro a b n ha hb hj hn
    obtain ⟨n, rfl⟩ : ∃ k, n = k + 2 := ⟨n - 2, by omega⟩
    by_cases h0 : b = 0
    · rw [h0]
      exact stop a _
    · rw [step a b (n + 1) ha (by omega) hb, Nat.gcd_comm a b, Nat.gcd_rec b a, Nat.gcd_comm (a % b) b]
      have hm : a % b < b := Nat.mod_lt _ (by omega)
      by_cases h1 : a % b = 0
      · rw [h1]
        exact stop b _
      · rw [step b (a % b) n hb (by omega) (by omega), Nat.gcd_comm b (a % b), Nat.gcd_rec (a % b) b, Nat.gcd_comm (b % (a % b)) (a % b)]
        rw [Nat.pow_succ] at hj
        rcases half (a := a) (b := b) (by omega) with hh | hh
        · exact ih (a % b) (b % (a % b)) n (by omega) (by omega) (by omega) (by omega)
        · exact absurd hh h0
/-- the pins in the tray by night -/
def tset (A : Bt) : Nat := bset (fun p => decide (A 5 p ≠ 5)) (A 0 1)
def wgt (c T l n : Nat) : Nat := c ^ c16 l n * (10 - c) ^ (c16 T n - c16 l n)
def heldP (A : Bt) (l c : Nat) : Prop := ∃ p, p < A 0 1 ∧ l.testBit p = false ∧ opnL l (A 0 1) 0 A 6 p = c
theorem wgt_le {c T l n : Nat} (hc : c ≤ 10) (hn : n ≤ 7) (hs : ∀ i, l.testBit i = true → T.testBit i = true) : wgt c T l n ≤ 10000000 := by
  unfold wgt
  have h1 := c16_le T n
  have h2 := c16_mono hs n
  have a1 : c ^ c16 l n ≤ 10 ^ c16 l n := Nat.pow_le_pow_left hc _
  have a2 : (10 - c) ^ (c16 T n - c16 l n) ≤ 10 ^ (c16 T n - c16 l n) := Nat.pow_le_pow_left (by omega) _
  refine Nat.le_trans (Nat.mul_le_mul a1 a2) ?_
  rw [← Nat.pow_add]
  exact Nat.le_trans (Nat.pow_le_pow_right (by decide) (show c16 l n + (c16 T n - c16 l n) ≤ 7 by omega)) (by decide)
theorem m_ways {A : Bt} {μ : St} (hM : RM (μ 6) A (plc A)) (hW : WF A) {T l c : Nat} (hT : T < 128) (hl : l < 128) (hc : c ≤ 10) (hs : ∀ i, l.testBit i = true → T.testBit i = true) (r : St → Int32 → Int32 → Int32 → Int32 → Int32 → Int32 → Int32 → Rt) (x1 x3 x5 x6 : Int32) : ∀ (m n p : Nat), p + m = A 0 1 → m < n → m_M_left_L127 r n μ x1 (nI c) x3 (nI T) x5 x6 (nI l) (nI (wgt c T l p)) (nI p) = m_M_left_B181 r μ x1 (nI c) x3 (nI T) x5 x6 (nI l) (nI (wgt c T l (A 0 1))) := by
  have w1 := hW.2.1
  have hb : ∀ t : Rt, bd (2 : Int32) 64 t = t := fun t => bd_n (n := 2) (by omega) (by omega)
  intro m
  induction m with
  | zero =>
    intro n p hp hn
    obtain ⟨n, rfl⟩ : ∃ k, n = k + 1 := ⟨n - 1, by omega⟩
    show m_M_left_B127 r (m_M_left_L127 r n) μ _ _ _ _ _ _ _ _ _ = _
    unfold m_M_left_B127
    rw [hw6, hb, show (2 : Int32).toNatClampNeg = 2 from rfl, hM.2.2.1, ile (by omega) (by omega), if_pos (by omega), show p = A 0 1 by omega]
  | succ m ih =>
    intro n p hp hn
    obtain ⟨n, rfl⟩ : ∃ k, n = k + 1 := ⟨n - 1, by omega⟩
    show m_M_left_B127 r (m_M_left_L127 r n) μ _ _ _ _ _ _ _ _ _ = _
    unfold m_M_left_B127 m_M_left_B172
    have h2 := c16_mono hs p
    rw [hw6, hb, show (2 : Int32).toNatClampNeg = 2 from rfl, hM.2.2.1, ile (by omega) (by omega), if_neg (by omega), m_has μ hT (by omega), bnd_s]
    simp only [nm_i]
    rw [ad_1, ← ih n (p + 1) (by omega) (by omega)]
    by_cases eT : T.testBit p = true
    · rw [if1 eT, m_has μ hl (by omega), bnd_s]
      by_cases el : l.testBit p = true
      · rw [if1 el, mu_n, show wgt c T l (p + 1) = wgt c T l p * c from ?_]
        unfold wgt
        show c ^ (c16 l p + (if l.testBit p = true then 1 else 0)) * (10 - c) ^ (c16 T p + (if T.testBit p = true then 1 else 0) - (c16 l p + (if l.testBit p = true then 1 else 0))) = _
        rw [if_pos el, if_pos eT, Nat.pow_succ, show c16 T p + 1 - (c16 l p + 1) = c16 T p - c16 l p by omega, Nat.mul_right_comm]
      · rw [if0 el, li_10, sb_n hc, mu_n, show wgt c T l (p + 1) = wgt c T l p * (10 - c) from ?_]
        unfold wgt
        show c ^ (c16 l p + (if l.testBit p = true then 1 else 0)) * (10 - c) ^ (c16 T p + (if T.testBit p = true then 1 else 0) - (c16 l p + (if l.testBit p = true then 1 else 0))) = _
        rw [if_neg el, if_pos eT, show c16 T p + 1 - (c16 l p + 0) = (c16 T p - c16 l p) + 1 by omega, Nat.pow_succ, Nat.add_zero, Nat.mul_assoc]
    · rw [if0 eT, li_1, mu_n, show wgt c T l (p + 1) = wgt c T l p * 1 from ?_]
      have el : ¬ l.testBit p = true := fun z => eT (hs p z)
      unfold wgt
      show c ^ (c16 l p + (if l.testBit p = true then 1 else 0)) * (10 - c) ^ (c16 T p + (if T.testBit p = true then 1 else 0) - (c16 l p + (if l.testBit p = true then 1 else 0))) = _
      rw [if_neg el, if_neg eT, Nat.mul_one, Nat.add_zero, Nat.add_zero]
/-- the reference's night: whatever was so, all but whales are in the tray -/
theorem m_night {A : Bt} {μ : St} (h6 : RM (μ 6) A (plc A)) (hM : RM (μ 8) A (plc A)) (hW : WF A) (k : St → Rt) : ∃ μ' v, bd (4 : Int32) 64 (if μ 6 (4 : Int32).toNatClampNeg = (1 : Int32) then bnd (m_M_closes 8 μ) (fun v3 σ4 => k σ4) else k μ) = k μ' ∧ RM (μ' 8) (ub A 0 5 0) v ∧ FrM 8 μ μ' ∧ ∀ q, q < A 0 1 → v q = if A 5 q ≠ 5 then -1000000 else nI (A 6 q) := by
  have w5 := hW.2.2.2.2.1
  rw [li_4, bd_n (by omega) (by omega), cl_n (by omega), h6.2.2.2.2.1, li_1, ieq (by omega) (by omega)]
  by_cases hd : A 0 5 = 1
  · rw [if_pos hd]
    obtain ⟨μ1, e1, r1, f1⟩ := m_closes hw8 hM hW
    rw [e1, bnd_s]
    refine ⟨μ1, _, rfl, r1, f1, fun q hq => ?_⟩
    show (if q < A 0 1 ∧ A 5 q ≠ 5 then (-1000000 : Int32) else plc A q) = _
    by_cases h5 : A 5 q ≠ 5
    · rw [if_pos ⟨hq, h5⟩, if_pos h5]
    · rw [if_neg (fun z => h5 z.2), if_neg h5, plc_day hd]
  · rw [if_neg hd]
    refine ⟨μ, plc A, rfl, ?_, FrM.rf 8 μ, fun q hq => ?_⟩
    · rw [show ub A 0 5 0 = A from by
        have e0 : A 0 5 = 0 := by omega
        have := ub_self A 0 5
        rwa [e0] at this]
      exact hM
    · unfold plc
      by_cases h5 : A 5 q ≠ 5
      · rw [if_pos ⟨by omega, h5⟩, if_pos h5]
      · rw [if_neg (fun z => h5 z.2), if_neg h5]
theorem x_held {A : Bt} {σ μ : St} (h : RelB A σ μ) (hW : WF A) {l c : Nat} (hl : l < 128) (hc : c < A 0 0) : ∃ σ', m_Fore_isHeld σ (nI c) (nI l) = some (@ite Int32 (heldP A l c) (Classical.propDecidable _) 1 0, σ') ∧ Fr 28 σ σ' := by
  have w0 := hW.1
  have w1 := hW.2.1
  obtain ⟨σ1, e1, r1, f1⟩ := x_take (b := 28) h.2.1 hW (by omega)
  obtain ⟨σ2, e2, r2, f2⟩ := x_open r1 hW hl
  have hWo := hW.opn l
  refine ⟨σ2, ?_, f1.tr f2⟩
  unfold m_Fore_isHeld
  rw [e1, bnd_s, e2, bnd_s, x_pinsIn r2 hWo, bnd_s, vB_0, vB_1]
  have d1 : opnB A l 0 1 = A 0 1 := opn_dim A l 1 (by omega)
  have d0 : opnB A l 0 0 = A 0 0 := opn_dim A l 0 (by omega)
  have hbs : bset (fun p => decide (plc (opnB A l) p = nI c)) (opnB A l 0 1) < 128 := bset_7 _ (by omega)
  have e6 : ∀ p, opnB A l 6 p = opnL l (A 0 1) 0 A 6 p := fun p => by
    unfold opnB
    rw [ub_v, if_neg (by omega)]
  have hp : ∀ p, (bset (fun p => decide (plc (opnB A l) p = nI c)) (opnB A l 0 1)).testBit p = true ↔ p < A 0 1 ∧ opnL l (A 0 1) 0 A 6 p = c := by
    intro p
    rw [bset_test, d1, plc_day (opn_day A l), e6]
    simp only [Bool.and_eq_true, decide_eq_true_eq]
    constructor
    · rintro ⟨a, b⟩
      have hla := hWo.last (p := p) (by omega)
      rw [e6] at hla
      exact ⟨a, (nI_eq (by omega) (by omega)).mp b⟩
    · rintro ⟨a, b⟩
      exact ⟨a, by rw [b]⟩
  have hn := andn (l := l) hbs
  by_cases hh : heldP A l c
  · rw [if_neg (fun z => ?_), if_pos hh]
    obtain ⟨p, a, b, d⟩ := hh
    have := hn.mp z p ((hp p).mpr ⟨a, d⟩)
    rw [b] at this
    cases this
  · rw [if_pos (hn.mpr (fun p z => ?_)), if_neg hh]
    obtain ⟨a, b⟩ := (hp p).mp z
    cases e : l.testBit p with
    | true => rfl
    | false => exact absurd ⟨p, a, e, b⟩ hh
theorem m_held {A : Bt} {μ : St} (h6 : RM (μ 6) A (plc A)) (hW : WF A) {l c : Nat} (hl : l < 128) (hc : c < A 0 0) (hs : ∀ i, l.testBit i = true → (tset A).testBit i = true) (r : St → Int32 → Int32 → Int32 → Int32 → Int32 → Int32 → Int32 → Rt) (x2 x3 x4 x5 x6 x8 : Int32) : ∃ μ', m_M_left_B181 r μ (nI c) x2 x3 x4 x5 x6 (nI l) x8 = r μ' (nI c) x2 x3 x4 (@ite Int32 (heldP A l c) (Classical.propDecidable _) (x5 + x8) (x5 + 0)) x6 (nI (l + 1)) ∧ FrM 8 μ μ' := by
  have w0 := hW.1
  have w1 := hW.2.1
  unfold m_M_left_B181
  obtain ⟨μ1, e, f, g⟩ := m_copies (w1 := 6) (w2 := 8) (a := 0) (c := 0) (by show 0 + 64 ≤ 64; omega) (by show 0 + 64 ≤ 64; omega) (by decide) (by decide) (by decide) μ
  rw [li_0, e, bnd_s, ← li_0, hw6]
  have h61 : RM (μ1 6) A (plc A) := by rw [f 6 (by omega)]; exact h6
  have h81 : RM (μ1 8) A (plc A) := h6.cg hW (fun i hi => by rw [g i, if_pos (by omega)]; exact congrArg (μ 6) (by omega))
  obtain ⟨μ2, v, e2, r2, f2, hv⟩ := m_night h61 h81 hW (fun s => m_M_left_B211 r s (nI c) x2 x3 x4 x5 x6 (nI l) x8)
  have hWn : WF (ub A 0 5 0) := hW.day (by omega)
  rw [e2]
  unfold m_M_left_B211 m_M_left_B239 m_M_left_B242
  obtain ⟨μ3, e3, r3, f3⟩ := m_opens hw8 hl r2 hWn (fun q hq => by
    have hq' : q < A 0 1 := hq
    rw [hv q hq']
    by_cases h5 : A 5 q ≠ 5
    · rw [if_pos h5]
      exact Or.inl rfl
    · rw [if_neg h5]
      exact Or.inr ⟨A 6 q, hW.last hq', rfl⟩)
  have hd1 : ub (opnB (ub A 0 5 0) l) 0 4 (min 999999 ((ub A 0 5 0) 0 4 + yvL (opnB (ub A 0 5 0) l) (opv (ub A 0 5 0) l v ((ub A 0 5 0) 0 1) 0) ((ub A 0 5 0) 0 1) 0)) 0 1 = A 0 1 := by
    rw [ub_v, if_neg (by omega), opn_dim _ l 1 (by omega)]
    rfl
  have hic := m_inCell7 hw8 r3 (by rw [hd1]; omega) (nI c)
  rw [hd1] at hic
  rw [e3, bnd_s, hic, bnd_s]
  refine ⟨μ3, ?_, f.tr (f2.tr f3)⟩
  have hD : Dq A (ub A 0 5 0) := Dq_ub A (Or.inr (Or.inr rfl)) 0
  have hp : ∀ p, p < A 0 1 → (opv (ub A 0 5 0) l v ((ub A 0 5 0) 0 1) 0 p = nI c ↔ l.testBit p = false ∧ opnL l (A 0 1) 0 A 6 p = c) := by
    intro p hp
    have e1 : (ub A 0 5 0) 0 1 = A 0 1 := rfl
    have e5 : (ub A 0 5 0) 5 p = A 5 p := hD 5 p (by omega)
    have eo : opnL l (A 0 1) 0 (ub A 0 5 0) 6 p = opnL l (A 0 1) 0 A 6 p := opnL_D l _ _ _ _ hD 6 p (by omega)
    have hlo : opnL l (A 0 1) 0 A 6 p < A 0 0 := by
      have z := (WF.opnL (left := l) (m := A 0 1) (p := 0) hW (by omega))
      have hL := L6_opn l (A 0 1) 0 A
      have y := z.last (p := p) (by rw [hL 0 1 (by decide)]; exact hp)
      rw [hL 0 0 (by decide)] at y
      exact y
    unfold opv
    rw [e1, e5, eo]
    by_cases hw5 : A 5 p = 5
    · rw [if_neg (fun z => z.2.2.2 hw5), hv p hp, if_neg (fun z => z hw5)]
      have hlf : l.testBit p = false := by
        cases e : l.testBit p with
        | false => rfl
        | true =>
          have z := hs p e
          unfold tset at z
          rw [bset_test] at z
          simp [hw5] at z
      have ew : opnL l (A 0 1) 0 A 6 p = A 6 p := opn_whale l _ _ A hw5
      have hla := hW.last hp
      rw [eq_n (by omega) (by omega), ew]
      exact ⟨fun z => ⟨hlf, z⟩, fun z => z.2⟩
    · cases e : l.testBit p with
      | false =>
        rw [if_pos ⟨by omega, by omega, rfl, hw5⟩, eq_n (by omega) (by omega)]
        exact ⟨fun z => ⟨rfl, z⟩, fun z => z.2⟩
      | true =>
        rw [if_neg (fun z => by cases z.2.2.1), hv p hp, if_pos hw5]
        exact ⟨fun z => absurd z (neg_n' (by omega)), fun z => by cases z.1⟩
  have hbs : bset (fun p => decide (opv (ub A 0 5 0) l v ((ub A 0 5 0) 0 1) 0 p = nI c)) (A 0 1) < 128 := bset_7 _ w1
  have hz : (nI (bset (fun p => decide (opv (ub A 0 5 0) l v ((ub A 0 5 0) 0 1) 0 p = nI c)) (A 0 1)) ≤ 0) ↔ ¬ heldP A l c := by
    rw [li_0, le_n (by omega) (by omega)]
    constructor
    · intro z hh
      obtain ⟨p, a, b, d⟩ := hh
      have e0 : bset (fun p => decide (opv (ub A 0 5 0) l v ((ub A 0 5 0) 0 1) 0 p = nI c)) (A 0 1) = 0 := by omega
      have t := bset_test (fun p => decide (opv (ub A 0 5 0) l v ((ub A 0 5 0) 0 1) 0 p = nI c)) (A 0 1) p
      rw [e0, Nat.zero_testBit] at t
      simp [a, (hp p a).mpr ⟨b, d⟩] at t
    · intro hh
      have e0 : bset (fun p => decide (opv (ub A 0 5 0) l v ((ub A 0 5 0) 0 1) 0 p = nI c)) (A 0 1) = 0 := by
        apply Nat.eq_of_testBit_eq
        intro p
        rw [bset_test, Nat.zero_testBit]
        by_cases hpn : p < A 0 1
        · have : ¬ opv (ub A 0 5 0) l v ((ub A 0 5 0) 0 1) 0 p = nI c := fun z => hh ⟨p, hpn, (hp p hpn).mp z⟩
          simp [this]
        · simp [hpn]
      omega
  simp only [nm_i]
  rw [ad_1]
  by_cases hh : heldP A l c
  · rw [if_neg (fun z => hz.mp z hh), if_pos hh]
  · rw [if_pos (hz.mpr hh), if_neg hh]
