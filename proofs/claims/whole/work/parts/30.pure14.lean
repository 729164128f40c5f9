/-! pure: right -/
def c16 (t : Nat) : Nat → Nat
  | 0 => 0
  | k + 1 => c16 t k + (if t.testBit k then 1 else 0)
theorem and_nI (a b : Nat) : nI a &&& nI b = nI (a &&& b) := by
  apply Int32.toBitVec_inj.mp
  rw [Int32.toBitVec_and]
  show BitVec.ofNat 32 a &&& BitVec.ofNat 32 b = BitVec.ofNat 32 (a &&& b)
  exact (BitVec.ofNat_and).symm
theorem land8 {a b m k : Nat} (hb : b < 256) (hk : k < 256) : (256 * a + b) &&& (256 * m + k) = 256 * (a &&& m) + (b &&& k) := by
  apply Nat.eq_of_testBit_eq
  intro i
  have hbk : b &&& k < 2 ^ 8 := Nat.lt_of_le_of_lt Nat.and_le_left hb
  rw [Nat.testBit_and, show (256 : Nat) = 2 ^ 8 from rfl, Nat.testBit_two_pow_mul_add _ (show b < 2 ^ 8 from hb), Nat.testBit_two_pow_mul_add _ (show k < 2 ^ 8 from hk), Nat.testBit_two_pow_mul_add _ hbk]
  split
  · rw [Nat.testBit_and]
  · rw [Nat.testBit_and]
theorem shr_n {t s : Nat} (ht : t < 4294967296) : (BitVec.ofNat 32 t) >>> s = BitVec.ofNat 32 (t / 2 ^ s) := by
  apply BitVec.eq_of_toNat_eq
  have h2 : t / 2 ^ s ≤ t := Nat.div_le_self t _
  rw [BitVec.toNat_ushiftRight, BitVec.toNat_ofNat, BitVec.toNat_ofNat, Nat.shiftRight_eq_div_pow, Nat.mod_eq_of_lt (by omega), Nat.mod_eq_of_lt (by omega)]
def sh_ (x s : Int32) : Int32 := (x.toUInt32 >>> (s.toUInt32 &&& Int32.toUInt32 31)).toInt32
theorem sh1 {t : Nat} (ht : t < 4294967296) : sh_ (nI t) 1 = nI (t / 2) := Int32.toBitVec_inj.mp (shr_n (s := 1) ht)
theorem sh2 {t : Nat} (ht : t < 4294967296) : sh_ (nI t) 2 = nI (t / 4) := Int32.toBitVec_inj.mp (shr_n (s := 2) ht)
theorem sh4 {t : Nat} (ht : t < 4294967296) : sh_ (nI t) 4 = nI (t / 16) := Int32.toBitVec_inj.mp (shr_n (s := 4) ht)
theorem sh8 {t : Nat} (ht : t < 4294967296) : sh_ (nI t) 8 = nI (t / 256) := Int32.toBitVec_inj.mp (shr_n (s := 8) ht)
theorem sh16 {t : Nat} (ht : t < 4294967296) : sh_ (nI t) 16 = nI (t / 65536) := Int32.toBitVec_inj.mp (shr_n (s := 16) ht)
def bs1 (x : Int32) : Int32 := x - (sh_ x 1 &&& (1431655765 : Int32))
def bs2 (y : Int32) : Int32 := (y &&& (858993459 : Int32)) + (sh_ y 2 &&& (858993459 : Int32))
def bs3 (y : Int32) : Int32 := (y + sh_ y 4) &&& (252645135 : Int32)
def bs4 (y : Int32) : Int32 := y + sh_ y 8
def bs5 (y : Int32) : Int32 := y + sh_ y 16
theorem bcnt_r (x : Int32) : bcnt x = bs5 (bs4 (bs3 (bs2 (bs1 x)))) &&& (63 : Int32) := rfl
def bp (x : Nat) : Nat := x - (x / 2 &&& 85)
def bq (x : Nat) : Nat := (x &&& 51) + (x / 4 &&& 51)
def br (x : Nat) : Nat := (x + x / 16) &&& 15
theorem bk0 : ∀ x, x < 256 → x - (x / 2 &&& 5592405) = bp x ∧ bp x < 256 ∧ bp x &&& 3355443 = bp x &&& 51 ∧ bp x / 4 &&& 3355443 = bp x / 4 &&& 51 ∧ bq (bp x) ≤ 68 ∧ bq (bp x) % 16 ≤ 4 ∧ br (bq (bp x)) ≤ 8 ∧ br (bq (bp x)) = c16 x 8 := by decide +kernel
theorem bk1 : ∀ e, e < 2 → ∀ b, b < 256 → (128 * e + b / 2) &&& 85 = b / 2 &&& 85 := by decide +kernel
theorem bk2 : ∀ e, e < 4 → ∀ b, b < 256 → (64 * e + b / 4) &&& 51 = b / 4 &&& 51 := by decide +kernel
theorem bk3 : ∀ e, e ≤ 4 → ∀ x, x ≤ 68 → (x + 16 * e + x / 16) &&& 15 = br x ∧ (x + x / 16) &&& 986895 = br x := by decide +kernel
theorem bk4 : ∀ z, z ≤ 16 → z &&& 63 = z := by decide +kernel
theorem c16_lo {a b : Nat} (hb : b < 256) : ∀ k, k ≤ 8 → c16 (256 * a + b) k = c16 b k
  | 0, _ => rfl
  | k + 1, h => by
    unfold c16
    rw [c16_lo hb k (by omega), show (256 : Nat) = 2 ^ 8 from rfl, Nat.testBit_two_pow_mul_add _ (show b < 2 ^ 8 from hb), if_pos (show k < 8 by omega)]
theorem c16_hi {a b : Nat} (hb : b < 256) : ∀ k, c16 (256 * a + b) (8 + k) = c16 b 8 + c16 a k
  | 0 => c16_lo hb 8 (by omega)
  | k + 1 => by
    show c16 (256 * a + b) (8 + k) + (if (256 * a + b).testBit (8 + k) = true then 1 else 0) = c16 b 8 + (c16 a k + (if a.testBit k = true then 1 else 0))
    rw [c16_hi hb k, show (256 : Nat) = 2 ^ 8 from rfl, Nat.testBit_two_pow_mul_add _ (show b < 2 ^ 8 from hb), if_neg (show ¬ 8 + k < 8 by omega), Nat.add_sub_cancel_left, Nat.add_assoc]
theorem bc16 (a : Nat) (ha : a < 256) (b : Nat) (hb : b < 256) : bcnt (nI (256 * a + b)) = nI (c16 (256 * a + b) 16) := by
  obtain ⟨a1, a2, a3, a4, a5, a6, a7, a8⟩ := bk0 a ha
  obtain ⟨b1, b2, b3, b4, b5, b6, b7, b8⟩ := bk0 b hb
  have e1 : bs1 (nI (256 * a + b)) = nI (256 * bp a + bp b) := by
    unfold bs1
    rw [sh1 (by omega), show (1431655765 : Int32) = nI (256 * 5592405 + 85) from rfl, and_nI, show (256 * a + b) / 2 = 256 * (a / 2) + (128 * (a % 2) + b / 2) by omega, land8 (by omega) (by omega), bk1 _ (by omega) _ hb]
    have z1 : a / 2 &&& 5592405 ≤ a / 2 := Nat.and_le_left
    have z2 : b / 2 &&& 85 ≤ b / 2 := Nat.and_le_left
    rw [sb_n (by omega), ← a1]
    unfold bp
    exact congrArg nI (by omega)
  have e2 : bs2 (nI (256 * bp a + bp b)) = nI (256 * bq (bp a) + bq (bp b)) := by
    unfold bs2
    rw [sh2 (by omega), show (858993459 : Int32) = nI (256 * 3355443 + 51) from rfl, and_nI, and_nI, show (256 * bp a + bp b) / 4 = 256 * (bp a / 4) + (64 * (bp a % 4) + bp b / 4) by omega, land8 (by omega) (by omega), land8 (by omega) (by omega), bk2 _ (by omega) _ b2, a3, a4, ad_n]
    unfold bq
    exact congrArg nI (by omega)
  have e3 : bs3 (nI (256 * bq (bp a) + bq (bp b))) = nI (256 * br (bq (bp a)) + br (bq (bp b))) := by
    unfold bs3
    rw [sh4 (by omega), show (252645135 : Int32) = nI (256 * 986895 + 15) from rfl, ad_n, and_nI, show 256 * bq (bp a) + bq (bp b) + (256 * bq (bp a) + bq (bp b)) / 16 = 256 * (bq (bp a) + bq (bp a) / 16) + (bq (bp b) + 16 * (bq (bp a) % 16) + bq (bp b) / 16) by omega, land8 (by omega) (by omega), (bk3 _ a6 _ b5).1, (bk3 0 (by omega) _ a5).2]
  have e4 : bs4 (nI (256 * br (bq (bp a)) + br (bq (bp b)))) = nI (256 * br (bq (bp a)) + (br (bq (bp a)) + br (bq (bp b)))) := by
    unfold bs4
    rw [sh8 (by omega), ad_n]
    exact congrArg nI (by omega)
  have e5 : bs5 (nI (256 * br (bq (bp a)) + (br (bq (bp a)) + br (bq (bp b))))) = nI (256 * br (bq (bp a)) + (br (bq (bp a)) + br (bq (bp b)))) := by
    unfold bs5
    rw [sh16 (by omega), ad_n]
    exact congrArg nI (by omega)
  rw [bcnt_r, e1, e2, e3, e4, e5, show (63 : Int32) = nI (256 * 0 + 63) from rfl, and_nI, land8 (by omega) (by omega), bk4 _ (by omega), Nat.and_zero, show (16 : Nat) = 8 + 8 from rfl, c16_hi hb 8, a8, b8]
  exact congrArg nI (by omega)
theorem bc_16 {t : Nat} (h : t < 65536) : bcnt (nI t) = nI (c16 t 16) := by
  have := bc16 (t / 256) (by omega) (t % 256) (by omega)
  rwa [show 256 * (t / 256) + t % 256 = t by omega] at this
theorem c16_le (t : Nat) : ∀ k, c16 t k ≤ k
  | 0 => by simp [c16]
  | k + 1 => by
    have := c16_le t k
    unfold c16
    split <;> omega
theorem c16_mono {s t : Nat} (h : ∀ i, s.testBit i = true → t.testBit i = true) : ∀ k, c16 s k ≤ c16 t k
  | 0 => by simp [c16]
  | k + 1 => by
    have ih := c16_mono h k
    unfold c16
    by_cases e : s.testBit k = true
    · rw [if_pos e, if_pos (h k e)]
      omega
    · rw [if_neg e]
      omega
theorem c16_eq {s t : Nat} (h : ∀ i, s.testBit i = true → t.testBit i = true) : ∀ k, c16 t k ≤ c16 s k → ∀ i, i < k → t.testBit i = true → s.testBit i = true
  | 0, _, i, hi, _ => absurd hi (by omega)
  | k + 1, hc, i, hi, ht => by
    have hm := c16_mono h k
    unfold c16 at hc
    by_cases e : s.testBit k = true
    · rw [if_pos e, if_pos (h k e)] at hc
      by_cases hik : i = k
      · rw [hik]
        exact e
      · exact c16_eq h k (by omega) i (by omega) ht
    · rw [if_neg e] at hc
      by_cases e2 : t.testBit k = true
      · rw [if_pos e2] at hc
        omega
      · rw [if_neg e2] at hc
        by_cases hik : i = k
        · rw [hik] at ht
          exact absurd ht e2
        · exact c16_eq h k (by omega) i (by omega) ht
/-- the cells that pins are told to have, as bits -/
def msk (f : Nat → Nat) : Nat → Nat
  | 0 => 0
  | n + 1 => msk f n ||| 2 ^ f n
theorem msk_t (f : Nat → Nat) (c : Nat) : ∀ n, (msk f n).testBit c = true ↔ ∃ p, p < n ∧ f p = c
  | 0 => by simp [msk]
  | n + 1 => by
    unfold msk
    rw [Nat.testBit_or, Bool.or_eq_true, msk_t f c n, Nat.testBit_two_pow]
    simp only [decide_eq_true_eq]
    constructor
    · rintro (⟨p, hp, e⟩ | e)
      · exact ⟨p, by omega, e⟩
      · exact ⟨n, by omega, e⟩
    · rintro ⟨p, hp, e⟩
      by_cases h : p = n
      · exact Or.inr (h ▸ e)
      · exact Or.inl ⟨p, by omega, e⟩
theorem msk_lt (f : Nat → Nat) : ∀ n, (∀ p, p < n → f p < 16) → msk f n < 65536
  | 0, _ => by simp [msk]
  | n + 1, h => by
    unfold msk
    have h1 := msk_lt f n (fun p hp => h p (by omega))
    have h2 : 2 ^ f n < 2 ^ 16 := Nat.pow_lt_pow_right (by decide) (h n (by omega))
    exact Nat.or_lt_two_pow (n := 16) h1 h2
theorem c16_or {s c : Nat} : ∀ k, c16 (s ||| 2 ^ c) k = c16 s k + (if c < k ∧ s.testBit c = false then 1 else 0)
  | 0 => by simp [c16]
  | k + 1 => by
    unfold c16
    rw [c16_or k, Nat.testBit_or, Nat.testBit_two_pow]
    by_cases h : c = k
    · subst h
      by_cases e : s.testBit c = true
      · simp [e]
      · simp [e]
    · by_cases e : s.testBit k = true
      · simp [e, h]
        by_cases e3 : s.testBit c = false ∧ c < k
        · rw [if_pos ⟨e3.2, e3.1⟩, if_pos ⟨by omega, e3.1⟩]
        · rw [if_neg (fun z => e3 ⟨z.2, z.1⟩), if_neg (fun z => e3 ⟨z.2, by omega⟩)]
      · simp [e, h]
        by_cases e3 : s.testBit c = false ∧ c < k
        · rw [if_pos ⟨e3.2, e3.1⟩, if_pos ⟨by omega, e3.1⟩]
        · rw [if_neg (fun z => e3 ⟨z.2, z.1⟩), if_neg (fun z => e3 ⟨z.2, by omega⟩)]
theorem c_inj (f : Nat → Nat) : ∀ n, (∀ p, p < n → f p < 16) → c16 (msk f n) 16 ≤ n ∧ (c16 (msk f n) 16 = n ↔ ∀ p q, p < n → q < n → f p = f q → p = q)
  | 0, _ => ⟨Nat.le_of_eq (show c16 0 16 = 0 by decide), ⟨fun _ p q hp => absurd hp (by omega), fun _ => show c16 0 16 = 0 by decide⟩⟩
  | n + 1, h => by
    obtain ⟨h1, h2⟩ := c_inj f n (fun p hp => h p (by omega))
    have hb := msk_t f (f n) n
    have hf := h n (by omega)
    unfold msk
    rw [c16_or]
    by_cases e : (msk f n).testBit (f n) = true
    · rw [if_neg (by rw [e]; simp)]
      refine ⟨by omega, fun z => by omega, fun z => ?_⟩
      obtain ⟨p, hp, hpe⟩ := hb.mp e
      have := z p n (by omega) (by omega) hpe
      omega
    · rw [if_pos ⟨hf, by simpa using e⟩]
      refine ⟨by omega, fun z => ?_, fun z => ?_⟩
      · have hi := h2.mp (by omega)
        intro p q hp hq hpq
        by_cases a : p = n
        · by_cases b : q = n
          · omega
          · exact absurd (hb.mpr ⟨q, by omega, by rw [← hpq, a]⟩) e
        · by_cases b : q = n
          · exact absurd (hb.mpr ⟨p, by omega, by rw [hpq, b]⟩) e
          · exact hi p q (by omega) (by omega) hpq
      · have := h2.mpr (fun p q hp hq hpq => z p q (by omega) (by omega) hpq)
        omega
/-- all pins are in homes, each alone -/
def fit (B : Bt) : Prop := ∀ p, p < B 0 1 → (∃ q, q < B 0 1 ∧ B 2 q = B 6 p) ∧ ∀ q, q < B 0 1 → B 6 q = B 6 p → q = p
theorem fit_iff {B : Bt} (hW : WF B) : (msk (B 6) (B 0 1) = msk (B 2) (B 0 1) ∧ c16 (msk (B 6) (B 0 1)) 16 = B 0 1) ↔ fit B := by
  have w0 := hW.1
  have hL : ∀ p, p < B 0 1 → B 6 p < 16 := fun p hp => by have := hW.last hp; omega
  have hH : ∀ p, p < B 0 1 → B 2 p < 16 := fun p hp => by have := hW.home hp; omega
  obtain ⟨a1, a2⟩ := c_inj (B 6) (B 0 1) hL
  obtain ⟨b1, b2⟩ := c_inj (B 2) (B 0 1) hH
  constructor
  · rintro ⟨h1, h2⟩ p hp
    refine ⟨?_, fun q hq e => a2.mp h2 q p hq hp e⟩
    have := (msk_t (B 6) (B 6 p) (B 0 1)).mpr ⟨p, hp, rfl⟩
    rw [h1] at this
    exact (msk_t (B 2) (B 6 p) (B 0 1)).mp this
  · intro h
    have h2 : c16 (msk (B 6) (B 0 1)) 16 = B 0 1 := a2.mpr (fun p q hp hq e => (h q hq).2 p hp e)
    refine ⟨?_, h2⟩
    have hs : ∀ i, (msk (B 6) (B 0 1)).testBit i = true → (msk (B 2) (B 0 1)).testBit i = true := fun i hi => by
      obtain ⟨p, hp, e⟩ := (msk_t _ _ _).mp hi
      obtain ⟨q, hq, e2⟩ := (h p hp).1
      exact (msk_t _ _ _).mpr ⟨q, hq, by rw [e2, e]⟩
    have hr := c16_eq hs 16 (by omega)
    apply Nat.eq_of_testBit_eq
    intro i
    by_cases hi : i < 16
    · cases e1 : (msk (B 6) (B 0 1)).testBit i with
      | true => exact (hs i e1).symm
      | false =>
        cases e2 : (msk (B 2) (B 0 1)).testBit i with
        | true => rw [hr i hi e2] at e1; cases e1
        | false => rfl
    · have z1 := msk_lt (B 6) (B 0 1) hL
      have z2 := msk_lt (B 2) (B 0 1) hH
      have hp : 65536 ≤ 2 ^ i := Nat.le_trans (show 65536 ≤ 2 ^ 16 by decide) (Nat.pow_le_pow_right (by decide) (by omega))
      rw [Nat.testBit_lt_two_pow (by omega), Nat.testBit_lt_two_pow (by omega)]
theorem or_c (s : Nat) {c : Nat} (hc : c < 16) : nI s ||| ((1 : Int32) <<< (nI c &&& 31)) = nI (s ||| 2 ^ c) := by rw [shl_1 c hc, or_nI]
theorem x_fills_l {σ : St} {b : Nat} {B : Bt} (hR : RB σ b B) (hW : WF B) : ∀ (m n p : Nat), p + m = B 0 1 → m < n → m_Board_fillsHomes_L6 b n σ (nI (msk (B 6) p)) (nI (msk (B 2) p)) (nI p) = some (@ite Int32 (fit B) (Classical.propDecidable _) 1 0, σ) := by
  have w0 := hW.1
  have w1 := hW.2.1
  have hL : ∀ p, p < B 0 1 → B 6 p < 16 := fun p hp => by have := hW.last hp; omega
  have hH : ∀ p, p < B 0 1 → B 2 p < 16 := fun p hp => by have := hW.home hp; omega
  intro m
  induction m with
  | zero =>
    intro n p hp hn
    obtain ⟨n, rfl⟩ : ∃ k, n = k + 1 := ⟨n - 1, by omega⟩
    show m_Board_fillsHomes_B6 b (m_Board_fillsHomes_L6 b n) σ _ _ _ = _
    have ep : p = B 0 1 := by omega
    subst ep
    unfold m_Board_fillsHomes_B6 m_Board_fillsHomes_B42
    have z1 := msk_lt (B 6) (B 0 1) hL
    have z2 := msk_lt (B 2) (B 0 1) hH
    have z3 := c16_le (msk (B 6) (B 0 1)) 16
    rw [hR.1 1 (by omega), ile (by omega) (by omega), if_pos (by omega), ieq (by omega) (by omega), bc_eq, bnd_s, bc_16 z1, hR.1 1 (by omega), ieq (by omega) (by omega), vB_0, vB_1]
    have hf := fit_iff hW
    by_cases h1 : msk (B 6) (B 0 1) = msk (B 2) (B 0 1)
    · rw [if_pos h1]
      by_cases h2 : c16 (msk (B 6) (B 0 1)) 16 = B 0 1
      · rw [if_pos h2, if_pos (hf.mp ⟨h1, h2⟩)]
      · rw [if_neg h2, if_neg (fun z => h2 (hf.mpr z).2)]
    · rw [if_neg h1, if_neg (fun z => h1 (hf.mpr z).1)]
  | succ m ih =>
    intro n p hp hn
    obtain ⟨n, rfl⟩ : ∃ k, n = k + 1 := ⟨n - 1, by omega⟩
    show m_Board_fillsHomes_B6 b (m_Board_fillsHomes_L6 b n) σ _ _ _ = _
    unfold m_Board_fillsHomes_B6
    have hb : ∀ t : Rt, bd (nI p) 7 t = t := fun t => bd_n (by omega) (by omega)
    simp only [hb, nm_i]
    rw [hR.1 1 (by omega), ile (by omega) (by omega), if_neg (by omega), cl_n (by omega), hR.2.2 6 (by omega) (by omega) p (by omega), hR.2.2 2 (by omega) (by omega) p (by omega), or_c _ (hL p (by omega)), or_c _ (hH p (by omega)), ad_1]
    exact ih n (p + 1) (by omega) (by omega)
theorem own_cases (B : Bt) (c : Int32) : ∀ m p, (ownr B c m p = -1000000 ∧ ∀ q, p ≤ q → q < p + m → ¬ nI (B 2 q) = c) ∨ ∃ q, p ≤ q ∧ q < p + m ∧ nI (B 2 q) = c ∧ ownr B c m p = nI q
  | 0, p => Or.inl ⟨rfl, fun q h1 h2 => by omega⟩
  | m + 1, p => by
    unfold ownr
    by_cases h : nI (B 2 p) = c
    · rw [if_pos h]
      exact Or.inr ⟨p, by omega, by omega, h, rfl⟩
    · rw [if_neg h]
      rcases own_cases B c m (p + 1) with ⟨a, b⟩ | ⟨q, a, b, d, e⟩
      · refine Or.inl ⟨a, fun q h1 h2 => ?_⟩
        by_cases hq : q = p
        · rw [hq]
          exact h
        · exact b q (by omega) (by omega)
      · exact Or.inr ⟨q, by omega, by omega, d, e⟩
def nxt (B : Bt) (q : Nat) : Nat := (ownr B (nI (B 6 q)) (B 0 1) 0).toNatClampNeg
theorem nxt_in {B : Bt} (hW : WF B) {q : Nat} (hq : q < B 0 1) (h : ∃ w, w < B 0 1 ∧ B 2 w = B 6 q) : nxt B q < B 0 1 ∧ ownr B (nI (B 6 q)) (B 0 1) 0 = nI (nxt B q) := by
  have w1 := hW.2.1
  unfold nxt
  rcases own_cases B (nI (B 6 q)) (B 0 1) 0 with ⟨a, b⟩ | ⟨w, a, b, d, e⟩
  · obtain ⟨w, hw, e⟩ := h
    exact absurd (by rw [e]) (b w (by omega) (by omega))
  · rw [e, cl_n (by omega)]
    exact ⟨by omega, rfl⟩
theorem own_none {B : Bt} (hW : WF B) {q : Nat} (hq : q < B 0 1) : ownr B (nI (B 6 q)) (B 0 1) 0 = -1000000 ↔ ¬ ∃ w, w < B 0 1 ∧ B 2 w = B 6 q := by
  have w1 := hW.2.1
  have w0 := hW.1
  have hl := hW.last hq
  rcases own_cases B (nI (B 6 q)) (B 0 1) 0 with ⟨a, b⟩ | ⟨w, a, b, d, e⟩
  · refine ⟨fun _ z => ?_, fun _ => a⟩
    obtain ⟨w, hw, e⟩ := z
    exact b w (by omega) (by omega) (by rw [e])
  · refine ⟨fun z => ?_, fun z => absurd ⟨w, by omega, ?_⟩ z⟩
    · rw [e] at z
      exact absurd z (neg_n (by omega))
    · have hh := hW.home (p := w) (by omega)
      exact (nI_eq (by omega) (by omega)).mp d
theorem cnt_one : ∀ t, t < 128 → ∀ p, p < 7 → t.testBit p = true → (cnt t ≤ 1 ↔ ∀ q, q < 7 → t.testBit q = true → q = p) := by decide +kernel
theorem m_chk_l {μ : St} {B : Bt} (hM : RM (μ 6) B (plc B)) (hW : WF B) (hd : B 0 5 = 1) : ∀ (m n p : Nat), p + m = B 0 1 → m < n → (∀ q, q < p → (∃ w, w < B 0 1 ∧ B 2 w = B 6 q) ∧ ∀ w, w < B 0 1 → B 6 w = B 6 q → w = q) → m_M_changes_L2 n μ (nI p) = @ite Rt (fit B) (Classical.propDecidable _) (m_M_changes_B70 μ) (some (-1000000, μ)) := by
  have w0 := hW.1
  have w1 := hW.2.1
  intro m
  induction m with
  | zero =>
    intro n p hp hn hs
    obtain ⟨n, rfl⟩ : ∃ k, n = k + 1 := ⟨n - 1, by omega⟩
    show m_M_changes_B2 (m_M_changes_L2 n) μ _ = _
    unfold m_M_changes_B2
    rw [li_2, hw6, bd_n (by omega) (by omega), cl_n (by omega), hM.2.2.1, ile (by omega) (by omega), if_pos (show B 0 1 ≤ p by omega), if_pos (show fit B from fun q hq => hs q (by omega))]
  | succ m ih =>
    intro n p hp hn hs
    obtain ⟨n, rfl⟩ : ∃ k, n = k + 1 := ⟨n - 1, by omega⟩
    have hpP : p < B 0 1 := by omega
    have hl := hW.last hpP
    show m_M_changes_B2 (m_M_changes_L2 n) μ _ = _
    unfold m_M_changes_B2
    have hbs := bset_7 (fun q => decide (plc B q = nI (B 6 p))) w1
    rw [li_2, hw6, bd_n (by omega) (by omega), cl_n (by omega), hM.2.2.1, ile (by omega) (by omega), if_neg (show ¬ B 0 1 ≤ p by omega), ix0, li_4, ad_n, bd_n (by omega) (by omega), nm_i, cl_n (by omega), (hM.2.2.2.2.2.2.2 p hpP).2.2.2.2.1, plc_day hd, if_neg (neg_n (by omega)), m_homeOf hw6 hM hW, bnd_s, m_inCell hw6 hM hW, bnd_s, m_ones μ hbs, bnd_s, ad_1]
    have hcl := cnt_le (bset (fun q => decide (plc B q = nI (B 6 p))) (B 0 1))
    rw [li_1, ile (by omega) (by omega)]
    have hpb : (bset (fun q => decide (plc B q = nI (B 6 p))) (B 0 1)).testBit p = true := by
      rw [bset_test, plc_day hd]
      simp
      omega
    have h1 := cnt_one _ hbs p (by omega) hpb
    have hiff : (cnt (bset (fun q => decide (plc B q = nI (B 6 p))) (B 0 1)) ≤ 1) ↔ ∀ w, w < B 0 1 → B 6 w = B 6 p → w = p := by
      rw [h1]
      constructor
      · intro z w hw e
        refine z w (by omega) ?_
        rw [bset_test, plc_day hd, e]
        simp
        omega
      · intro z w hw e
        rw [bset_test, plc_day hd] at e
        simp only [Bool.and_eq_true, decide_eq_true_eq] at e
        have hlw := hW.last e.1
        exact z w e.1 ((nI_eq (by omega) (by omega)).mp e.2)
    by_cases c1 : ∃ w, w < B 0 1 ∧ B 2 w = B 6 p
    · rw [if_neg (fun z => (own_none hW hpP).mp z c1)]
      by_cases c2 : ∀ w, w < B 0 1 → B 6 w = B 6 p → w = p
      · rw [if_pos (hiff.mpr c2)]
        refine ih n (p + 1) (by omega) (by omega) (fun q hq => ?_)
        by_cases e : q = p
        · rw [e]
          exact ⟨c1, c2⟩
        · exact hs q (by omega)
      · rw [if_neg (fun z => c2 (hiff.mp z)), if_neg (fun z => c2 (z p hpP).2)]
    · rw [if_pos ((own_none hW hpP).mpr c1), if_neg (fun z => c1 (z p hpP).1)]
