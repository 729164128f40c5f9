/-! pure: numbers, bits, a board told in natural numbers -/
theorem li_0 : (0 : Int32) = nI 0 := rfl
theorem li_1 : (1 : Int32) = nI 1 := rfl
theorem li_2 : (2 : Int32) = nI 2 := rfl
theorem li_3 : (3 : Int32) = nI 3 := rfl
theorem li_4 : (4 : Int32) = nI 4 := rfl
theorem li_5 : (5 : Int32) = nI 5 := rfl
theorem li_6 : (6 : Int32) = nI 6 := rfl
theorem li_7 : (7 : Int32) = nI 7 := rfl
theorem li_8 : (8 : Int32) = nI 8 := rfl
theorem li_9 : (9 : Int32) = nI 9 := rfl
theorem li_10 : (10 : Int32) = nI 10 := rfl
theorem li_11 : (11 : Int32) = nI 11 := rfl
theorem li_12 : (12 : Int32) = nI 12 := rfl
theorem li_13 : (13 : Int32) = nI 13 := rfl
theorem li_14 : (14 : Int32) = nI 14 := rfl
theorem li_15 : (15 : Int32) = nI 15 := rfl
theorem li_16 : (16 : Int32) = nI 16 := rfl
theorem li_20 : (20 : Int32) = nI 20 := rfl
theorem li_21 : (21 : Int32) = nI 21 := rfl
theorem li_22 : (22 : Int32) = nI 22 := rfl
theorem li_23 : (23 : Int32) = nI 23 := rfl
theorem li_24 : (24 : Int32) = nI 24 := rfl
theorem li_30 : (30 : Int32) = nI 30 := rfl
theorem li_31 : (31 : Int32) = nI 31 := rfl
theorem li_40 : (40 : Int32) = nI 40 := rfl
theorem li_44 : (44 : Int32) = nI 44 := rfl
theorem li_48 : (48 : Int32) = nI 48 := rfl
theorem li_57 : (57 : Int32) = nI 57 := rfl
theorem li_59 : (59 : Int32) = nI 59 := rfl
theorem li_60 : (60 : Int32) = nI 60 := rfl
theorem li_61 : (61 : Int32) = nI 61 := rfl
theorem li_63 : (63 : Int32) = nI 63 := rfl
theorem li_64 : (64 : Int32) = nI 64 := rfl
theorem li_97 : (97 : Int32) = nI 97 := rfl
theorem li_99 : (99 : Int32) = nI 99 := rfl
theorem li_100 : (100 : Int32) = nI 100 := rfl
theorem li_109 : (109 : Int32) = nI 109 := rfl
theorem li_111 : (111 : Int32) = nI 111 := rfl
theorem li_114 : (114 : Int32) = nI 114 := rfl
theorem li_115 : (115 : Int32) = nI 115 := rfl
theorem li_119 : (119 : Int32) = nI 119 := rfl
theorem li_122 : (122 : Int32) = nI 122 := rfl
theorem li_130 : (130 : Int32) = nI 130 := rfl
theorem li_200 : (200 : Int32) = nI 200 := rfl
theorem li_201 : (201 : Int32) = nI 201 := rfl
theorem li_255 : (255 : Int32) = nI 255 := rfl
theorem li_1000 : (1000 : Int32) = nI 1000 := rfl
theorem li_1472 : (1472 : Int32) = nI 1472 := rfl
theorem li_9999 : (9999 : Int32) = nI 9999 := rfl
theorem li_999999 : (999999 : Int32) = nI 999999 := rfl
theorem bd_n {n N : Nat} {t : Rt} (h : n < N) (hN : N < 2147483648) : bd (nI n) N t = t := by
  unfold bd
  rw [nI_toInt (by omega), if_pos (by omega)]
theorem nm_i {e : Int32} {k : Int32 → Rt} : nm e k = k e := rfl
theorem nml_e {e : Int64} {k : Int64 → Rt} : nml e k = k e := rfl
theorem nmS_e {e : St} {k : St → Rt} : nmS e k = k e := rfl
theorem bnd_s {r : Int32} {σ : St} {k : Int32 → St → Rt} : bnd (some (r, σ)) k = k r σ := rfl
theorem vB_0 {t : Rt} : vB 0 t = t := if_pos (Or.inl rfl)
theorem vB_1 {t : Rt} : vB 1 t = t := if_pos (Or.inr rfl)
theorem vB_n {n : Nat} {t : Rt} (h : n ≤ 1) : vB (nI n) t = t := by
  rcases (show n = 0 ∨ n = 1 by omega) with rfl | rfl
  · exact vB_0
  · exact vB_1
theorem vB_ite {c : Prop} {dc : Decidable c} {t : Rt} : vB (@ite Int32 c dc 1 0) t = t := by
  by_cases h : c
  · rw [if_pos h, vB_1]
  · rw [if_neg h, vB_0]
theorem cl_n {n : Nat} (h : n < 2147483648) : (nI n).toNatClampNeg = n := nI_clamp h
theorem le_n {a b : Nat} (ha : a < 2147483648) (hb : b < 2147483648) : (nI a ≤ nI b) = (a ≤ b) := propext (nI_leI ha hb)
theorem lt_n {a b : Nat} (ha : a < 2147483648) (hb : b < 2147483648) : (nI a < nI b) = (a < b) := propext (nI_ltI ha hb)
theorem eq_n {a b : Nat} (ha : a < 2147483648) (hb : b < 2147483648) : (nI a = nI b) = (a = b) := propext (nI_eq ha hb)
theorem ile {α : Type} {a b : Nat} {t e : α} {dc : Decidable (nI a ≤ nI b)} (ha : a < 2147483648) (hb : b < 2147483648) : @ite α (nI a ≤ nI b) dc t e = if a ≤ b then t else e := by
  by_cases h : a ≤ b
  · rw [if_pos h, if_pos ((nI_leI ha hb).mpr h)]
  · rw [if_neg h, if_neg (fun z => h ((nI_leI ha hb).mp z))]
theorem ilt {α : Type} {a b : Nat} {t e : α} {dc : Decidable (nI a < nI b)} (ha : a < 2147483648) (hb : b < 2147483648) : @ite α (nI a < nI b) dc t e = if a < b then t else e := by
  by_cases h : a < b
  · rw [if_pos h, if_pos ((nI_ltI ha hb).mpr h)]
  · rw [if_neg h, if_neg (fun z => h ((nI_ltI ha hb).mp z))]
theorem ieq {α : Type} {a b : Nat} {t e : α} {dc : Decidable (nI a = nI b)} (ha : a < 2147483648) (hb : b < 2147483648) : @ite α (nI a = nI b) dc t e = if a = b then t else e := by
  by_cases h : a = b
  · rw [if_pos h, if_pos ((nI_eq ha hb).mpr h)]
  · rw [if_neg h, if_neg (fun z => h ((nI_eq ha hb).mp z))]
theorem neg_n {n : Nat} (h : n < 2147483648) : ¬ nI n = (-1000000 : Int32) := fun e => by
  have := congrArg Int32.toInt e
  rw [nI_toInt h] at this
  have h2 : (-1000000 : Int32).toInt = -1000000 := by decide
  omega
theorem neg_n' {n : Nat} (h : n < 2147483648) : ¬ (-1000000 : Int32) = nI n := fun e => neg_n h e.symm
theorem ad_n (a b : Nat) : nI a + nI b = nI (a + b) := nI_add a b
theorem mu_n (a b : Nat) : nI a * nI b = nI (a * b) := pk_mul a b
theorem sb_n {a b : Nat} (h : b ≤ a) : nI a - nI b = nI (a - b) := pk_sub h
theorem dv_n {a d : Nat} (ha : a < 2147483648) (h0 : 0 < d) (hd : d < 2147483648) : nI a / nI d = nI (a / d) := pk_div ha h0 hd
theorem rm_n {a d : Nat} (ha : a < 2147483648) (h0 : 0 < d) (hd : d < 2147483648) : nI a - nI a / nI d * nI d = nI (a % d) := pk_rem ha h0 hd
theorem nz_n {n : Nat} {t : Rt} (h0 : 0 < n) (h : n < 2147483648) : nz (nI n) t = t := by
  unfold nz
  rw [if_neg]
  rw [li_0, eq_n h (by omega)]
  omega
theorem within_n (σ : St) (x a b : Int32) : m_P_within σ x a b = some ((if a ≤ x ∧ x ≤ b then 1 else 0), σ) := by
  unfold m_P_within
  by_cases h1 : x < a
  · rw [if_pos h1, vB_0, if_neg (fun h => Int32.not_lt.mpr h.1 h1)]
  · rw [if_neg h1]
    by_cases h2 : b < x
    · rw [if_pos h2, vB_0, if_neg (fun h => Int32.not_lt.mpr h.2 h2)]
    · rw [if_neg h2, vB_1, if_pos ⟨Int32.not_lt.mp h1, Int32.not_lt.mp h2⟩]
theorem in_iff {x : Int32} {n : Nat} (hn : n < 2147483648) : ((0 : Int32) ≤ x ∧ x ≤ nI n - 1) ↔ ∃ j, j < n ∧ x = nI j := by
  have hx : (nI n - 1).toInt = (n : Int) - 1 := by
    rw [li_1]
    by_cases h : 1 ≤ n
    · rw [sb_n h, nI_toInt (by omega)]
      omega
    · have : n = 0 := by omega
      subst this
      decide
  constructor
  · rintro ⟨h1, h2⟩
    have h1 := Int32.le_iff_toInt_le.mp h1
    have h2 := Int32.le_iff_toInt_le.mp h2
    rw [hx] at h2
    have h0 : (0 : Int32).toInt = 0 := by decide
    rw [h0] at h1
    refine ⟨x.toInt.toNat, by omega, ?_⟩
    apply Int32.toInt_inj.mp
    rw [nI_toInt (by omega)]
    omega
  · rintro ⟨j, h1, rfl⟩
    refine ⟨by rw [li_0, le_n (by omega) (by omega)]; omega, ?_⟩
    apply Int32.le_iff_toInt_le.mpr
    rw [hx, nI_toInt (by omega)]
    omega
/-- sets of numbers below 7 (or 16), as bits -/
def bset (f : Nat → Bool) : Nat → Nat
  | 0 => 0
  | n + 1 => bset f n + (if f n = true then 2 ^ n else 0)
theorem bset_lt (f : Nat → Bool) : ∀ n, bset f n < 2 ^ n
  | 0 => by simp [bset]
  | n + 1 => by
    have := bset_lt f n
    unfold bset
    rw [Nat.pow_succ]
    split <;> omega
theorem bset_congr {f g : Nat → Bool} : ∀ {n : Nat}, (∀ p, p < n → f p = g p) → bset f n = bset g n
  | 0, _ => rfl
  | n + 1, h => by
    unfold bset
    rw [bset_congr (fun p hp => h p (by omega)), h n (by omega)]
theorem or_nI (a b : Nat) : nI a ||| nI b = nI (a ||| b) := by
  apply Int32.toBitVec_inj.mp
  rw [Int32.toBitVec_or]
  show BitVec.ofNat 32 a ||| BitVec.ofNat 32 b = BitVec.ofNat 32 (a ||| b)
  exact (BitVec.ofNat_or).symm
theorem shl_1 : ∀ p, p < 16 → ((1 : Int32) <<< (nI p &&& 31)) = nI (2 ^ p) := by decide +kernel
theorem or_bit (p : Nat) (hp : p < 16) (s : Nat) (hs : s < 2 ^ p) : nI s ||| ((1 : Int32) <<< (nI p &&& 31)) = nI (s + 2 ^ p) := by
  have h := Nat.two_pow_add_eq_or_of_lt hs 1
  rw [Nat.mul_one] at h
  rw [shl_1 p hp, or_nI, Nat.or_comm, ← h, Nat.add_comm]
theorem or_0 (x : Int32) : x ||| 0 = x := by
  apply Int32.toBitVec_inj.mp
  simp
theorem bset_step {f : Nat → Bool} {p : Nat} (hp : p < 16) : nI (bset f p) ||| (if f p = true then (1 : Int32) <<< (nI p &&& 31) else 0) = nI (bset f (p + 1)) := by
  by_cases h : f p = true
  · rw [if_pos h, or_bit p hp _ (bset_lt f p)]
    simp [bset, h]
  · rw [if_neg h, or_0]
    simp [bset, h]
theorem bset_test (f : Nat → Bool) : ∀ n p, (bset f n).testBit p = (decide (p < n) && f p)
  | 0, p => by simp [bset]
  | n + 1, p => by
    have ih := bset_test f n p
    unfold bset
    by_cases h : f n = true
    · rw [if_pos h, Nat.add_comm]
      by_cases hp : p = n
      · subst hp
        rw [Nat.testBit_two_pow_add_eq, Nat.testBit_lt_two_pow (bset_lt f p)]
        simp [h]
      · by_cases hlt : p < n
        · rw [Nat.testBit_two_pow_add_gt hlt, ih]
          simp [hlt, show p < n + 1 by omega]
        · have hgt : n < p := by omega
          rw [Nat.testBit_lt_two_pow (by
            have h1 := bset_lt f n
            have h2 : 2 ^ (n + 1) ≤ 2 ^ p := Nat.pow_le_pow_right (by decide) hgt
            rw [Nat.pow_succ] at h2
            omega)]
          simp [show ¬ p < n + 1 by omega]
    · rw [if_neg h, Nat.add_zero, ih]
      by_cases hp : p = n
      · subst hp
        simp [h]
      · by_cases hlt : p < n
        · simp [hlt, show p < n + 1 by omega]
        · simp [hlt, show ¬ p < n + 1 by omega]
theorem is_bit : ∀ t, t < 128 → ∀ p, p < 7 → (((nI t >>> (nI p &&& 31)) &&& (1 : Int32)) = 1 ↔ t.testBit p = true) := by decide +kernel
/-- how many numbers below 7 a set has -/
def cnt (t : Nat) : Nat := (if t.testBit 0 then 1 else 0) + (if t.testBit 1 then 1 else 0) + (if t.testBit 2 then 1 else 0) + (if t.testBit 3 then 1 else 0) + (if t.testBit 4 then 1 else 0) + (if t.testBit 5 then 1 else 0) + (if t.testBit 6 then 1 else 0)
def bcnt (x0 : Int32) : Int32 := ((m_I_bitCount (fun _ _ => 0) x0).getD (0, fun _ _ => 0)).1
theorem bc_eq (σ : St) (x : Int32) : m_I_bitCount σ x = some (bcnt x, σ) := rfl
theorem bc_n : ∀ t, t < 128 → bcnt (nI t) = nI (cnt t) := by decide +kernel
theorem cnt_le (t : Nat) : cnt t ≤ 7 := by
  unfold cnt
  repeat' split
  all_goals omega
/-- a board: 0 j cells, pins, slip, time, earned, day; 1 work; 2 home; 3 skill; 4 colour; 5 kind; 6 last -/
abbrev Bt : Type := Nat → Nat → Nat
def RB (σ : St) (b : Nat) (B : Bt) : Prop := (∀ j, j < 6 → σ b j = nI (B 0 j)) ∧ (∀ i, i < B 0 0 → σ (b + 1) i = nI (B 1 i)) ∧ ∀ f, 2 ≤ f → f ≤ 6 → ∀ p, p < B 0 1 → σ (b + f) p = nI (B f p)
def WF (B : Bt) : Prop := B 0 0 ≤ 16 ∧ B 0 1 ≤ 7 ∧ B 0 2 ≤ 15 ∧ B 0 4 ≤ 999999 ∧ B 0 5 ≤ 1 ∧ (∀ i, i < B 0 0 → B 1 i ≤ 9) ∧ ∀ p, p < B 0 1 → B 2 p < B 0 0 ∧ 1 ≤ B 3 p ∧ B 3 p ≤ 9 ∧ B 4 p ≤ 3 ∧ 1 ≤ B 5 p ∧ B 5 p ≤ 5 ∧ B 6 p < B 0 0
def plc (B : Bt) (p : Nat) : Int32 := if B 0 5 = 0 ∧ B 5 p ≠ 5 then -1000000 else nI (B 6 p)
/-- only the cells of the board at b may differ -/
def Fr (b : Nat) (σ σ' : St) : Prop := ∀ a, (a < b ∨ b + 7 ≤ a) → σ' a = σ a
theorem Fr.rf (b : Nat) (σ : St) : Fr b σ σ := fun _ _ => rfl
theorem Fr.tr {b : Nat} {σ1 σ2 σ3 : St} (h1 : Fr b σ1 σ2) (h2 : Fr b σ2 σ3) : Fr b σ1 σ3 := fun a h => (h2 a h).trans (h1 a h)
theorem up_o {σ : St} {a i a' : Nat} {v : Int32} (h : a' ≠ a) : up σ a i v a' = σ a' := by
  funext j
  simp [up, h]
theorem up_s {σ : St} {a i : Nat} {v : Int32} : up σ a i v a i = v := by simp [up]
theorem up_n {σ : St} {a i j : Nat} {v : Int32} (h : j ≠ i) : up σ a i v a j = σ a j := by simp [up, h]
theorem up_v {σ : St} {a i a' i' : Nat} {v : Int32} : up σ a i v a' i' = if a' = a ∧ i' = i then v else σ a' i' := rfl
def ub (B : Bt) (a i v : Nat) : Bt := fun a' i' => if a' = a ∧ i' = i then v else B a' i'
theorem ub_v {B : Bt} {a i a' i' v : Nat} : ub B a i v a' i' = if a' = a ∧ i' = i then v else B a' i' := rfl
theorem RB.kept {σ σ' : St} {b : Nat} {B : Bt} (h : RB σ b B) (hk : ∀ a, b ≤ a → a < b + 7 → σ' a = σ a) : RB σ' b B := by
  refine ⟨fun j hj => ?_, fun i hi => ?_, fun f h1 h2 p hp => ?_⟩
  · rw [hk b (by omega) (by omega)]
    exact h.1 j hj
  · rw [hk (b + 1) (by omega) (by omega)]
    exact h.2.1 i hi
  · rw [hk (b + f) (by omega) (by omega)]
    exact h.2.2 f h1 h2 p hp
/-- a field of the board is written -/
theorem RB.up0 {σ : St} {b : Nat} {B : Bt} (h : RB σ b B) (j v : Nat) (hj : j = 2 ∨ j = 3 ∨ j = 4 ∨ j = 5) : RB (up σ b j (nI v)) b (ub B 0 j v) := by
  have e0 : ub B 0 j v 0 0 = B 0 0 := by rw [ub_v, if_neg (by omega)]
  have e1 : ub B 0 j v 0 1 = B 0 1 := by rw [ub_v, if_neg (by omega)]
  refine ⟨fun i hi => ?_, fun i hi => ?_, fun f h1 h2 p hp => ?_⟩
  · rw [up_v, ub_v]
    by_cases e : i = j
    · rw [if_pos ⟨rfl, e⟩, if_pos ⟨rfl, e⟩]
    · rw [if_neg (fun z => e z.2), if_neg (fun z => e z.2)]
      exact h.1 i hi
  · rw [e0] at hi
    rw [up_o (by omega), ub_v, if_neg (by omega)]
    exact h.2.1 i hi
  · rw [e1] at hp
    rw [up_o (by omega), ub_v, if_neg (by omega)]
    exact h.2.2 f h1 h2 p hp
/-- a place of a pin's array is written -/
theorem RB.upA {σ : St} {b : Nat} {B : Bt} (h : RB σ b B) (f i v : Nat) (hf : 2 ≤ f) (hf6 : f ≤ 6) : RB (up σ (b + f) i (nI v)) b (ub B f i v) := by
  have e0 : ub B f i v 0 0 = B 0 0 := by rw [ub_v, if_neg (by omega)]
  have e1 : ub B f i v 0 1 = B 0 1 := by rw [ub_v, if_neg (by omega)]
  refine ⟨fun j hj => ?_, fun j hj => ?_, fun g h1 h2 p hp => ?_⟩
  · rw [up_o (by omega), ub_v, if_neg (by omega)]
    exact h.1 j hj
  · rw [e0] at hj
    rw [up_o (by omega), ub_v, if_neg (by omega)]
    exact h.2.1 j hj
  · rw [e1] at hp
    rw [up_v, ub_v]
    by_cases e : g = f ∧ p = i
    · rw [if_pos (by omega), if_pos e]
    · rw [if_neg (by omega), if_neg e]
      exact h.2.2 g h1 h2 p hp
theorem RB.upW {σ : St} {b : Nat} {B : Bt} (h : RB σ b B) (i v : Nat) : RB (up σ (b + 1) i (nI v)) b (ub B 1 i v) := by
  have e0 : ub B 1 i v 0 0 = B 0 0 := by rw [ub_v, if_neg (by omega)]
  have e1 : ub B 1 i v 0 1 = B 0 1 := by rw [ub_v, if_neg (by omega)]
  refine ⟨fun j hj => ?_, fun j hj => ?_, fun g h1 h2 p hp => ?_⟩
  · rw [up_o (by omega), ub_v, if_neg (by omega)]
    exact h.1 j hj
  · rw [e0] at hj
    rw [up_v, ub_v]
    by_cases e : j = i
    · rw [if_pos ⟨rfl, e⟩, if_pos ⟨rfl, e⟩]
    · rw [if_neg (fun z => e z.2), if_neg (fun z => e z.2)]
      exact h.2.1 j hj
  · rw [e1] at hp
    rw [up_o (by omega), ub_v, if_neg (by omega)]
    exact h.2.2 g h1 h2 p hp
theorem frA (σ : St) (b f i : Nat) (v : Int32) (hf : f ≤ 6) : Fr b σ (up σ (b + f) i v) := fun a h => up_o (by omega)
theorem fr0 (σ : St) (b i : Nat) (v : Int32) : Fr b σ (up σ b i v) := fun a h => up_o (by omega)
