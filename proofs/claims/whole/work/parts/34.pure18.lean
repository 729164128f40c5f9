/-! pure: the most that pins make of cells, counted -/
def gec (f : Nat → Nat) (s : Nat → Bool) (u : Nat) : Nat → Nat
  | 0 => 0
  | n + 1 => gec f s u n + (if s n = true ∧ u ≤ f n then 1 else 0)
theorem gec_congr {f : Nat → Nat} {s s' : Nat → Bool} {u : Nat} : ∀ {n : Nat}, (∀ i, i < n → s i = s' i) → gec f s u n = gec f s' u n
  | 0, _ => rfl
  | n + 1, h => by
    unfold gec
    rw [gec_congr (fun i hi => h i (by omega)), h n (by omega)]
theorem gec_zero {f : Nat → Nat} {s : Nat → Bool} {u : Nat} : ∀ {n : Nat}, (∀ i, i < n → s i = true → f i < u) → gec f s u n = 0
  | 0, _ => rfl
  | n + 1, h => by
    unfold gec
    rw [gec_zero (fun i hi => h i (by omega)), if_neg (fun z => by have := h n (by omega) z.1; omega)]
theorem gec_anti {f : Nat → Nat} {s : Nat → Bool} {u v : Nat} (h : u ≤ v) : ∀ n, gec f s v n ≤ gec f s u n
  | 0 => by simp [gec]
  | n + 1 => by
    have := gec_anti (f := f) (s := s) h n
    unfold gec
    by_cases c : s n = true ∧ v ≤ f n
    · rw [if_pos c, if_pos ⟨c.1, by omega⟩]
      omega
    · rw [if_neg c]
      omega
theorem gec_rm {f : Nat → Nat} {s s' : Nat → Bool} {u j : Nat} (h1 : s j = true) (h2 : s' j = false) (h3 : ∀ i, i ≠ j → s' i = s i) : ∀ {n : Nat}, j < n → gec f s u n = gec f s' u n + (if u ≤ f j then 1 else 0)
  | 0, h => absurd h (by omega)
  | n + 1, h => by
    unfold gec
    by_cases e : j = n
    · subst e
      have ec : gec f s u j = gec f s' u j := gec_congr (fun i hi => (h3 i (by omega)).symm)
      rw [ec, h1, h2]
      by_cases c : u ≤ f j
      · simp [c]
      · simp [c]
    · rw [gec_rm h1 h2 h3 (show j < n by omega), h3 n (fun z => e z.symm)]
      omega
theorem gec_has {f : Nat → Nat} {s : Nat → Bool} {u v : Nat} : ∀ {n : Nat}, gec f s v n < gec f s u n → ∃ i, i < n ∧ s i = true ∧ u ≤ f i ∧ f i < v
  | 0, h => absurd h (by simp [gec])
  | n + 1, h => by
    unfold gec at h
    by_cases c : s n = true ∧ u ≤ f n ∧ f n < v
    · exact ⟨n, by omega, c.1, c.2.1, c.2.2⟩
    · have : gec f s v n < gec f s u n := by
        by_cases c1 : s n = true ∧ u ≤ f n
        · have c2 : s n = true ∧ v ≤ f n := ⟨c1.1, by
            by_cases z : f n < v
            · exact absurd ⟨c1.1, c1.2, z⟩ c
            · omega⟩
          rw [if_pos c1, if_pos c2] at h
          omega
        · rw [if_neg c1] at h
          omega
      obtain ⟨i, a, b⟩ := gec_has this
      exact ⟨i, by omega, b⟩
def sm (f : Nat → Nat) : Nat → Nat
  | 0 => 0
  | n + 1 => sm f n + f (n + 1)
theorem sm_congr {f g : Nat → Nat} : ∀ {n : Nat}, (∀ i, 1 ≤ i → i ≤ n → f i = g i) → sm f n = sm g n
  | 0, _ => rfl
  | n + 1, h => by
    unfold sm
    rw [sm_congr (fun i h1 h2 => h i h1 (by omega)), h (n + 1) (by omega) (by omega)]
theorem sm_le {f g : Nat → Nat} : ∀ {n : Nat}, (∀ i, 1 ≤ i → i ≤ n → f i ≤ g i) → sm f n ≤ sm g n
  | 0, _ => by simp [sm]
  | n + 1, h => by
    have a := sm_le (fun i h1 h2 => h i h1 (by omega)) (n := n)
    have b := h (n + 1) (by omega) (by omega)
    unfold sm
    omega
theorem sm_add (f g : Nat → Nat) : ∀ n, sm f n + sm g n = sm (fun i => f i + g i) n
  | 0 => rfl
  | n + 1 => by
    unfold sm
    rw [← sm_add f g n]
    omega
theorem sm_zero {f : Nat → Nat} {n : Nat} (h : ∀ i, 1 ≤ i → i ≤ n → f i = 0) : sm f n = 0 := by
  rw [sm_congr (g := fun _ => 0) h]
  induction n with
  | zero => rfl
  | succ n ih =>
    unfold sm
    rw [ih (fun i h1 h2 => h i h1 (by omega))]
def VV (N M : Nat → Nat) : Nat := sm (fun u => sm (fun v => min (N u) (M v)) 9) 9
theorem prod_99 : ∀ s, s ≤ 9 → ∀ w, w ≤ 9 → s * w = sm (fun u => sm (fun v => if u ≤ s ∧ v ≤ w then 1 else 0) 9) 9 := by decide +kernel
theorem VV_zl {N M : Nat → Nat} (h : ∀ u, 1 ≤ u → N u = 0) : VV N M = 0 := sm_zero (fun u h1 _ => sm_zero (fun v _ _ => by rw [h u h1]; omega))
theorem VV_zr {N M : Nat → Nat} (h : ∀ u, 1 ≤ u → M u = 0) : VV N M = 0 := sm_zero (fun u _ _ => sm_zero (fun v h1 _ => by rw [h v h1]; omega))
theorem VV_congr {N M N' M' : Nat → Nat} (h1 : ∀ u, N u = N' u) (h2 : ∀ u, M u = M' u) : VV N M = VV N' M' := by
  rw [show N = N' from funext h1, show M = M' from funext h2]
theorem VV_sum {s w : Nat} (hs : s ≤ 9) (hw : w ≤ 9) (N M : Nat → Nat) : s * w + VV N M = sm (fun u => sm (fun v => (if u ≤ s ∧ v ≤ w then 1 else 0) + min (N u) (M v)) 9) 9 := by
  rw [prod_99 s hs w hw]
  unfold VV
  rw [sm_add]
  refine sm_congr (fun u _ _ => ?_)
  rw [sm_add]
/-- one pin in one cell, and the others: never more -/
theorem VV_le {s w : Nat} (hs : s ≤ 9) (hw : w ≤ 9) {N M N' M' : Nat → Nat} (hN : ∀ u, N u = N' u + (if u ≤ s then 1 else 0)) (hM : ∀ v, M v = M' v + (if v ≤ w then 1 else 0)) : s * w + VV N' M' ≤ VV N M := by
  rw [VV_sum hs hw]
  refine sm_le (fun u _ _ => sm_le (fun v _ _ => ?_))
  rw [hN u, hM v]
  by_cases a : u ≤ s
  · by_cases b : v ≤ w
    · rw [if_pos ⟨a, b⟩, if_pos a, if_pos b]
      omega
    · rw [if_neg (fun z => b z.2), if_pos a, if_neg b]
      omega
  · rw [if_neg (fun z => a z.1), if_neg a]
    omega
theorem VV_eq {s w : Nat} (hs : s ≤ 9) (hw : w ≤ 9) {N M N' M' : Nat → Nat} (hN : ∀ u, N u = N' u + (if u ≤ s then 1 else 0)) (hM : ∀ v, M v = M' v + (if v ≤ w then 1 else 0)) (h1 : ∀ u v, u ≤ s → w < v → M' v ≤ N' u) (h2 : ∀ u v, s < u → v ≤ w → N' u ≤ M' v) : s * w + VV N' M' = VV N M := by
  rw [VV_sum hs hw]
  refine sm_congr (fun u _ _ => sm_congr (fun v _ _ => ?_))
  rw [hN u, hM v]
  by_cases a : u ≤ s
  · by_cases b : v ≤ w
    · rw [if_pos ⟨a, b⟩, if_pos a, if_pos b]
      omega
    · have := h1 u v a (by omega)
      rw [if_neg (fun z => b z.2), if_pos a, if_neg b]
      omega
  · by_cases b : v ≤ w
    · have := h2 u v (by omega) b
      rw [if_neg (fun z => a z.1), if_neg a, if_pos b]
      omega
    · rw [if_neg (fun z => a z.1), if_neg a, if_neg b]
      omega
theorem is_bitg {t p : Nat} (hp : p < 16) : ((nI t >>> (nI p &&& 31)) &&& (1 : Int32)) = 1 ↔ t.testBit p = true := by
  have hs : ∀ p, p < 16 → ((nI p &&& 31) : Int32).toBitVec.smod 32 = BitVec.ofNat 32 p := by decide +kernel
  have hx : ((nI t >>> (nI p &&& 31)) &&& (1 : Int32)).toBitVec = (BitVec.sshiftRight (BitVec.ofNat 32 t) p) &&& 1#32 := by
    show (BitVec.sshiftRight' (BitVec.ofNat 32 t) (((nI p &&& 31) : Int32).toBitVec.smod 32)) &&& 1#32 = _
    rw [hs p hp]
    show (BitVec.sshiftRight (BitVec.ofNat 32 t) (BitVec.ofNat 32 p).toNat) &&& 1#32 = _
    rw [BitVec.toNat_ofNat, Nat.mod_eq_of_lt (by omega)]
  rw [← Int32.toBitVec_inj, hx]
  show _ = 1#32 ↔ _
  have hb : (BitVec.sshiftRight (BitVec.ofNat 32 t) p).getLsbD 0 = t.testBit p := by
    rw [BitVec.getLsbD_sshiftRight, if_pos (show p + 0 < 32 by omega), Nat.add_zero, BitVec.getLsbD_ofNat, decide_eq_true (show p < 32 by omega), decide_eq_false (show ¬ 32 ≤ 0 by omega)]
    rfl
  constructor
  · intro h
    have := congrArg (fun z => BitVec.getLsbD z 0) h
    simp only [BitVec.getLsbD_and, hb] at this
    simpa using this
  · intro h
    apply BitVec.eq_of_getLsbD_eq
    intro i hi
    rw [BitVec.getLsbD_and, BitVec.getLsbD_one]
    by_cases e : i = 0
    · subst e
      rw [hb, h]
      rfl
    · simp [e]
theorem x_isSetg (σ : St) (t : Nat) {p : Nat} (hp : p < 16) : m_P_isSet σ (nI t) (nI p) = some ((if t.testBit p = true then 1 else 0), σ) := by
  unfold m_P_isSet
  by_cases h : t.testBit p = true
  · rw [if_pos ((is_bitg hp).mpr h), if_pos h, vB_1]
  · rw [if_neg (fun z => h ((is_bitg hp).mp z)), if_neg h, vB_0]
theorem m_hasg (σ : St) (t : Nat) {p : Nat} (hp : p < 16) : m_M_has σ (nI t) (nI p) = some ((if t.testBit p = true then 1 else 0), σ) := x_isSetg σ t hp
def best_of (f : Nat → Nat) (t n : Nat) (r : Int32) : Prop := (r = -1000000 ∧ ∀ q, q < n → t.testBit q = true) ∨ ∃ g, g < n ∧ r = nI g ∧ t.testBit g = false ∧ ∀ q, q < n → t.testBit q = false → f q ≤ f g
theorem best_step {f : Nat → Nat} {t n : Nat} {r : Int32} (hn : n < 1000) (h : best_of f t n r) : (t.testBit n = true → best_of f t (n + 1) r) ∧ (t.testBit n = false → r = -1000000 → best_of f t (n + 1) (nI n)) ∧ ∀ g, t.testBit n = false → r = nI g → g < n → (f n ≤ f g → best_of f t (n + 1) r) ∧ (¬ f n ≤ f g → best_of f t (n + 1) (nI n)) := by
  refine ⟨fun hb => ?_, fun hb hr => ?_, fun g hb hr hg => ?_⟩
  · rcases h with ⟨a, b⟩ | ⟨g, a, b, c, d⟩
    · refine Or.inl ⟨a, fun q hq => ?_⟩
      by_cases e : q = n
      · rw [e]
        exact hb
      · exact b q (by omega)
    · refine Or.inr ⟨g, by omega, b, c, fun q hq hqb => ?_⟩
      by_cases e : q = n
      · rw [e, hb] at hqb
        cases hqb
      · exact d q (by omega) hqb
  · rcases h with ⟨a, b⟩ | ⟨g, a, b, c, d⟩
    · refine Or.inr ⟨n, by omega, rfl, hb, fun q hq hqb => ?_⟩
      by_cases e : q = n
      · rw [e]
        exact Nat.le_refl _
      · rw [b q (by omega)] at hqb
        cases hqb
    · rw [b] at hr
      exact absurd hr (neg_n (by omega))
  · rcases h with ⟨a, b⟩ | ⟨g', a, b, c, d⟩
    · rw [a] at hr
      exact absurd hr (neg_n' (by omega))
    · have eg : g' = g := by
        rw [b] at hr
        exact (nI_eq (by omega) (by omega)).mp hr
      subst eg
      refine ⟨fun hle => Or.inr ⟨g', by omega, b, c, fun q hq hqb => ?_⟩, fun hle => Or.inr ⟨n, by omega, rfl, hb, fun q hq hqb => ?_⟩⟩
      · by_cases e : q = n
        · rw [e]
          exact hle
        · exact d q (by omega) hqb
      · by_cases e : q = n
        · rw [e]
          exact Nat.le_refl _
        · have := d q (by omega) hqb
          omega
section BST
variable {A : Bt} {σ : St}
theorem x_strong_l (hR : RB σ 21 A) (hW : WF A) (t : Nat) : ∀ (m n p : Nat) (r : Int32), p + m = A 0 1 → m < n → best_of (A 3) t p r → ∃ r', m_Fore_strongest_L5 n σ (nI t) r (nI p) = some (r', σ) ∧ best_of (A 3) t (A 0 1) r' := by
  have w1 := hW.2.1
  intro m
  induction m with
  | zero =>
    intro n p r hp hn hb
    obtain ⟨n, rfl⟩ : ∃ k, n = k + 1 := ⟨n - 1, by omega⟩
    refine ⟨r, ?_, by rw [show A 0 1 = p by omega]; exact hb⟩
    show m_Fore_strongest_B5 (m_Fore_strongest_L5 n) σ _ _ _ = _
    unfold m_Fore_strongest_B5
    rw [hR.1 1 (by omega), ile (by omega) (by omega), if_pos (by omega)]
  | succ m ih =>
    intro n p r hp hn hb
    obtain ⟨n, rfl⟩ : ∃ k, n = k + 1 := ⟨n - 1, by omega⟩
    show ∃ r', m_Fore_strongest_B5 (m_Fore_strongest_L5 n) σ _ _ _ = _ ∧ _
    unfold m_Fore_strongest_B5 m_Fore_strongest_B29 m_Fore_strongest_B63 m_Fore_strongest_B65
    rw [hR.1 1 (by omega), ile (by omega) (by omega), if_neg (by omega), x_isSetg σ t (by omega), bnd_s, ad_1]
    obtain ⟨b1, b2, b3⟩ := best_step (by omega) hb
    by_cases e : t.testBit p = true
    · rw [if1 e, if_pos rfl]
      exact ih n (p + 1) r (by omega) (by omega) (b1 e)
    · have e' : t.testBit p = false := by simpa using e
      rw [if0 e, if_neg (by decide)]
      rcases id hb with ⟨a, _⟩ | ⟨g, a, b, c, d⟩
      · rw [if_pos a]
        exact ih n (p + 1) _ (by omega) (by omega) (b2 e' a)
      · have k1 := (hW.2.2.2.2.2.2 p (by omega)).2.2.1
        have k2 := (hW.2.2.2.2.2.2 g (by omega)).2.2.1
        rw [b, if_neg (neg_n (by omega)), bd_n (by omega) (by omega), bd_n (by omega) (by omega), cl_n (by omega), cl_n (by omega), hR.2.2 3 (by omega) (by omega) p (by omega), hR.2.2 3 (by omega) (by omega) g (by omega), ile (by omega) (by omega)]
        obtain ⟨c1, c2⟩ := b3 g e' b a
        by_cases hle : A 3 p ≤ A 3 g
        · rw [if_pos hle, ← b]
          exact ih n (p + 1) r (by omega) (by omega) (c1 hle)
        · rw [if_neg hle]
          exact ih n (p + 1) _ (by omega) (by omega) (c2 hle)
theorem x_busy_l (hR : RB σ 21 A) (hW : WF A) (t : Nat) : ∀ (m n p : Nat) (r : Int32), p + m = A 0 0 → m < n → best_of (A 1) t p r → ∃ r', m_Fore_busiest_L5 n σ (nI t) r (nI p) = some (r', σ) ∧ best_of (A 1) t (A 0 0) r' := by
  have w0 := hW.1
  intro m
  induction m with
  | zero =>
    intro n p r hp hn hb
    obtain ⟨n, rfl⟩ : ∃ k, n = k + 1 := ⟨n - 1, by omega⟩
    refine ⟨r, ?_, by rw [show A 0 0 = p by omega]; exact hb⟩
    show m_Fore_busiest_B5 (m_Fore_busiest_L5 n) σ _ _ _ = _
    unfold m_Fore_busiest_B5
    rw [hR.1 0 (by omega), ile (by omega) (by omega), if_pos (by omega)]
  | succ m ih =>
    intro n p r hp hn hb
    obtain ⟨n, rfl⟩ : ∃ k, n = k + 1 := ⟨n - 1, by omega⟩
    show ∃ r', m_Fore_busiest_B5 (m_Fore_busiest_L5 n) σ _ _ _ = _ ∧ _
    unfold m_Fore_busiest_B5 m_Fore_busiest_B29 m_Fore_busiest_B63 m_Fore_busiest_B65
    rw [hR.1 0 (by omega), ile (by omega) (by omega), if_neg (by omega), x_isSetg σ t (by omega), bnd_s, ad_1]
    obtain ⟨b1, b2, b3⟩ := best_step (by omega) hb
    by_cases e : t.testBit p = true
    · rw [if1 e, if_pos rfl]
      exact ih n (p + 1) r (by omega) (by omega) (b1 e)
    · have e' : t.testBit p = false := by simpa using e
      rw [if0 e, if_neg (by decide)]
      rcases id hb with ⟨a, _⟩ | ⟨g, a, b, c, d⟩
      · rw [if_pos a]
        exact ih n (p + 1) _ (by omega) (by omega) (b2 e' a)
      · have k1 := hW.2.2.2.2.2.1 p (by omega)
        have k2 := hW.2.2.2.2.2.1 g (by omega)
        rw [b, if_neg (neg_n (by omega)), bd_n (by omega) (by omega), bd_n (by omega) (by omega), cl_n (by omega), cl_n (by omega), hR.2.1 p (by omega), hR.2.1 g (by omega), ile (by omega) (by omega)]
        obtain ⟨c1, c2⟩ := b3 g e' b a
        by_cases hle : A 1 p ≤ A 1 g
        · rw [if_pos hle, ← b]
          exact ih n (p + 1) r (by omega) (by omega) (c1 hle)
        · rw [if_neg hle]
          exact ih n (p + 1) _ (by omega) (by omega) (c2 hle)
theorem x_strong (hR : RB σ 21 A) (hW : WF A) (t : Nat) : ∃ r, m_Fore_strongest σ (nI t) = some (r, σ) ∧ best_of (A 3) t (A 0 1) r := by
  have w1 := hW.2.1
  exact x_strong_l hR hW t (A 0 1) FU 0 (-1000000) (by omega) (fu_lt (by omega)) (Or.inl ⟨rfl, fun q hq => absurd hq (by omega)⟩)
theorem x_busy (hR : RB σ 21 A) (hW : WF A) (t : Nat) : ∃ r, m_Fore_busiest σ (nI t) = some (r, σ) ∧ best_of (A 1) t (A 0 0) r := by
  have w0 := hW.1
  exact x_busy_l hR hW t (A 0 0) FU 0 (-1000000) (by omega) (fu_lt (by omega)) (Or.inl ⟨rfl, fun q hq => absurd hq (by omega)⟩)
/-- the most, of the pins not in t and the cells not in c -/
def Vt (A : Bt) (t c : Nat) : Nat := VV (fun u => gec (A 3) (fun q => !t.testBit q) u (A 0 1)) (fun v => gec (A 1) (fun q => !c.testBit q) v (A 0 0))
theorem or_set {t g i : Nat} (h : i ≠ g) : (t ||| 2 ^ g).testBit i = t.testBit i := by
  rw [Nat.testBit_or, Nat.testBit_two_pow]
  simp [show ¬ g = i from fun z => h z.symm]
theorem or_self (t g : Nat) : (t ||| 2 ^ g).testBit g = true := by
  rw [Nat.testBit_or, Nat.testBit_two_pow]
  simp
theorem x_most_l (hR : RB σ 21 A) (hW : WF A) : ∀ (m n k t c : Nat) (x : Int32), k + m = A 0 1 → m < n → gec (A 3) (fun q => !t.testBit q) 0 (A 0 1) = m → m_Fore_mostWorth_L15 n σ x (nI t) (nI c) (nI k) = some (x + nI (Vt A t c), σ) := by
  have w0 := hW.1
  have w1 := hW.2.1
  have z0 : ∀ x : Int32, x + nI 0 = x := fun x => by rw [← li_0]; exact Int32.add_zero x
  intro m
  induction m with
  | zero =>
    intro n k t c x hk hn hg
    obtain ⟨n, rfl⟩ : ∃ k, n = k + 1 := ⟨n - 1, by omega⟩
    show m_Fore_mostWorth_B15 (m_Fore_mostWorth_L15 n) σ _ _ _ _ = _
    unfold m_Fore_mostWorth_B15
    rw [hR.1 1 (by omega), ile (by omega) (by omega), if_pos (by omega)]
    have hV : Vt A t c = 0 := VV_zl (fun u hu => by have := gec_anti (f := A 3) (s := fun q => !t.testBit q) (show 0 ≤ u by omega) (A 0 1); omega)
    rw [hV, z0]
  | succ m ih =>
    intro n k t c x hk hn hg
    obtain ⟨n, rfl⟩ : ∃ k, n = k + 1 := ⟨n - 1, by omega⟩
    show m_Fore_mostWorth_B15 (m_Fore_mostWorth_L15 n) σ _ _ _ _ = _
    unfold m_Fore_mostWorth_B15
    obtain ⟨r1, e1, b1⟩ := x_strong hR hW t
    obtain ⟨r2, e2, b2⟩ := x_busy hR hW c
    rw [hR.1 1 (by omega), ile (by omega) (by omega), if_neg (by omega), e1, bnd_s, e2, bnd_s]
    rcases b1 with ⟨a, b⟩ | ⟨p, hp, hr1, hpb, hpm⟩
    · rw [if_pos a]
      have hV : Vt A t c = 0 := VV_zl (fun u hu => gec_zero (fun i hi hs => by rw [b i hi] at hs; cases hs))
      rw [hV, z0]
    · have hp9 := (hW.2.2.2.2.2.2 p hp).2.2.1
      rw [hr1, if_neg (neg_n (by omega))]
      rcases b2 with ⟨a, b⟩ | ⟨d, hd, hr2, hdb, hdm⟩
      · rw [if_pos a]
        have hV : Vt A t c = 0 := VV_zr (fun u hu => gec_zero (fun i hi hs => by rw [b i hi] at hs; cases hs))
        rw [hV, z0]
      · have hd9 := hW.2.2.2.2.2.1 d hd
        have rp : ∀ u, gec (A 3) (fun q => !t.testBit q) u (A 0 1) = gec (A 3) (fun q => !(t ||| 2 ^ p).testBit q) u (A 0 1) + (if u ≤ A 3 p then 1 else 0) := fun u => gec_rm (j := p) (by rw [hpb]; rfl) (by rw [or_self]; rfl) (fun i hi => by rw [or_set hi]) hp
        have rc : ∀ v, gec (A 1) (fun q => !c.testBit q) v (A 0 0) = gec (A 1) (fun q => !(c ||| 2 ^ d).testBit q) v (A 0 0) + (if v ≤ A 1 d then 1 else 0) := fun u => gec_rm (j := d) (by rw [hdb]; rfl) (by rw [or_self]; rfl) (fun i hi => by rw [or_set hi]) hd
        rw [hr2, if_neg (neg_n (by omega)), x_worth hR hW hp hd, bnd_s]
        simp only [nm_i]
        rw [or_c _ (by omega), or_c _ (by omega), ad_1, ih n (k + 1) (t ||| 2 ^ p) (c ||| 2 ^ d) _ (by omega) (by omega) (by
          have := rp 0
          rw [if_pos (Nat.zero_le _)] at this
          omega), Int32.add_assoc, ad_n]
        have hV : A 3 p * A 1 d + Vt A (t ||| 2 ^ p) (c ||| 2 ^ d) = Vt A t c := VV_eq hp9 hd9 rp rc (fun u v hu hv => by
          rw [gec_zero (fun i hi hs => by
            have h9 : A 1 i ≤ A 1 d := by
              by_cases e : i = d
              · rw [e]
                exact Nat.le_refl _
              · rw [or_set e] at hs
                exact hdm i hi (by simpa using hs)
            omega)]
          exact Nat.zero_le _) (fun u v hu hv => by
          rw [gec_zero (fun i hi hs => by
            have h9 : A 3 i ≤ A 3 p := by
              by_cases e : i = p
              · rw [e]
                exact Nat.le_refl _
              · rw [or_set e] at hs
                exact hpm i hi (by simpa using hs)
            omega)]
          exact Nat.zero_le _)
        rw [hV]
end BST
