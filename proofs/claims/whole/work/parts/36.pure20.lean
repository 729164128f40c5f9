/-! pure: best -/
theorem VV_567 {N M : Nat → Nat} (h : ∀ u, N u ≤ 7) : VV N M ≤ 567 := by
  have h1 : VV N M ≤ sm (fun _ => sm (fun _ => 7) 9) 9 := sm_le (fun u _ _ => sm_le (fun v _ _ => Nat.le_trans (Nat.min_le_left _ _) (h u)))
  exact Nat.le_trans h1 (by decide)
theorem gec_n (f : Nat → Nat) (s : Nat → Bool) (u : Nat) : ∀ n, gec f s u n ≤ n
  | 0 => by simp [gec]
  | n + 1 => by
    have := gec_n f s u n
    unfold gec
    split <;> omega
theorem Vf_le {A : Bt} (hW : WF A) (f F : Nat) : Vf A f F ≤ 567 := VV_567 (fun u => Nat.le_trans (gec_n _ _ u _) hW.2.1)
theorem gec_from (f : Nat → Nat) (a : Nat) : ∀ n, gec f (fun q => decide (a ≤ q)) 0 n = n - a
  | 0 => by simp [gec]
  | n + 1 => by
    show gec f (fun q => decide (a ≤ q)) 0 n + (if decide (a ≤ n) = true ∧ 0 ≤ f n then 1 else 0) = _
    rw [gec_from f a n]
    by_cases h : a ≤ n
    · rw [if_pos ⟨decide_eq_true h, Nat.zero_le _⟩]
      omega
    · rw [if_neg (fun z => h (of_decide_eq_true z.1))]
      omega
theorem xor_set {F c i : Nat} (h : i ≠ c) : (F ^^^ 2 ^ c).testBit i = F.testBit i := by
  rw [Nat.testBit_xor, Nat.testBit_two_pow]
  simp [show ¬ c = i from fun z => h z.symm]
theorem xor_self {F c : Nat} (h : F.testBit c = true) : (F ^^^ 2 ^ c).testBit c = false := by
  rw [Nat.testBit_xor, Nat.testBit_two_pow, h]
  simp
theorem pin_rm (A : Bt) {p : Nat} (hp : p < A 0 1) (u : Nat) : gec (A 3) (fun q => decide (p ≤ q)) u (A 0 1) = gec (A 3) (fun q => decide (p + 1 ≤ q)) u (A 0 1) + (if u ≤ A 3 p then 1 else 0) := gec_rm (j := p) (decide_eq_true (Nat.le_refl p)) (decide_eq_false (by omega)) (fun i hi => by
  by_cases h : p ≤ i
  · rw [decide_eq_true h, decide_eq_true (show p + 1 ≤ i by omega)]
  · rw [decide_eq_false h, decide_eq_false (show ¬ p + 1 ≤ i by omega)]) hp
theorem cell_rm (A : Bt) {F c : Nat} (hc : c < A 0 0) (hb : F.testBit c = true) (v : Nat) : gec (A 1) (fun q => F.testBit q) v (A 0 0) = gec (A 1) (fun q => (F ^^^ 2 ^ c).testBit q) v (A 0 0) + (if v ≤ A 1 c then 1 else 0) := gec_rm (j := c) hb (xor_self hb) (fun i hi => xor_set hi) hc
theorem best_bound {A : Bt} (hW : WF A) {p c F : Nat} (hp : p < A 0 1) (hc : c < A 0 0) (hb : F.testBit c = true) : A 3 p * A 1 c + Vf A (p + 1) (F ^^^ 2 ^ c) ≤ Vf A p F := VV_le (hW.2.2.2.2.2.2 p hp).2.2.1 (hW.2.2.2.2.2.1 c hc) (pin_rm A hp) (cell_rm A hc hb)
theorem find_w (M : Nat → Nat) (k : Nat) (h0 : k < M 0) : ∀ d, M d ≤ k → ∃ w, w < d ∧ k < M w ∧ M (w + 1) ≤ k
  | 0, h => absurd h (by omega)
  | d + 1, h => by
    by_cases hd : M d ≤ k
    · obtain ⟨w, a, b⟩ := find_w M k h0 d hd
      exact ⟨w, by omega, b⟩
    · exact ⟨d, by omega, by omega, h⟩
theorem best_exists {A : Bt} (hW : WF A) {p F : Nat} (hp : p < A 0 1) (hen : A 0 1 - p ≤ gec (A 1) (fun q => F.testBit q) 0 (A 0 0)) : ∃ c, c < A 0 0 ∧ F.testBit c = true ∧ A 3 p * A 1 c + Vf A (p + 1) (F ^^^ 2 ^ c) = Vf A p F := by
  have s9 := (hW.2.2.2.2.2.2 p hp).2.2.1
  have hk : gec (A 3) (fun q => decide (p + 1 ≤ q)) (A 3 p + 1) (A 0 1) ≤ A 0 1 - (p + 1) := by
    rw [← gec_from (A 3) (p + 1) (A 0 1)]
    exact gec_anti (Nat.zero_le _) _
  obtain ⟨w, hw, hw1, hw2⟩ := find_w (fun v => gec (A 1) (fun q => F.testBit q) v (A 0 0)) (gec (A 3) (fun q => decide (p + 1 ≤ q)) (A 3 p + 1) (A 0 1)) (by
    show _ < gec (A 1) (fun q => F.testBit q) 0 (A 0 0)
    omega) 10 (by
    show gec (A 1) (fun q => F.testBit q) 10 (A 0 0) ≤ _
    rw [gec_zero (fun i hi _ => by have := hW.2.2.2.2.2.1 i hi; omega)]
    exact Nat.zero_le _)
  have hw1' : gec (A 3) (fun q => decide (p + 1 ≤ q)) (A 3 p + 1) (A 0 1) < gec (A 1) (fun q => F.testBit q) w (A 0 0) := hw1
  have hw2' : gec (A 1) (fun q => F.testBit q) (w + 1) (A 0 0) ≤ gec (A 3) (fun q => decide (p + 1 ≤ q)) (A 3 p + 1) (A 0 1) := hw2
  obtain ⟨c, hc, hb, c1, c2⟩ := gec_has (show gec (A 1) (fun q => F.testBit q) (w + 1) (A 0 0) < gec (A 1) (fun q => F.testBit q) w (A 0 0) by omega)
  have ew : A 1 c = w := by omega
  refine ⟨c, hc, hb, VV_eq s9 (hW.2.2.2.2.2.1 c hc) (pin_rm A hp) (cell_rm A hc hb) (fun u v hu hv => ?_) (fun u v hu hv => ?_)⟩
  · have e1 := cell_rm A hc hb v
    rw [if_neg (by omega)] at e1
    have e2 : gec (A 1) (fun q => F.testBit q) v (A 0 0) ≤ gec (A 1) (fun q => F.testBit q) (w + 1) (A 0 0) := gec_anti (by omega) _
    have e3 : gec (A 3) (fun q => decide (p + 1 ≤ q)) (A 3 p + 1) (A 0 1) ≤ gec (A 3) (fun q => decide (p + 1 ≤ q)) u (A 0 1) := gec_anti (by omega) _
    omega
  · have e1 := cell_rm A hc hb v
    rw [if_pos (by omega)] at e1
    have e2 : gec (A 1) (fun q => F.testBit q) w (A 0 0) ≤ gec (A 1) (fun q => F.testBit q) v (A 0 0) := gec_anti (by omega) _
    have e3 : gec (A 3) (fun q => decide (p + 1 ≤ q)) u (A 0 1) ≤ gec (A 3) (fun q => decide (p + 1 ≤ q)) (A 3 p + 1) (A 0 1) := gec_anti (by omega) _
    omega
def good (A : Bt) (p F c : Nat) : Prop := F.testBit c = true ∧ A 3 p * A 1 c + Vf A (p + 1) (F ^^^ 2 ^ c) = Vf A p F
noncomputable def lcs (A : Bt) (p F : Nat) : Nat → Nat → Option Nat
  | 0, _ => none
  | m + 1, c => @ite (Option Nat) (good A p F c) (Classical.propDecidable _) (some c) (lcs A p F m (c + 1))
theorem lcs_some {A : Bt} {p F : Nat} : ∀ {m c : Nat}, (∃ d, c ≤ d ∧ d < c + m ∧ good A p F d) → ∃ d, lcs A p F m c = some d ∧ d < c + m ∧ good A p F d
  | 0, _, ⟨d, h1, h2, _⟩ => absurd h2 (by omega)
  | m + 1, c, ⟨d, h1, h2, h3⟩ => by
    unfold lcs
    by_cases h : good A p F c
    · rw [if_pos h]
      exact ⟨c, rfl, by omega, h⟩
    · rw [if_neg h]
      obtain ⟨e, e1, e2, e3⟩ := lcs_some (m := m) (c := c + 1) ⟨d, by
        by_cases hd : d = c
        · rw [hd] at h3
          exact absurd h3 h
        · omega, by omega, h3⟩
      exact ⟨e, e1, by omega, e3⟩
theorem lcs_in {A : Bt} {p F : Nat} : ∀ {m c d : Nat}, lcs A p F m c = some d → c ≤ d ∧ d < c + m
  | 0, _, _, h => by cases h
  | m + 1, c, d, h => by
    unfold lcs at h
    by_cases hg : good A p F c
    · rw [if_pos hg] at h
      cases h
      omega
    · rw [if_neg hg] at h
      have := lcs_in h
      omega
theorem Vt_f {A : Bt} {f t T F : Nat} (h1 : ∀ q, q < A 0 1 → t.testBit q = decide (q < f)) (h2 : ∀ q, q < A 0 0 → T.testBit q = !F.testBit q) : Vt A t T = Vf A f F := by
  unfold Vt Vf
  refine VV_congr (fun u => gec_congr (fun i hi => ?_)) (fun u => gec_congr (fun i hi => ?_))
  · rw [h1 i hi]
    by_cases h : i < f
    · rw [decide_eq_true h, decide_eq_false (show ¬ f ≤ i by omega)]
      rfl
    · rw [decide_eq_false h, decide_eq_true (show f ≤ i by omega)]
      rfl
  · rw [h2 i hi]
    cases F.testBit i <;> rfl
theorem shl_7 : ∀ p, p < 8 → (((1 : Int32) <<< (nI p &&& 31)) - 1) = nI (2 ^ p - 1) := by decide +kernel
theorem shl_16 : ∀ p, p < 17 → (((1 : Int32) <<< (nI p &&& 31)) - 1) = nI (2 ^ p - 1) := by decide +kernel
section BST2
variable {A : Bt}
theorem x_mostW {σ : St} (hR : RB σ 21 A) (hW : WF A) {f T F : Nat} (hf : f ≤ A 0 1) (h2 : ∀ q, q < A 0 0 → T.testBit q = !F.testBit q) : m_Fore_mostWorth σ (nI f) (nI T) = some (nI (Vf A f F), σ) := by
  have w1 := hW.2.1
  have ht : ∀ q, q < A 0 1 → (2 ^ f - 1).testBit q = decide (q < f) := fun q _ => Nat.testBit_two_pow_sub_one f q
  unfold m_Fore_mostWorth
  rw [nm_i, shl_7 f (by omega), x_most_l hR hW (A 0 1 - f) FU f (2 ^ f - 1) T 0 (by omega) (fu_lt (by omega)) (by
    rw [← gec_from (A 3) f (A 0 1)]
    refine gec_congr (fun i hi => ?_)
    rw [ht i hi]
    by_cases h : i < f
    · rw [decide_eq_true h, decide_eq_false (show ¬ f ≤ i by omega)]
      rfl
    · rw [decide_eq_false h, decide_eq_true (show f ≤ i by omega)]
      rfl), Vt_f ht h2, Int32.zero_add]
theorem x_least {σ : St} (hR : RB σ 21 A) (hW : WF A) {p T F : Nat} (hp : p < A 0 1) (h2 : ∀ q, q < A 0 0 → T.testBit q = !F.testBit q) : ∀ (m n c : Nat), c + m = A 0 0 → m < n → m_Fore_leastCell_L3 n σ (nI p) (nI T) (nI (Vf A p F)) (nI c) = some ((match lcs A p F m c with | none => -1000000 | some d => nI d), σ) := by
  have w0 := hW.1
  have w1 := hW.2.1
  intro m
  induction m with
  | zero =>
    intro n c hc hn
    obtain ⟨n, rfl⟩ : ∃ k, n = k + 1 := ⟨n - 1, by omega⟩
    show m_Fore_leastCell_B3 (m_Fore_leastCell_L3 n) σ _ _ _ _ = _
    unfold m_Fore_leastCell_B3
    rw [hR.1 0 (by omega), ile (by omega) (by omega), if_pos (by omega)]
    rfl
  | succ m ih =>
    intro n c hc hn
    obtain ⟨n, rfl⟩ : ∃ k, n = k + 1 := ⟨n - 1, by omega⟩
    show m_Fore_leastCell_B3 (m_Fore_leastCell_L3 n) σ _ _ _ _ = _
    unfold m_Fore_leastCell_B3 m_Fore_leastCell_B62 lcs
    have hcc : c < A 0 0 := by omega
    rw [hR.1 0 (by omega), ile (by omega) (by omega), if_neg (by omega), x_isSetg σ T (by omega), bnd_s, ad_1, ad_1, ih n (c + 1) (by omega) (by omega)]
    by_cases hb : F.testBit c = true
    · have hT : ¬ T.testBit c = true := by
        rw [h2 c hcc, hb]
        decide
      have hT2 : ∀ q, q < A 0 0 → (T ||| 2 ^ c).testBit q = !(F ^^^ 2 ^ c).testBit q := fun q hq => by
        by_cases e : q = c
        · rw [e, or_self, xor_self hb]
          rfl
        · rw [or_set e, xor_set e]
          exact h2 q hq
      have v1 := Vf_le hW (p + 1) (F ^^^ 2 ^ c)
      have v2 := Vf_le hW p F
      have hbd := best_bound hW hp hcc hb
      rw [if0 hT, or_c _ (by omega), x_mostW hR hW (show p + 1 ≤ A 0 1 by omega) hT2, bnd_s, x_worth hR hW hp hcc, bnd_s, ad_n, ieq (by omega) (by omega)]
      by_cases hg : A 3 p * A 1 c + Vf A (p + 1) (F ^^^ 2 ^ c) = Vf A p F
      · rw [if_pos hg, if_pos (show good A p F c from ⟨hb, hg⟩)]
      · rw [if_neg hg, if_neg (show ¬ good A p F c from fun z => hg z.2)]
        exact ih n (c + 1) (by omega) (by omega)
    · have hT : T.testBit c = true := by
        rw [h2 c hcc, show F.testBit c = false by simpa using hb]
        rfl
      rw [if1 hT, if_neg (show ¬ good A p F c from fun z => hb z.1)]
theorem clr_n {F c : Nat} (hc : c < 16) (hb : F.testBit c = true) : nI F &&& (((1 : Int32) <<< (nI c &&& 31)) ^^^ (-1 : Int32)) = nI (F ^^^ 2 ^ c) := by
  rw [shl_1 c hc]
  apply Int32.toBitVec_inj.mp
  apply BitVec.eq_of_getLsbD_eq
  intro i hi
  rw [andn_bit]
  show _ = (BitVec.ofNat 32 (F ^^^ 2 ^ c)).getLsbD i
  rw [BitVec.getLsbD_ofNat, Nat.testBit_xor, Nat.testBit_two_pow]
  by_cases e : c = i
  · subst e
    simp [hb]
  · simp [e]
noncomputable def gch (A : Bt) (p F : Nat) : Nat := (lcs A p F (A 0 0) 0).getD 0
theorem gch_ok (hW : WF A) {p F : Nat} (hp : p < A 0 1) (hen : A 0 1 - p ≤ gec (A 1) (fun q => F.testBit q) 0 (A 0 0)) : lcs A p F (A 0 0) 0 = some (gch A p F) ∧ gch A p F < A 0 0 ∧ good A p F (gch A p F) := by
  obtain ⟨c, hc, hb, he⟩ := best_exists hW hp hen
  obtain ⟨d, d1, d2, d3⟩ := lcs_some (A := A) (p := p) (F := F) (m := A 0 0) (c := 0) ⟨c, by omega, by omega, hb, he⟩
  unfold gch
  rw [d1]
  exact ⟨rfl, by show d < A 0 0; omega, d3⟩
theorem m_least (hW : WF A) {p F d : Nat} (hp : p < A 0 1) (hen : A 0 1 - p ≤ gec (A 1) (fun q => F.testBit q) 0 (A 0 0)) (r : St → Int32 → Int32 → Int32 → Int32 → Int32 → Rt) (x1 x3 : Int32) : ∀ (m n c : Nat) (μ : St), c + m = A 0 0 → m < n → RM (μ 6) A (plc A) → lcs A p F m c = some d → ∃ μ', m_M_best_L82 r n μ x1 (nI F) x3 (nI (Vf A p F)) (nI p) (nI c) = m_M_best_B145 r μ' x1 (nI F) x3 (nI (Vf A p F)) (nI p) (nI d) ∧ ∀ a, a ≠ 12 → a ≠ 13 → μ' a = μ a := by
  have w0 := hW.1
  have w1 := hW.2.1
  intro m
  induction m with
  | zero =>
    intro n c μ hc hn hM hd
    cases hd
  | succ m ih =>
    intro n c μ hc hn hM hd
    obtain ⟨n, rfl⟩ : ∃ k, n = k + 1 := ⟨n - 1, by omega⟩
    show ∃ μ', m_M_best_B82 r (m_M_best_L82 r n) μ _ _ _ _ _ _ = _ ∧ _
    unfold m_M_best_B82 m_M_best_B139
    have hcc : c < A 0 0 := by omega
    unfold lcs at hd
    rw [m_hasg μ F (by omega), bnd_s, ad_1, ad_1]
    by_cases hb : F.testBit c = true
    · have v1 := Vf_le hW (p + 1) (F ^^^ 2 ^ c)
      have v2 := Vf_le hW p F
      have hbd := best_bound hW hp hcc hb
      have hrm := cell_rm A hcc hb 0
      rw [if_pos (Nat.zero_le _)] at hrm
      obtain ⟨μ1, e1, f1⟩ := m_most hW hM (f := p + 1) (F := F ^^^ 2 ^ c) (by omega) (by omega)
      rw [if1 hb, ix0, li_2, li_6, ad_n, ad_n, hw6, bd_n (by omega) (by omega), bd_n (by omega) (by omega), clr_n (by omega) hb, e1, bnd_s, cl_n (by omega), cl_n (by omega), (hM.2.2.2.2.2.2.2 p hp).2.2.1, hM.2.2.2.2.2.2.1 c hcc, mu_n, ad_n, ile (by omega) (by omega)]
      by_cases hg : A 3 p * A 1 c + Vf A (p + 1) (F ^^^ 2 ^ c) = Vf A p F
      · rw [if_pos (show good A p F c from ⟨hb, hg⟩)] at hd
        cases hd
        rw [if_pos (by omega)]
        exact ⟨μ1, rfl, f1⟩
      · rw [if_neg (show ¬ good A p F c from fun z => hg z.2)] at hd
        rw [if_neg (by omega)]
        obtain ⟨μ2, e2, f2⟩ := ih n (c + 1) μ1 (by omega) (by omega) (by rw [f1 6 (by omega) (by omega)]; exact hM) hd
        exact ⟨μ2, e2, fun a h1 h2 => (f2 a h1 h2).trans (f1 a h1 h2)⟩
    · rw [if_neg (show ¬ good A p F c from fun z => hb z.1)] at hd
      rw [if0 hb]
      exact ih n (c + 1) μ (by omega) (by omega) hM hd
noncomputable def Fs (A : Bt) : Nat → Nat
  | 0 => 2 ^ A 0 0 - 1
  | p + 1 => Fs A p ^^^ 2 ^ gch A p (Fs A p)
theorem Fs_cnt (hW : WF A) (hpc : A 0 1 ≤ A 0 0) : ∀ p, p ≤ A 0 1 → gec (A 1) (fun q => (Fs A p).testBit q) 0 (A 0 0) = A 0 0 - p
  | 0, _ => by
    rw [gec_congr (s' := fun q => decide (0 ≤ q)) (fun i hi => ?_), gec_from]
    show (2 ^ A 0 0 - 1).testBit i = decide (0 ≤ i)
    rw [Nat.testBit_two_pow_sub_one, decide_eq_true hi, decide_eq_true (Nat.zero_le i)]
  | p + 1, h => by
    have ih := Fs_cnt hW hpc p (by omega)
    obtain ⟨g1, g2, g3⟩ := gch_ok hW (p := p) (F := Fs A p) (by omega) (by omega)
    have hrm := cell_rm A g2 g3.1 0
    rw [if_pos (Nat.zero_le _)] at hrm
    show gec (A 1) (fun q => (Fs A p ^^^ 2 ^ gch A p (Fs A p)).testBit q) 0 (A 0 0) = _
    omega
theorem x_bestc {σ : St} (hR : RB σ 21 A) (hW : WF A) (hpc : A 0 1 ≤ A 0 0) {w : Nat} (hw : w < A 0 1) : ∀ (m n p T : Nat) (x4 : Int32), p + m = w + 1 → m < n → (∀ q, q < A 0 0 → T.testBit q = !(Fs A p).testBit q) → (m = 0 → x4 = nI (gch A w (Fs A w))) → m_Fore_bestCell_L16 n σ (nI w) (nI (Vf A p (Fs A p))) (nI T) x4 (nI p) = some (nI (gch A w (Fs A w)), σ) := by
  have w0 := hW.1
  have w1 := hW.2.1
  intro m
  induction m with
  | zero =>
    intro n p T x4 hp hn hT hx
    obtain ⟨n, rfl⟩ : ∃ k, n = k + 1 := ⟨n - 1, by omega⟩
    show m_Fore_bestCell_B16 (m_Fore_bestCell_L16 n) σ _ _ _ _ _ = _
    unfold m_Fore_bestCell_B16
    rw [ilt (by omega) (by omega), if_pos (by omega), hx rfl]
  | succ m ih =>
    intro n p T x4 hp hn hT hx
    obtain ⟨n, rfl⟩ : ∃ k, n = k + 1 := ⟨n - 1, by omega⟩
    show m_Fore_bestCell_B16 (m_Fore_bestCell_L16 n) σ _ _ _ _ _ = _
    unfold m_Fore_bestCell_B16 m_Fore_leastCell
    have hpP : p < A 0 1 := by omega
    have hcn := Fs_cnt hW hpc p (by omega)
    obtain ⟨g1, g2, g3⟩ := gch_ok hW (p := p) (F := Fs A p) hpP (by omega)
    have v1 := Vf_le hW p (Fs A p)
    rw [ilt (by omega) (by omega), if_neg (by omega), li_0, x_least hR hW hpP hT (A 0 0) FU 0 (by omega) (fu_lt (by omega)), bnd_s, g1]
    show (if nI (gch A p (Fs A p)) = (-1000000 : Int32) then _ else _) = _
    rw [if_neg (neg_n (by omega))]
    simp only [nm_i]
    rw [or_c _ (by omega), x_worth hR hW hpP g2, bnd_s, sb_n (by have := g3.2; omega), ad_1]
    have eL : Vf A p (Fs A p) - A 3 p * A 1 (gch A p (Fs A p)) = Vf A (p + 1) (Fs A (p + 1)) := by
      have := g3.2
      show _ = Vf A (p + 1) (Fs A p ^^^ 2 ^ gch A p (Fs A p))
      omega
    rw [eL]
    refine ih n (p + 1) _ _ (by omega) (by omega) (fun q hq => ?_) (fun h0 => ?_)
    · show (T ||| 2 ^ gch A p (Fs A p)).testBit q = !(Fs A p ^^^ 2 ^ gch A p (Fs A p)).testBit q
      by_cases e : q = gch A p (Fs A p)
      · rw [e, or_self, xor_self g3.1]
        rfl
      · rw [or_set e, xor_set e]
        exact hT q hq
    · rw [show p = w by omega]
theorem m_bestc (hW : WF A) (hpc : A 0 1 ≤ A 0 0) (x1 x3 : Int32) : ∀ (m n p : Nat) (μ : St), p + m = A 0 1 → m < n → RM (μ 6) A (plc A) → (∀ q, q < p → μ 14 q = nI (gch A q (Fs A q))) → ∃ μ', m_M_best_L68 n μ x1 (nI (Fs A p)) x3 (nI (Vf A p (Fs A p))) (nI p) = m_M_best_B200 μ' x1 x3 ∧ (∀ a, a ≠ 12 → a ≠ 13 → a ≠ 14 → μ' a = μ a) ∧ ∀ q, q < A 0 1 → μ' 14 q = nI (gch A q (Fs A q)) := by
  have w0 := hW.1
  have w1 := hW.2.1
  have hb : ∀ t : Rt, bd (2 : Int32) 64 t = t := fun t => bd_n (n := 2) (by omega) (by omega)
  intro m
  induction m with
  | zero =>
    intro n p μ hp hn hM hg
    obtain ⟨n, rfl⟩ : ∃ k, n = k + 1 := ⟨n - 1, by omega⟩
    refine ⟨μ, ?_, fun _ _ _ _ => rfl, fun q hq => hg q (by omega)⟩
    show m_M_best_B68 (m_M_best_L68 n) μ _ _ _ _ _ = _
    unfold m_M_best_B68
    rw [hw6, hb, show (2 : Int32).toNatClampNeg = 2 from rfl, hM.2.2.1, ile (by omega) (by omega), if_pos (by omega)]
  | succ m ih =>
    intro n p μ hp hn hM hg
    obtain ⟨n, rfl⟩ : ∃ k, n = k + 1 := ⟨n - 1, by omega⟩
    show ∃ μ', m_M_best_B68 (m_M_best_L68 n) μ _ _ _ _ _ = _ ∧ _
    unfold m_M_best_B68
    have hpP : p < A 0 1 := by omega
    have hcn := Fs_cnt hW hpc p (by omega)
    obtain ⟨g1, g2, g3⟩ := gch_ok hW (p := p) (F := Fs A p) hpP (by omega)
    obtain ⟨μ1, e1, f1⟩ := m_least hW hpP (F := Fs A p) (by omega) (m_M_best_L68 n) x1 x3 (A 0 0) FU 0 μ (by omega) (fu_lt (by omega)) hM g1
    have v1 := Vf_le hW p (Fs A p)
    rw [hw6, hb, show (2 : Int32).toNatClampNeg = 2 from rfl, hM.2.2.1, ile (by omega) (by omega), if_neg (by omega), li_0, e1]
    unfold m_M_best_B145
    have hM1 : RM (μ1 6) A (plc A) := by rw [f1 6 (by omega) (by omega)]; exact hM
    rw [show lenM 14 = 7 from rfl, bd_n (by omega) (by omega), nmS_e, nm_i, clr_n (by omega) g3.1, ix0, li_2, li_6, ad_n, ad_n, hw6, bd_n (by omega) (by omega), bd_n (by omega) (by omega), nm_i, cl_n (by omega), cl_n (by omega), cl_n (by omega), up_o (by omega), (hM1.2.2.2.2.2.2.2 p hpP).2.2.1, hM1.2.2.2.2.2.2.1 _ g2, mu_n, sb_n (by have := g3.2; omega), ad_1]
    have eL : Vf A p (Fs A p) - A 3 p * A 1 (gch A p (Fs A p)) = Vf A (p + 1) (Fs A (p + 1)) := by
      have := g3.2
      show _ = Vf A (p + 1) (Fs A p ^^^ 2 ^ gch A p (Fs A p))
      omega
    rw [eL]
    obtain ⟨μ2, a1, a2, a3⟩ := ih n (p + 1) (up μ1 14 p (nI (gch A p (Fs A p)))) (by omega) (by omega) (by rw [up_o (by omega)]; exact hM1) (fun q hq => by
      rw [up_v]
      by_cases e : q = p
      · rw [if_pos ⟨rfl, e⟩, e]
      · rw [if_neg (fun z => e z.2), f1 14 (by omega) (by omega)]
        exact hg q (by omega))
    exact ⟨μ2, a1, fun a h1 h2 h3 => by rw [a2 a h1 h2 h3, up_o h3, f1 a h1 h2], a3⟩
end BST2
theorem a_best (x : Int32) {σ μ : St} (h : Rel σ μ) : Sr Rel (m_P_best σ x) (m_M_best μ x) := by
  obtain ⟨A, hR, hM, hW, hT⟩ := id h.2.2.2.2.2.1
  have w0 := hW.1
  have w1 := hW.2.1
  have key : (x = -1 ∨ ∃ p, p < A 0 1 ∧ x = nI p) → Sr Rel (m_P_best_B32 σ x) (m_M_best_B26 μ x) := by
    intro hx
    unfold m_P_best_B32 m_M_best_B26
    have hb1 : ∀ t : Rt, bd (1 : Int32) 64 t = t := fun t => bd_n (n := 1) (by omega) (by omega)
    have hb2 : ∀ t : Rt, bd (2 : Int32) 64 t = t := fun t => bd_n (n := 2) (by omega) (by omega)
    rw [hw6, hb1, hb1, hb2, show (2 : Int32).toNatClampNeg = 2 from rfl, show (1 : Int32).toNatClampNeg = 1 from rfl, hM.2.1, hM.2.2.1, hR.1 0 (by omega), hR.1 1 (by omega), ile (by omega) (by omega), ile (by omega) (by omega)]
    refine sr_ite (fun hpc => ?_) (fun _ => Sr.fin h)
    rw [nm_i, shl_16 _ (by omega), li_0]
    have hc0 := Fs_cnt hW hpc 0 (by omega)
    have hc0' : gec (A 1) (fun q => (2 ^ A 0 0 - 1).testBit q) 0 (A 0 0) = A 0 0 - 0 := hc0
    obtain ⟨μ1, e1, f1⟩ := m_most hW hM (f := 0) (F := 2 ^ A 0 0 - 1) (by omega) (by omega)
    have hM1 : RM (μ1 6) A (plc A) := by rw [f1 6 (by omega) (by omega)]; exact hM
    obtain ⟨μ2, e2, f2, g2⟩ := m_bestc hW hpc x (nI (Vf A 0 (2 ^ A 0 0 - 1))) (A 0 1) FU 0 μ1 (by omega) (fu_lt (by omega)) hM1 (fun q hq => absurd hq (by omega))
    have e2' : m_M_best_L68 FU μ1 x (nI (2 ^ A 0 0 - 1)) (nI (Vf A 0 (2 ^ A 0 0 - 1))) (nI (Vf A 0 (2 ^ A 0 0 - 1))) (nI 0) = m_M_best_B200 μ2 x (nI (Vf A 0 (2 ^ A 0 0 - 1))) := e2
    have hR2 : Rel σ μ2 := h.k (fun a _ => rfl) (fun a _ _ _ h12 h13 h14 => by rw [f2 a h12 h13 h14, f1 a h12 h13])
    have hcm : ∀ q, q < A 0 0 → (0 : Nat).testBit q = !(2 ^ A 0 0 - 1).testBit q := fun q hq => by
      rw [Nat.zero_testBit, Nat.testBit_two_pow_sub_one, decide_eq_true hq]
      rfl
    have em := x_mostW hR hW (f := 0) (T := 0) (F := 2 ^ A 0 0 - 1) (by omega) hcm
    rw [e1, bnd_s, e2']
    unfold m_M_best_B200 m_Fore_bestCell
    refine sr_ite (fun _ => ?_) (fun hx1 => ?_)
    · rw [em, bnd_s]
      exact Sr.fin hR2
    · rcases hx with hx | ⟨p, hp, rfl⟩
      · exact absurd hx hx1
      · have eb := x_bestc hR hW hpc hp (p + 1) FU 0 0 (-1000000) (by omega) (fu_lt (by omega)) hcm (fun z => absurd z (by omega))
        have eb' : m_Fore_bestCell_L16 FU σ (nI p) (nI (Vf A 0 (2 ^ A 0 0 - 1))) (nI 0) (-1000000) (nI 0) = some (nI (gch A p (Fs A p)), σ) := eb
        rw [li_0, em, bnd_s, eb', bnd_s, show lenM 14 = 7 from rfl, bd_n (by omega) (by omega), cl_n (by omega), g2 p hp]
        exact Sr.fin hR2
  unfold m_P_best m_M_best
  rw [x_stands hR hW, bnd_s, m_isMap hM hW, bnd_s]
  refine sr_if (fun _ => Sr.fin h) (fun _ => ?_)
  refine sr_ite (fun hx => key (Or.inl hx)) (fun _ => ?_)
  rw [x_hasPin hR hW, bnd_s, m_isPin hM hW, bnd_s]
  exact sr_if (fun _ => Sr.fin h) (fun hp => key (Or.inr hp))
