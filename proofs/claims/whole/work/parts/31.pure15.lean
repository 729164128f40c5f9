/-! pure: rings -/
theorem cnt_or : ∀ t, t < 128 → ∀ k, k < 7 → t.testBit k = false → cnt (t ||| 2 ^ k) = cnt t + 1 := by decide +kernel
theorem cnt_full : ∀ n, n < 8 → ∀ t, t < 128 → t < 2 ^ n → n ≤ cnt t → ∀ q, q < n → t.testBit q = true := by decide +kernel
theorem cnt_lt : ∀ n, n < 8 → ∀ t, t < 128 → t < 2 ^ n → cnt t ≤ n := by decide +kernel
theorem or_lt {n t k : Nat} (h : t < 2 ^ n) (hk : k < n) : t ||| 2 ^ k < 2 ^ n := Nat.or_lt_two_pow h (Nat.pow_lt_pow_right (by decide) hk)
def orb (B : Bt) (q : Nat) : Nat → Nat
  | 0 => q
  | j + 1 => orb B (nxt B q) j
theorem ring_x {B : Bt} (hW : WF B) (hF : fit B) {σ : St} {b : Nat} (hR : RB σ b B) : ∀ (m n i k R : Nat), i + m = B 0 1 → m < n → k < B 0 1 → R < 2 ^ (B 0 1) → ∃ R', m_Board_ringOf_L7 b n σ (nI R) (nI k) (nI i) = some (nI R', σ) ∧ R' < 2 ^ (B 0 1) ∧ ∀ q, R'.testBit q = true ↔ R.testBit q = true ∨ ∃ j, j < m ∧ orb B k j = q := by
  have w1 := hW.2.1
  intro m
  induction m with
  | zero =>
    intro n i k R hi hn hk hRl
    obtain ⟨n, rfl⟩ : ∃ k, n = k + 1 := ⟨n - 1, by omega⟩
    refine ⟨R, ?_, hRl, fun q => ⟨Or.inl, fun z => ?_⟩⟩
    · show m_Board_ringOf_B7 b (m_Board_ringOf_L7 b n) σ _ _ _ = _
      unfold m_Board_ringOf_B7
      rw [hR.1 1 (by omega), ile (by omega) (by omega), if_pos (by omega)]
    · rcases z with z | ⟨j, hj, _⟩
      · exact z
      · omega
  | succ m ih =>
    intro n i k R hi hn hk hRl
    obtain ⟨n, rfl⟩ : ∃ k, n = k + 1 := ⟨n - 1, by omega⟩
    obtain ⟨x1, x2⟩ := nxt_in hW hk (hF k hk).1
    obtain ⟨R', e1, e2, e3⟩ := ih n (i + 1) (nxt B k) (R ||| 2 ^ k) (by omega) (by omega) x1 (or_lt hRl hk)
    refine ⟨R', ?_, e2, fun q => ?_⟩
    · show m_Board_ringOf_B7 b (m_Board_ringOf_L7 b n) σ _ _ _ = _
      unfold m_Board_ringOf_B7
      rw [hR.1 1 (by omega), ile (by omega) (by omega), if_neg (by omega), x_hasPin hR hW, bnd_s, if1 ⟨k, hk, rfl⟩, nm_i, bd_n (by omega) (by omega), cl_n (by omega), hR.2.2 6 (by omega) (by omega) k hk, x_owner hR hW, bnd_s, x2, or_c _ (by omega), ad_1]
      exact e1
    · rw [e3 q, Nat.testBit_or, Bool.or_eq_true, Nat.testBit_two_pow]
      simp only [decide_eq_true_eq]
      constructor
      · rintro ((z | z) | ⟨j, hj, z⟩)
        · exact Or.inl z
        · exact Or.inr ⟨0, by omega, z⟩
        · exact Or.inr ⟨j + 1, by omega, z⟩
      · rintro (z | ⟨j, hj, z⟩)
        · exact Or.inl (Or.inl z)
        · cases j with
          | zero => exact Or.inl (Or.inr z)
          | succ j => exact Or.inr ⟨j, by omega, z⟩
theorem ring_m {B : Bt} (hW : WF B) (hF : fit B) {μ : St} (hM : RM (μ 6) B (plc B)) (hd : B 0 5 = 1) (r : St → Int32 → Int32 → Int32 → Rt) (x1 x3 : Int32) : ∀ (m n k S : Nat), B 0 1 ≤ cnt S + m → m < n → k < B 0 1 → S < 2 ^ (B 0 1) → ∃ S', m_M_changes_L105 r n μ x1 (nI S) x3 (nI k) = m_M_changes_B148 r μ x1 (nI S') x3 ∧ S' < 2 ^ (B 0 1) ∧ (∀ q, S.testBit q = true → S'.testBit q = true) ∧ S'.testBit k = true ∧ (∀ q, S'.testBit q = true → S.testBit q = true ∨ ∃ j, j < m ∧ orb B k j = q) ∧ ∀ q, S'.testBit q = true → S.testBit q = true ∨ S'.testBit (nxt B q) = true := by
  have w0 := hW.1
  have w1 := hW.2.1
  have h128 : ∀ S, S < 2 ^ (B 0 1) → S < 128 := fun S h => Nat.lt_of_lt_of_le h (show 2 ^ (B 0 1) ≤ 2 ^ 7 from Nat.pow_le_pow_right (by decide) w1)
  have stop : ∀ (n k S : Nat), S.testBit k = true → k < B 0 1 → S < 2 ^ (B 0 1) → m_M_changes_L105 r (n + 1) μ x1 (nI S) x3 (nI k) = m_M_changes_B148 r μ x1 (nI S) x3 := by
    intro n k S hk hkn hS
    show m_M_changes_B105 r (m_M_changes_L105 r n) μ _ _ _ _ = _
    unfold m_M_changes_B105
    rw [m_has μ (h128 S hS) (by omega), bnd_s, if1 hk]
  intro m
  induction m with
  | zero =>
    intro n k S hc hn hk hS
    obtain ⟨n, rfl⟩ : ∃ k, n = k + 1 := ⟨n - 1, by omega⟩
    have hb := cnt_full (B 0 1) (by omega) S (h128 S hS) hS (by omega) k hk
    exact ⟨S, stop n k S hb hk hS, hS, fun _ z => z, hb, fun _ z => Or.inl z, fun _ z => Or.inl z⟩
  | succ m ih =>
    intro n k S hc hn hk hS
    obtain ⟨n, rfl⟩ : ∃ k, n = k + 1 := ⟨n - 1, by omega⟩
    by_cases hb : S.testBit k = true
    · exact ⟨S, stop n k S hb hk hS, hS, fun _ z => z, hb, fun _ z => Or.inl z, fun _ z => Or.inl z⟩
    · obtain ⟨y1, y2⟩ := nxt_in hW hk (hF k hk).1
      have hl := hW.last hk
      have hcn := cnt_or S (h128 S hS) k (by omega) (by simpa using hb)
      obtain ⟨S', e1, e2, e3, e4, e5, e6⟩ := ih n (nxt B k) (S ||| 2 ^ k) (by omega) (by omega) y1 (or_lt hS hk)
      have ho : ∀ q, (S ||| 2 ^ k).testBit q = true ↔ S.testBit q = true ∨ k = q := fun q => by
        rw [Nat.testBit_or, Bool.or_eq_true, Nat.testBit_two_pow]
        simp only [decide_eq_true_eq]
      refine ⟨S', ?_, e2, fun q z => e3 q ((ho q).mpr (Or.inl z)), e3 k ((ho k).mpr (Or.inr rfl)), fun q z => ?_, fun q z => ?_⟩
      · show m_M_changes_B105 r (m_M_changes_L105 r n) μ _ _ _ _ = _
        unfold m_M_changes_B105
        rw [m_has μ (h128 S hS) (by omega), bnd_s, if0 hb, nm_i, ix0, li_4, ad_n, hw6, bd_n (by omega) (by omega), cl_n (by omega), (hM.2.2.2.2.2.2.2 k hk).2.2.2.2.1, plc_day hd, m_homeOf hw6 hM hW, bnd_s, y2, or_c _ (by omega)]
        exact e1
      · rcases e5 q z with z | ⟨j, hj, z⟩
        · rcases (ho q).mp z with z | z
          · exact Or.inl z
          · exact Or.inr ⟨0, by omega, z⟩
        · exact Or.inr ⟨j + 1, by omega, z⟩
      · rcases e6 q z with z | z
        · rcases (ho q).mp z with z | z
          · exact Or.inl z
          · rw [← z]
            exact Or.inr e4
        · exact Or.inr z
theorem orb_in {B : Bt} (hW : WF B) (hF : fit B) {S : Nat} (hc : ∀ q, q < B 0 1 → S.testBit q = true → S.testBit (nxt B q) = true) : ∀ (j k : Nat), k < B 0 1 → S.testBit k = true → S.testBit (orb B k j) = true
  | 0, _, _, h => h
  | j + 1, k, hk, h => orb_in hW hF hc j (nxt B k) (nxt_in hW hk (hF k hk).1).1 (hc k hk h)
theorem a_rings {B : Bt} (hW : WF B) (hF : fit B) {σ μ : St} (hR : RB σ 21 B) (hM : RM (μ 6) B (plc B)) (hd : B 0 5 = 1) (h : Rel σ μ) : ∀ (m n p S : Nat) (x : Int32), p + m = B 0 1 → m < n → S < 2 ^ (B 0 1) → (∀ q, q < B 0 1 → S.testBit q = true → S.testBit (nxt B q) = true) → Sr Rel (m_Board_fewestChanges_L23 21 n σ x (nI S) (nI p)) (m_M_changes_L76 n μ x (nI S) (nI p)) := by
  have w0 := hW.1
  have w1 := hW.2.1
  have h128 : ∀ S, S < 2 ^ (B 0 1) → S < 128 := fun S h => Nat.lt_of_lt_of_le h (show 2 ^ (B 0 1) ≤ 2 ^ 7 from Nat.pow_le_pow_right (by decide) w1)
  intro m
  induction m with
  | zero =>
    intro n p S x hp hn hS hc
    obtain ⟨n, rfl⟩ : ∃ k, n = k + 1 := ⟨n - 1, by omega⟩
    show Sr Rel (m_Board_fewestChanges_B23 21 (m_Board_fewestChanges_L23 21 n) σ _ _ _) (m_M_changes_B76 (m_M_changes_L76 n) μ _ _ _)
    unfold m_Board_fewestChanges_B23 m_M_changes_B76 m_M_changes_B154
    have hb : ∀ t : Rt, bd (2 : Int32) 64 t = t := fun t => bd_n (n := 2) (by omega) (by omega)
    rw [hw6, hb, hb, show (2 : Int32).toNatClampNeg = 2 from rfl, hM.2.2.1, hR.1 1 (by omega), ile (by omega) (by omega), ile (by omega) (by omega), if_pos (by omega), if_pos (by omega)]
    exact Sr.fin h
  | succ m ih =>
    intro n p S x hp hn hS hc
    obtain ⟨n, rfl⟩ : ∃ k, n = k + 1 := ⟨n - 1, by omega⟩
    have hpP : p < B 0 1 := by omega
    show Sr Rel (m_Board_fewestChanges_B23 21 (m_Board_fewestChanges_L23 21 n) σ _ _ _) (m_M_changes_B76 (m_M_changes_L76 n) μ _ _ _)
    unfold m_Board_fewestChanges_B23 m_M_changes_B76 m_Board_fewestChanges_B45 m_M_changes_B100 m_Board_ringOf
    have hb : ∀ t : Rt, bd (2 : Int32) 64 t = t := fun t => bd_n (n := 2) (by omega) (by omega)
    rw [hw6, hb, show (2 : Int32).toNatClampNeg = 2 from rfl, hM.2.2.1, hR.1 1 (by omega), ile (by omega) (by omega), ile (by omega) (by omega), if_neg (by omega), if_neg (by omega), x_isSet σ (h128 S hS) (by omega), bnd_s, m_has μ (h128 S hS) (by omega), bnd_s]
    obtain ⟨R', e1, e2, e3⟩ := ring_x hW hF hR (B 0 1) FU 0 p 0 (by omega) (fu_lt (by omega)) hpP (Nat.two_pow_pos _)
    have hcl := cnt_lt (B 0 1) (by omega) S (h128 S hS) hS
    obtain ⟨j0, hj0⟩ : ∃ j0, j0 = B 0 1 - cnt S := ⟨_, rfl⟩
    have fin : ∀ y : Int32, Sr Rel (bnd (m_Board_ringOf_L7 21 FU σ (0 : Int32) (nI p) (0 : Int32)) (fun v2 σ3 => nm (nI S ||| v2) (fun y4 => m_Board_fewestChanges_L23 21 n σ3 y y4 (nI p + (1 : Int32))))) (m_M_changes_L105 (m_M_changes_L76 n) FU μ y (nI S) (nI p) (nI p)) := by
      intro y
      obtain ⟨S', f1, f2, f3, f4, f5, f6⟩ := ring_m hW hF hM hd (m_M_changes_L76 n) y (nI p) j0 FU p S (by omega) (fu_lt (by omega)) hpP hS
      rw [li_0, e1, bnd_s, f1, nm_i, or_nI]
      unfold m_M_changes_B148
      rw [ad_1]
      have hcS : ∀ q, q < B 0 1 → S'.testBit q = true → S'.testBit (nxt B q) = true := fun q hq z => by
        rcases f6 q z with w | w
        · exact f3 _ (hc q hq w)
        · exact w
      have eS : S ||| R' = S' := by
        apply Nat.eq_of_testBit_eq
        intro q
        apply Bool.eq_iff_iff.mpr
        rw [Nat.testBit_or, Bool.or_eq_true, e3 q]
        constructor
        · rintro (z | z | ⟨j, hj, z⟩)
          · exact f3 q z
          · rw [Nat.zero_testBit] at z
            cases z
          · rw [← z]
            exact orb_in hW hF hcS j p hpP f4
        · intro z
          rcases f5 q z with z | ⟨j, hj, z⟩
          · exact Or.inl z
          · exact Or.inr (Or.inr ⟨j, by omega, z⟩)
      rw [eS]
      exact ih n (p + 1) S' y (by omega) (by omega) f2 hcS
    simp only [nm_i]
    exact sr_if (fun _ => fin _) (fun _ => fin _)
theorem a_right (x : Int32) {σ μ : St} (h : Rel σ μ) : Sr Rel (m_P_right σ x) (m_M_right μ x) := by
  obtain ⟨B, hR, hM, hW, hT⟩ := id h.2.2.2.2.2.1
  have w1 := hW.2.1
  have w5 := hW.2.2.2.2.1
  unfold m_P_right m_M_right
  rw [x_stands hR hW, bnd_s, m_isMap hM hW, bnd_s]
  refine sr_if (fun _ => Sr.fin h) (fun _ => ?_)
  rw [in_n, bnd_s]
  by_cases h0 : x = 0
  · rw [if_pos h0, h0, if1 (by decide), if_pos rfl, x_home hR hW, m_rights hw6 hM hW, bnd_s, bnd_s]
    exact Sr.fin h
  · rw [if_neg h0]
    by_cases h1 : x = 1
    · rw [if_pos h1, h1, if1 (by decide), if_neg (show ¬ (1 : Int32) = 0 by decide), li_4, hw6, bd_n (by omega) (by omega), cl_n (by omega), hM.2.2.2.2.1]
      unfold m_Board_fewestChanges
      rw [hR.1 5 (by omega), bnd_id, bnd_id]
      refine sr_ite (fun _ => Sr.fin h) (fun hd => ?_)
      have hd1 : B 0 5 = 1 := by
        rcases (show B 0 5 = 0 ∨ B 0 5 = 1 by omega) with e | e
        · rw [e] at hd
          exact absurd rfl hd
        · exact e
      have e1 := x_fills_l hR hW (B 0 1) FU 0 (by omega) (fu_lt (by omega))
      have e2 := m_chk_l hM hW hd1 (B 0 1) FU 0 (by omega) (fu_lt (by omega)) (fun q hq => absurd hq (by omega))
      have e3 : m_Board_fillsHomes 21 σ = some (@ite Int32 (fit B) (Classical.propDecidable _) 1 0, σ) := e1
      have e4 : m_M_changes μ = @ite Rt (fit B) (Classical.propDecidable _) (m_M_changes_B70 μ) (some (-1000000, μ)) := e2
      rw [e3, e4, bnd_s]
      by_cases hF : fit B
      · rw [if1 hF, if_pos hF]
        exact a_rings hW hF hR hM hd1 h (B 0 1) FU 0 0 0 (by omega) (fu_lt (by omega)) (Nat.two_pow_pos _) (fun q _ z => by rw [Nat.zero_testBit] at z; cases z)
      · rw [if0 hF, if_neg hF]
        exact Sr.fin h
    · rw [if_neg h1, if0 (fun z => by
        have h2 := (le_iff (n := 1) (by omega)).mp z
        obtain ⟨j, hj, e⟩ := h2
        rcases (show j = 0 ∨ j = 1 by omega) with rfl | rfl
        · exact h0 e
        · exact h1 e)]
      exact Sr.fin h
