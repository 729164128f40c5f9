/-! pure: left, its sum -/
theorem tset_lt (A : Bt) : tset A < 2 ^ (A 0 1) := bset_lt _ _
theorem a_left_end {A : Bt} {σ μ : St} (hR : RelB A σ μ) (hW : WF A) {S : Nat} (hS : S < 2147483648) (x3 : Int32) : Sr Rel (m_Fore_heldWhenLeftOut_B105 σ x3 (nI (tset A)) (nI S)) (m_M_left_B248 μ x3 (nI S) (nI (10 ^ cnt (tset A)))) := by
  have w1 := hW.2.1
  have hT : tset A < 128 := bset_7 _ w1
  have hcl := cnt_le (tset A)
  have hb : 10 ^ cnt (tset A) ≤ 10000000 := Nat.le_trans (Nat.pow_le_pow_right (by decide) hcl) (by decide)
  have hb0 : 0 < 10 ^ cnt (tset A) := Nat.pow_pos (by decide)
  have hg : 0 < Nat.gcd (10 ^ cnt (tset A)) S := Nat.gcd_pos_of_pos_left _ hb0
  have hgl : Nat.gcd (10 ^ cnt (tset A)) S ≤ 10 ^ cnt (tset A) := Nat.gcd_le_left _ hb0
  unfold m_Fore_heldWhenLeftOut_B105 m_M_left_B248 m_Fore_commonDivisor
  rw [bc_eq, bc_n _ hT, bnd_s, li_10, x_power σ 10 hcl, bnd_s, li_0, x_gcd σ 31 (10 ^ cnt (tset A)) S 0 FU (by omega) hS (by omega) (by omega) (fu_lt (by omega)), bnd_s, m_gcd μ x3 (nI S) (nI (10 ^ cnt (tset A))) 31 S (10 ^ cnt (tset A)) FU hS (by omega) (by omega) (fu_lt (by omega)), Nat.gcd_comm S, ile (by omega) (by omega), if_neg (by omega)]
  unfold m_M_left_B279
  rw [nz_n hg (by omega), nz_n hg (by omega), nz_n hg (by omega), nz_n hg (by omega), ← li_0]
  exact sr_ite (fun _ => Sr.fin hR.1) (fun _ => Sr.fin hR.1)
theorem a_left_l {A : Bt} (hW : WF A) {c w : Nat} (hc : c < A 0 0) (hw : w ≤ 10) (x3 : Int32) : ∀ (m n l S : Nat) (σ μ : St), l + m = tset A + 1 → m < n → RelB A σ μ → S ≤ 10000000 * l → Sr Rel (m_Fore_heldWhenLeftOut_L34 n σ (nI c) (nI w) x3 (nI (tset A)) (nI S) (nI l)) (m_M_left_L104 n μ (nI c) (nI w) x3 (nI (tset A)) (nI S) (nI (10 ^ cnt (tset A))) (nI l)) := by
  have w1 := hW.2.1
  have hT : tset A < 128 := bset_7 _ w1
  have hTn := tset_lt A
  intro m
  induction m with
  | zero =>
    intro n l S σ μ hl hn h hS
    obtain ⟨n, rfl⟩ : ∃ k, n = k + 1 := ⟨n - 1, by omega⟩
    show Sr Rel (m_Fore_heldWhenLeftOut_B34 (m_Fore_heldWhenLeftOut_L34 n) σ _ _ _ _ _ _) (m_M_left_B104 (m_M_left_L104 n) μ _ _ _ _ _ _ _)
    unfold m_Fore_heldWhenLeftOut_B34 m_M_left_B104
    rw [ilt (by omega) (by omega), if_pos (by omega), ilt (by omega) (by omega), if_pos (by omega)]
    exact a_left_end h hW (by omega) x3
  | succ m ih =>
    intro n l S σ μ hl hn h hS
    obtain ⟨n, rfl⟩ : ∃ k, n = k + 1 := ⟨n - 1, by omega⟩
    show Sr Rel (m_Fore_heldWhenLeftOut_B34 (m_Fore_heldWhenLeftOut_L34 n) σ _ _ _ _ _ _) (m_M_left_B104 (m_M_left_L104 n) μ _ _ _ _ _ _ _)
    unfold m_Fore_heldWhenLeftOut_B34 m_M_left_B104 m_Fore_heldWhenLeftOut_B99 m_M_left_B242
    rw [ilt (by omega) (by omega), if_neg (show ¬ tset A < l by omega), ilt (by omega) (by omega), if_neg (show ¬ tset A < l by omega), ad_1]
    by_cases hs : (nI l &&& (nI (tset A) ^^^ (-1 : Int32))) = 0
    · rw [if_pos hs, if_pos hs]
      have hsub := (andn (by omega)).mp hs
      have hln : l < 2 ^ (A 0 1) := by omega
      have hcl : cnt l = c16 l (A 0 1) := cnt_n w1 hln
      have hcT : cnt (tset A) = c16 (tset A) (A 0 1) := cnt_n w1 hTn
      have hmo := c16_mono hsub (A 0 1)
      have hcT7 := cnt_le (tset A)
      have hwl := wgt_le (c := w) (n := A 0 1) hw w1 hsub
      obtain ⟨σ1, e1, f1⟩ := x_held h hW (l := l) (by omega) hc
      have hM6 := h.2.2
      rw [e1, bnd_s, bc_eq, bc_n l (by omega), bnd_s, bc_eq, bc_n (tset A) hT, bnd_s, nm_i, sb_n (by omega), x_power σ1 w (by omega), bnd_s, li_10, sb_n hw, x_power σ1 (10 - w) (by omega), bnd_s, nm_i, mu_n, hcl, hcT, show w ^ c16 l (A 0 1) * (10 - w) ^ (c16 (tset A) (A 0 1) - c16 l (A 0 1)) = wgt w (tset A) l (A 0 1) from rfl, ad_n]
      have ew := m_ways hM6 hW hT (show l < 128 by omega) hw hsub (m_M_left_L104 n) (nI c) x3 (nI S) (nI (10 ^ c16 (tset A) (A 0 1))) (A 0 1) FU 0 (by omega) (fu_lt (by omega))
      have ew' : m_M_left_L127 (m_M_left_L104 n) FU μ (nI c) (nI w) x3 (nI (tset A)) (nI S) (nI (10 ^ c16 (tset A) (A 0 1))) (nI l) (1 : Int32) (0 : Int32) = m_M_left_B181 (m_M_left_L104 n) μ (nI c) (nI w) x3 (nI (tset A)) (nI S) (nI (10 ^ c16 (tset A) (A 0 1))) (nI l) (nI (wgt w (tset A) l (A 0 1))) := ew
      obtain ⟨μ1, e2, f2⟩ := m_held hM6 hW (l := l) (by omega) hc hsub (m_M_left_L104 n) (nI w) x3 (nI (tset A)) (nI S) (nI (10 ^ c16 (tset A) (A 0 1))) (nI (wgt w (tset A) l (A 0 1)))
      rw [ew', e2]
      have h1 : RelB A σ1 μ1 := h.t8 f1 f2
      rw [hcT] at ih
      by_cases hh : heldP A l c
      · rw [if1 hh, if_pos hh, ad_n]
        exact ih n (l + 1) _ σ1 μ1 (by omega) (by omega) h1 (by omega)
      · rw [if0 hh, if_neg hh, li_0, ad_n, Nat.add_zero]
        exact ih n (l + 1) _ σ1 μ1 (by omega) (by omega) h1 (by omega)
    · rw [if_neg hs, if_neg hs]
      exact ih n (l + 1) S σ μ (by omega) (by omega) h (by omega)
theorem m_below {A : Bt} {μ : St} (x1 x2 x3 x5 : Int32) {T : Nat} (hT : T < 128) : ∀ (m n k : Nat), k + m = cnt T → m < n → m_M_left_L78 n μ x1 x2 x3 (nI T) x5 (nI (10 ^ k)) (nI k) = m_M_left_B101 μ x1 x2 x3 (nI T) x5 (nI (10 ^ cnt T)) := by
  have hcl := cnt_le T
  intro m
  induction m with
  | zero =>
    intro n k hk hn
    obtain ⟨n, rfl⟩ : ∃ k, n = k + 1 := ⟨n - 1, by omega⟩
    show m_M_left_B78 (m_M_left_L78 n) μ _ _ _ _ _ _ _ = _
    unfold m_M_left_B78
    rw [m_ones μ hT, bnd_s, ile (by omega) (by omega), if_pos (by omega), show k = cnt T by omega]
  | succ m ih =>
    intro n k hk hn
    obtain ⟨n, rfl⟩ : ∃ k, n = k + 1 := ⟨n - 1, by omega⟩
    show m_M_left_B78 (m_M_left_L78 n) μ _ _ _ _ _ _ _ = _
    unfold m_M_left_B78
    rw [m_ones μ hT, bnd_s, ile (by omega) (by omega), if_neg (by omega), nm_i, li_10, mu_n, ad_1, ← Nat.pow_succ]
    exact ih n (k + 1) (by omega) (by omega)
theorem a_left (x1 x2 x3 : Int32) {σ μ : St} (h : Rel σ μ) : Sr Rel (m_P_left σ x1 x2 x3) (m_M_left μ x1 x2 x3) := by
  obtain ⟨A, hR, hM, hW, hT⟩ := id h.2.2.2.2.2.1
  have w1 := hW.2.1
  unfold m_P_left m_M_left m_Fore_heldWhenLeftOut
  rw [x_hasCell hR hW, bnd_s, m_isCell hM hW, bnd_s]
  refine sr_if (fun _ => Sr.fin h) (fun hq => ?_)
  obtain ⟨c, hc, rfl⟩ := hq
  rw [within_n, in_n, bnd_s, bnd_s]
  refine sr_if (fun _ => Sr.fin h) (fun hq => ?_)
  rw [li_10, le_iff (by omega)] at hq
  obtain ⟨w, hw, rfl⟩ := hq
  rw [within_n, in_n, bnd_s, bnd_s]
  refine sr_if (fun _ => Sr.fin h) (fun hq => ?_)
  rw [bnd_id]
  refine (a_take ⟨h, hR, hM⟩ hW).bnd (fun _ σ μ h => ?_)
  have hWn : WF (ub A 0 5 0) := hW.day (by omega)
  have ht1 : bset (fun p => decide (plc (ub A 0 5 0) p = -1000000)) ((ub A 0 5 0) 0 1) = tset A := by
    refine bset_congr (fun q hq => ?_)
    have hq' : q < A 0 1 := hq
    have hl := hW.last hq'
    have w0 := hW.1
    have e5 : ub A 0 5 0 5 q = A 5 q := rfl
    have e6 : ub A 0 5 0 6 q = A 6 q := rfl
    have e0 : ub A 0 5 0 0 5 = 0 := rfl
    unfold plc
    rw [e5, e6, e0]
    by_cases h5 : A 5 q = 5
    · rw [if_neg (fun z => z.2 h5)]
      have := neg_n (n := A 6 q) (by omega)
      simp [h5, this]
    · rw [if_pos ⟨rfl, h5⟩]
      simp [h5]
  have hRn : RB (up σ 28 5 0) 28 (ub A 0 5 0) := h.2.1.up0 5 0 (by omega)
  rw [vB_0, nmS_e, x_tray hRn hWn, bnd_s, ht1, hw6]
  obtain ⟨μ2, v, e2, r2, f2, hv⟩ := m_night h.1.2.2 h.2.2.1 hW (fun s => m_M_left_B60 s (nI c) (nI w) x3)
  rw [e2]
  unfold m_M_left_B60
  have ht2 : bset (fun p => decide (v p = -1000000)) ((ub A 0 5 0) 0 1) = tset A := by
    refine bset_congr (fun q hq => ?_)
    have hq' : q < A 0 1 := hq
    have hl := hW.last hq'
    have w0 := hW.1
    rw [hv q hq']
    by_cases h5 : A 5 q = 5
    · rw [if_neg (fun z => z h5)]
      have := neg_n (n := A 6 q) (by omega)
      simp [h5, this]
    · rw [if_pos h5]
      simp [h5]
  rw [m_inTray hw8 r2 hWn, bnd_s, ht2]
  have eb := m_below (A := A) (μ := μ2) (nI c) (nI w) x3 0 (bset_7 (fun p => decide (A 5 p ≠ 5)) w1) (cnt (tset A)) FU 0 (by show 0 + cnt (tset A) = cnt (tset A); omega) (fu_lt (by have := cnt_le (tset A); omega))
  have eb' : m_M_left_L78 FU μ2 (nI c) (nI w) x3 (nI (tset A)) (0 : Int32) (1 : Int32) (0 : Int32) = m_M_left_B101 μ2 (nI c) (nI w) x3 (nI (tset A)) (0 : Int32) (nI (10 ^ cnt (tset A))) := eb
  rw [eb']
  unfold m_M_left_B101
  have hT7 : tset A < 128 := bset_7 _ w1
  exact a_left_l hW hc hw x3 (tset A + 1) FU 0 0 _ _ (by omega) (fu_lt (by omega)) (h.1.t8 (fr0 σ 28 5 _) f2) (by omega)
