/-! pure: the reference closes, turns; pins are laid; maps are copied -/
theorem plc_vals {B : Bt} (hW : WF B) : ∀ q, q < B 0 1 → plc B q = -1000000 ∨ ∃ c, c < B 0 0 ∧ plc B q = nI c := by
  intro q hq
  unfold plc
  split
  · exact Or.inl rfl
  · exact Or.inr ⟨_, hW.last hq, rfl⟩
section XM5
variable {μ : St} {w : Nat} {B : Bt} {v : Nat → Int32}
theorem m_closes_l (hw : lenM w = 64) (hW : WF B) : ∀ (m n p : Nat) (μ : St), RM (μ w) B (fun q => if q < p ∧ B 5 q ≠ 5 then -1000000 else v q) → p + m = B 0 1 → m < n → ∃ μ', m_M_closes_L2 w n μ (nI p) = some (0, μ') ∧ RM (μ' w) (ub B 0 5 0) (fun q => if q < B 0 1 ∧ B 5 q ≠ 5 then -1000000 else v q) ∧ FrM w μ μ' := by
  have w1 := hW.2.1
  intro m
  induction m with
  | zero =>
    intro n p μ h hp hn
    obtain ⟨n, rfl⟩ : ∃ k, n = k + 1 := ⟨n - 1, by omega⟩
    have h2 : μ w 2 = nI (B 0 1) := h.2.2.1
    show ∃ μ', m_M_closes_B2 w (m_M_closes_L2 w n) μ _ = _ ∧ _
    unfold m_M_closes_B2
    rw [hw, li_2, bd_n (by omega) (by omega), cl_n (by omega), h2, ile (by omega) (by omega), if_pos (by omega), li_4, bd_n (by omega) (by omega), nmS_e, cl_n (by omega), li_0]
    refine ⟨_, rfl, ?_, frM w μ _ _⟩
    rw [up_row]
    have e : p = B 0 1 := by omega
    rw [← e]
    exact h.u4 0
  | succ m ih =>
    intro n p μ h hp hn
    obtain ⟨n, rfl⟩ : ∃ k, n = k + 1 := ⟨n - 1, by omega⟩
    obtain ⟨h0, h1, h2, h3, h4, h5, h6, h7⟩ := id h
    obtain ⟨g0, g1, g2, g3, g4, g5⟩ := h7 p (by omega)
    have k5 := (hW.2.2.2.2.2.2 p (by omega)).2.2.2.2.2.1
    have g4 : μ w (22 + 6 * p + 4) = v p := g4.trans (if_neg (by omega))
    have go : ∀ x : Int32, (x = if p < p + 1 ∧ B 5 p ≠ 5 then -1000000 else v p) → ∃ μ', m_M_closes_L2 w n (up μ w (22 + 6 * p + 4) x) (nI (p + 1)) = some (0, μ') ∧ RM (μ' w) (ub B 0 5 0) (fun q => if q < B 0 1 ∧ B 5 q ≠ 5 then -1000000 else v q) ∧ FrM w μ μ' := by
      intro x hx
      have r : RM ((up μ w (22 + 6 * p + 4) x) w) B (fun q => if q < p + 1 ∧ B 5 q ≠ 5 then -1000000 else v q) := by
        rw [up_row]
        refine (h.uIS hW p x).cv (fun q hq => ?_)
        by_cases e : q = p
        · subst e
          rw [if_pos rfl]
          exact hx.symm
        · rw [if_neg e]
          by_cases hc : q < p ∧ B 5 q ≠ 5
          · rw [if_pos hc, if_pos ⟨by omega, hc.2⟩]
          · rw [if_neg hc, if_neg (fun z => hc ⟨by omega, z.2⟩)]
      obtain ⟨μ', a1, a2, a3⟩ := ih n (p + 1) _ r (by omega) (by omega)
      exact ⟨μ', a1, a2, (frM w μ _ _).tr a3⟩
    show ∃ μ', m_M_closes_B2 w (m_M_closes_L2 w n) μ _ = _ ∧ _
    unfold m_M_closes_B2 m_M_closes_B48
    rw [hw, li_2, bd_n (by omega) (by omega), cl_n (by omega), h2, ile (by omega) (by omega), if_neg (by omega), ix0, bd_n (by omega) (by omega), cl_n (by omega), g0, li_5, ieq (by omega) (by omega), li_4, ad_n]
    have hb : ∀ t : Rt, bd (nI (22 + 6 * p + 4)) 64 t = t := fun t => bd_n (by omega) (by omega)
    simp only [hb]
    rw [nmS_e, nmS_e, cl_n (by omega), g4, li_1, ad_n]
    by_cases hk : B 5 p = 5
    · rw [if_pos hk]
      exact go (v p) (by rw [if_neg (fun z => z.2 hk)])
    · rw [if_neg hk]
      exact go (-1000000) (by rw [if_pos ⟨by omega, hk⟩])
theorem m_closes (hw : lenM w = 64) (h : RM (μ w) B v) (hW : WF B) : ∃ μ', m_M_closes w μ = some (0, μ') ∧ RM (μ' w) (ub B 0 5 0) (fun q => if q < B 0 1 ∧ B 5 q ≠ 5 then -1000000 else v q) ∧ FrM w μ μ' := by
  have w1 := hW.2.1
  exact m_closes_l hw hW (B 0 1) FU 0 μ (h.cv (fun q hq => if_neg (by omega))) (by omega) (fu_lt (by omega))
/-- what was told of the pins by their places is so behind an opening, too -/
theorem opv_plc {B : Bt} (hW : WF B) (hn : B 0 5 = 0) : ∀ q, q < B 0 1 → opv B 0 (plc B) (B 0 1) 0 q = nI (opnB B 0 6 q) := by
  intro q hq
  have e : opnB B 0 6 q = opnL 0 (B 0 1) 0 B 6 q := by
    unfold opnB
    rw [ub_v, if_neg (by omega)]
  rw [e]
  unfold opv
  by_cases k : B 5 q = 5
  · rw [if_neg (fun z => z.2.2.2 k), opn_whale 0 _ _ B k]
    unfold plc
    rw [if_neg (fun z => z.2 k)]
  · rw [if_pos ⟨by omega, by omega, by simp, k⟩]
theorem plc_day {B : Bt} (h : B 0 5 = 1) (q : Nat) : plc B q = nI (B 6 q) := by
  unfold plc
  rw [if_neg (by omega)]
theorem yv_yl {B : Bt} {v : Nat → Int32} (hW : WF B) (hd : B 0 5 = 1) (hv : ∀ q, q < B 0 1 → v q = nI (B 6 q)) : ∀ m p, p + m ≤ B 0 1 → yvL B v m p = yldL B m p
  | 0, _, _ => rfl
  | m + 1, p, h => by
    unfold yvL yldL
    rw [yv_yl hW hd hv m (p + 1) (by omega)]
    congr 1
    have hl := hW.last (show p < B 0 1 by omega)
    have w0 := hW.1
    have w1 := hW.2.1
    unfold yv1 yl1 crw
    rw [hv p (by omega), if_neg (neg_n (by omega)), cl_n (by omega)]
    have e : bset (fun q => decide (v q = nI (B 6 p))) (B 0 1) = bset (fun q => decide (plc B q = nI (B 6 p))) (B 0 1) := bset_congr (fun q hq => by rw [hv q hq, plc_day hd])
    rw [e]
    have hp : 0 < cnt (bset (fun q => decide (plc B q = nI (B 6 p))) (B 0 1)) := cnt_pos _ (bset_7 _ w1) p (by omega) (by
      rw [bset_test, plc_day hd]
      simp
      omega)
    rw [if_pos hp]
theorem opn_day (B : Bt) (left : Nat) : opnB B left 0 5 = 1 := by
  unfold opnB
  rw [ub_v, if_pos ⟨rfl, rfl⟩]
/-- a turn of a regular map -/
theorem m_passes (hw : lenM w = 64) (h : RM (μ w) B (plc B)) (hW : WF B) : ∃ μ', m_M_passes w μ = some (0, μ') ∧ RM (μ' w) (trn B) (plc (trn B)) ∧ FrM w μ μ' := by
  have w0 := hW.1
  have w1 := hW.2.1
  have w5 := hW.2.2.2.2.1
  have h4 : μ w 4 = nI (B 0 5) := h.2.2.2.2.1
  unfold m_M_passes m_M_passes_B19 trn
  rw [hw, li_4, bd_n (by omega) (by omega), cl_n (by omega), h4, li_1, ieq (by omega) (by omega)]
  have hb : ∀ t : Rt, bd (nI 3) 64 t = t := fun t => bd_n (by omega) (by omega)
  rw [li_3]
  simp only [hb]
  by_cases hd : B 0 5 = 0
  · rw [if_neg (by omega), if_pos hd]
    obtain ⟨μ', e, r, f⟩ := m_opens hw (left := 0) (by decide) h hW (plc_vals hW)
    have hWo := hW.opn 0
    have hov := opv_plc hW hd
    have ed : opnB B 0 0 1 = B 0 1 := opn_dim B 0 1 (by decide)
    have r2 : RM (μ' w) (wrkB B) (opv B 0 (plc B) (B 0 1) 0) := by
      unfold wrkB yld
      rw [ed, ← yv_yl hWo (opn_day B 0) (v := opv B 0 (plc B) (B 0 1) 0) (fun q hq => hov q (by omega)) (B 0 1) 0 (by omega)]
      exact r
    rw [li_0, e, bnd_s, nmS_e, cl_n (by omega), r2.2.2.2.1, ad_n, ← li_0]
    have e3 : wrkB B 0 3 = B 0 3 := by
      unfold wrkB
      rw [ub_v, if_neg (by decide), opn_dim B 0 3 (by decide)]
    rw [e3]
    refine ⟨_, rfl, ?_, f.tr (frM w _ _ _)⟩
    rw [up_row]
    refine (r2.u3 (B 0 3 + 1)).cv (fun q hq => ?_)
    have hq' : q < B 0 1 := by
      have e9 : ub (wrkB B) 0 3 (B 0 3 + 1) 0 1 = B 0 1 := ed
      omega
    rw [hov q hq']
    have e5 : ub (wrkB B) 0 3 (B 0 3 + 1) 0 5 = 1 := opn_day B 0
    rw [plc_day e5]
    rfl
  · rw [if_pos (by omega), if_neg hd]
    obtain ⟨μ', e, r, f⟩ := m_closes hw h hW
    rw [e, bnd_s, nmS_e, cl_n (by omega), r.2.2.2.1, ad_n]
    refine ⟨_, rfl, ?_, f.tr (frM w _ _ _)⟩
    rw [up_row]
    refine (r.u3 (B 0 3 + 1)).cv (fun q hq => ?_)
    have hq' : q < B 0 1 := hq
    have e5 : ub (ub B 0 5 0) 0 3 (B 0 3 + 1) 0 5 = 0 := rfl
    unfold plc
    rw [e5]
    by_cases k : B 5 q = 5
    · rw [if_neg (fun z => z.2 k), if_neg (fun z => z.2 k), if_neg (fun z => z.2 k)]
      rfl
    · rw [if_pos ⟨rfl, k⟩, if_pos ⟨hq', k⟩]
/-- a pin is laid into a cell -/
theorem m_lays (hw : lenM w = 64) (h : RM (μ w) B v) (hW : WF B) {p c : Nat} (hp : p < B 0 1) : ∃ μ', m_M_lays w μ (nI p) (nI c) = some (0, μ') ∧ RM (μ' w) (ub B 6 p c) (fun q => if q = p then nI c else v q) ∧ FrM w μ μ' := by
  have w1 := hW.2.1
  unfold m_M_lays
  rw [hw, ix0, li_4, ad_n, bd_n (by omega) (by omega), nmS_e, li_5, ad_n, bd_n (by omega) (by omega), nmS_e, cl_n (by omega), cl_n (by omega)]
  refine ⟨_, rfl, ?_, (frM w μ _ _).tr (frM w _ _ _)⟩
  rw [up_row, up_row]
  exact (h.uIS hW p (nI c)).uLA hW p c
theorem m_isMap {μ : St} {B : Bt} {v : Nat → Int32} (h : RM (μ 6) B v) (hW : WF B) : m_M_isMap μ = some ((if 0 < B 0 0 then 1 else 0), μ) := by
  have w0 := hW.1
  unfold m_M_isMap
  rw [show lenM 6 = 64 from rfl, show (1 : Int32).toNatClampNeg = 1 from rfl, li_1, bd_n (by omega) (by omega), h.2.1, show (0 : Int32) = nI 0 from rfl, ile (by omega) (by omega), ← li_0, ← li_1]
  by_cases h : 0 < B 0 0
  · rw [if_neg (by omega), if_pos h, vB_1]
  · rw [if_pos (by omega), if_neg h, vB_0]
theorem m_isPin {μ : St} {B : Bt} {v : Nat → Int32} (h : RM (μ 6) B v) (hW : WF B) (x : Int32) : m_M_isPin μ x = some ((if ∃ p, p < B 0 1 ∧ x = nI p then 1 else 0), μ) := by
  have w1 := hW.2.1
  unfold m_M_isPin
  rw [show lenM 6 = 64 from rfl, show (2 : Int32).toNatClampNeg = 2 from rfl, li_2, bd_n (by omega) (by omega), h.2.2.1, in_n, bnd_s, vB_ite]
  simp only [in_iff (show B 0 1 < 2147483648 by omega)]
theorem m_isCell {μ : St} {B : Bt} {v : Nat → Int32} (h : RM (μ 6) B v) (hW : WF B) (x : Int32) : m_M_isCell μ x = some ((if ∃ p, p < B 0 0 ∧ x = nI p then 1 else 0), μ) := by
  have w0 := hW.1
  unfold m_M_isCell
  rw [show lenM 6 = 64 from rfl, show (1 : Int32).toNatClampNeg = 1 from rfl, li_1, bd_n (by omega) (by omega), h.2.1, ← li_1, in_n, bnd_s, vB_ite]
  simp only [in_iff (show B 0 0 < 2147483648 by omega)]
/-- a map is copied -/
theorem m_copies_l {w1 w2 a c : Nat} (h1 : a + 64 ≤ lenM w1) (h2 : c + 64 ≤ lenM w2) (hl1 : lenM w1 < 10000) (hl2 : lenM w2 < 10000) (hne : w1 ≠ w2) (σ0 : St) : ∀ (m n i : Nat) (σ : St), i + m = 64 → m < n → FrM w2 σ0 σ → (∀ j, σ w2 j = if c ≤ j ∧ j < c + i then σ0 w1 (a + (j - c)) else σ0 w2 j) → ∃ σ', m_M_copies_L3 w1 w2 n σ (nI a) (nI c) (nI i) = some (0, σ') ∧ FrM w2 σ0 σ' ∧ ∀ j, σ' w2 j = if c ≤ j ∧ j < c + 64 then σ0 w1 (a + (j - c)) else σ0 w2 j := by
  intro m
  induction m with
  | zero =>
    intro n i σ hi hn hf hs
    obtain ⟨n, rfl⟩ : ∃ k, n = k + 1 := ⟨n - 1, by omega⟩
    refine ⟨σ, ?_, hf, ?_⟩
    · show m_M_copies_B3 w1 w2 (m_M_copies_L3 w1 w2 n) σ _ _ _ = _
      unfold m_M_copies_B3
      rw [li_64, ile (by omega) (by omega), if_pos (by omega)]
    · rw [show i = 64 by omega] at hs
      exact hs
  | succ m ih =>
    intro n i σ hi hn hf hs
    obtain ⟨n, rfl⟩ : ∃ k, n = k + 1 := ⟨n - 1, by omega⟩
    show ∃ σ', m_M_copies_B3 w1 w2 (m_M_copies_L3 w1 w2 n) σ _ _ _ = _ ∧ _
    unfold m_M_copies_B3
    rw [li_64, ile (by omega) (by omega), if_neg (by omega), ad_n, ad_n, bd_n (by omega) (by omega), bd_n (by omega) (by omega), nmS_e, cl_n (by omega), cl_n (by omega), li_1, ad_n]
    refine ih n (i + 1) _ (by omega) (by omega) (hf.tr (frM w2 σ _ _)) (fun j => ?_)
    rw [up_v]
    by_cases e : j = c + i
    · rw [if_pos ⟨rfl, e⟩, if_pos (by omega), hf w1 hne]
      congr 1
      omega
    · rw [if_neg (fun z => e z.2), hs j]
      by_cases hc : c ≤ j ∧ j < c + i
      · rw [if_pos hc, if_pos (by omega)]
      · rw [if_neg hc, if_neg (by omega)]
theorem m_copies {w1 w2 a c : Nat} (h1 : a + 64 ≤ lenM w1) (h2 : c + 64 ≤ lenM w2) (hl1 : lenM w1 < 10000) (hl2 : lenM w2 < 10000) (hne : w1 ≠ w2) (σ : St) : ∃ σ', m_M_copies w1 w2 σ (nI a) (nI c) = some (0, σ') ∧ FrM w2 σ σ' ∧ ∀ j, σ' w2 j = if c ≤ j ∧ j < c + 64 then σ w1 (a + (j - c)) else σ w2 j :=
  m_copies_l h1 h2 hl1 hl2 hne σ 64 FU 0 σ (by omega) (fu_lt (by omega)) (FrM.rf w2 σ) (fun j => by rw [if_neg (by omega)])
end XM5
