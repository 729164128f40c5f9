/-! pure: the reference's map, a row of numbers -/
def RM (r : Nat → Int32) (B : Bt) (v : Nat → Int32) : Prop := r 0 = nI (B 0 2) ∧ r 1 = nI (B 0 0) ∧ r 2 = nI (B 0 1) ∧ r 3 = nI (B 0 3) ∧ r 4 = nI (B 0 5) ∧ r 5 = nI (B 0 4) ∧ (∀ i, i < B 0 0 → r (6 + i) = nI (B 1 i)) ∧ ∀ p, p < B 0 1 → r (22 + 6 * p) = nI (B 5 p) ∧ r (22 + 6 * p + 1) = nI (B 2 p) ∧ r (22 + 6 * p + 2) = nI (B 3 p) ∧ r (22 + 6 * p + 3) = nI (B 4 p) ∧ r (22 + 6 * p + 4) = v p ∧ r (22 + 6 * p + 5) = nI (B 6 p)
def FrM (w : Nat) (μ μ' : St) : Prop := ∀ a, a ≠ w → μ' a = μ a
theorem FrM.rf (w : Nat) (μ : St) : FrM w μ μ := fun _ _ => rfl
theorem FrM.tr {w : Nat} {a b c : St} (h1 : FrM w a b) (h2 : FrM w b c) : FrM w a c := fun x h => (h2 x h).trans (h1 x h)
theorem frM (w : Nat) (μ : St) (i : Nat) (x : Int32) : FrM w μ (up μ w i x) := fun a h => up_o h
theorem ix0 (p : Nat) : (22 : Int32) + ((6 : Int32) * nI p) = nI (22 + 6 * p) := by rw [li_22, li_6, mu_n, ad_n]
theorem upd_n {f : Nat → Int32} {k j : Nat} {x : Int32} (h : j ≠ k) : upd f k x j = f j := by simp [upd, h]
theorem upd_s {f : Nat → Int32} {k : Nat} {x : Int32} : upd f k x k = x := by simp [upd]
theorem upd_v {f : Nat → Int32} {k j : Nat} {x : Int32} : upd f k x j = if j = k then x else f j := rfl
section RMU
variable {r : Nat → Int32} {B : Bt} {v : Nat → Int32}
theorem RM.cv {v' : Nat → Int32} (h : RM r B v) (e : ∀ p, p < B 0 1 → v' p = v p) : RM r B v' := by
  obtain ⟨h0, h1, h2, h3, h4, h5, h6, h7⟩ := h
  refine ⟨h0, h1, h2, h3, h4, h5, h6, fun p hp => ?_⟩
  rw [e p hp]
  exact h7 p hp
theorem RM.uIS (h : RM r B v) (hW : WF B) (p : Nat) (x : Int32) : RM (upd r (22 + 6 * p + 4) x) B (fun q => if q = p then x else v q) := by
  obtain ⟨h0, h1, h2, h3, h4, h5, h6, h7⟩ := h
  have w0 := hW.1
  refine ⟨by rw [upd_n (by omega)]; exact h0, by rw [upd_n (by omega)]; exact h1, by rw [upd_n (by omega)]; exact h2, by rw [upd_n (by omega)]; exact h3, by rw [upd_n (by omega)]; exact h4, by rw [upd_n (by omega)]; exact h5, fun i hi => by rw [upd_n (by omega)]; exact h6 i hi, fun q hq => ?_⟩
  obtain ⟨g0, g1, g2, g3, g4, g5⟩ := h7 q hq
  refine ⟨by rw [upd_n (by omega)]; exact g0, by rw [upd_n (by omega)]; exact g1, by rw [upd_n (by omega)]; exact g2, by rw [upd_n (by omega)]; exact g3, ?_, by rw [upd_n (by omega)]; exact g5⟩
  by_cases e : q = p
  · subst e
    rw [upd_s]
    exact (if_pos rfl).symm
  · rw [upd_n (by omega)]
    exact g4.trans (if_neg e).symm
theorem RM.uLA (h : RM r B v) (hW : WF B) (p x : Nat) : RM (upd r (22 + 6 * p + 5) (nI x)) (ub B 6 p x) v := by
  obtain ⟨h0, h1, h2, h3, h4, h5, h6, h7⟩ := h
  have w0 := hW.1
  have e : ∀ a i, a ≠ 6 → ub B 6 p x a i = B a i := L6_ub B p x
  refine ⟨by rw [upd_n (by omega)]; exact h0, by rw [upd_n (by omega)]; exact h1, by rw [upd_n (by omega)]; exact h2, by rw [upd_n (by omega)]; exact h3, by rw [upd_n (by omega)]; exact h4, by rw [upd_n (by omega)]; exact h5, fun i hi => ?_, fun q hq => ?_⟩
  · rw [e 0 0 (by decide)] at hi
    rw [upd_n (by omega)]
    exact h6 i hi
  · rw [e 0 1 (by decide)] at hq
    obtain ⟨g0, g1, g2, g3, g4, g5⟩ := h7 q hq
    refine ⟨by rw [upd_n (by omega)]; exact g0, by rw [upd_n (by omega)]; exact g1, by rw [upd_n (by omega)]; exact g2, by rw [upd_n (by omega)]; exact g3, by rw [upd_n (by omega)]; exact g4, ?_⟩
    by_cases e : q = p
    · subst e
      rw [upd_s, ub_v, if_pos ⟨rfl, rfl⟩]
    · rw [upd_n (by omega), ub_v, if_neg (fun z => e z.2)]
      exact g5
theorem RM.u4 (h : RM r B v) (x : Nat) : RM (upd r 4 (nI x)) (ub B 0 5 x) v := by
  obtain ⟨h0, h1, h2, h3, h4, h5, h6, h7⟩ := h
  exact ⟨h0, h1, h2, h3, rfl, h5, fun i hi => by rw [upd_n (by omega)]; exact h6 i hi, fun q hq => by
    obtain ⟨g0, g1, g2, g3, g4, g5⟩ := h7 q hq
    exact ⟨by rw [upd_n (by omega)]; exact g0, by rw [upd_n (by omega)]; exact g1, by rw [upd_n (by omega)]; exact g2, by rw [upd_n (by omega)]; exact g3, by rw [upd_n (by omega)]; exact g4, by rw [upd_n (by omega)]; exact g5⟩⟩
theorem RM.u5 (h : RM r B v) (x : Nat) : RM (upd r 5 (nI x)) (ub B 0 4 x) v := by
  obtain ⟨h0, h1, h2, h3, h4, h5, h6, h7⟩ := h
  exact ⟨h0, h1, h2, h3, h4, rfl, fun i hi => by rw [upd_n (by omega)]; exact h6 i hi, fun q hq => by
    obtain ⟨g0, g1, g2, g3, g4, g5⟩ := h7 q hq
    exact ⟨by rw [upd_n (by omega)]; exact g0, by rw [upd_n (by omega)]; exact g1, by rw [upd_n (by omega)]; exact g2, by rw [upd_n (by omega)]; exact g3, by rw [upd_n (by omega)]; exact g4, by rw [upd_n (by omega)]; exact g5⟩⟩
theorem RM.u3 (h : RM r B v) (x : Nat) : RM (upd r 3 (nI x)) (ub B 0 3 x) v := by
  obtain ⟨h0, h1, h2, h3, h4, h5, h6, h7⟩ := h
  exact ⟨h0, h1, h2, rfl, h4, h5, fun i hi => by rw [upd_n (by omega)]; exact h6 i hi, fun q hq => by
    obtain ⟨g0, g1, g2, g3, g4, g5⟩ := h7 q hq
    exact ⟨by rw [upd_n (by omega)]; exact g0, by rw [upd_n (by omega)]; exact g1, by rw [upd_n (by omega)]; exact g2, by rw [upd_n (by omega)]; exact g3, by rw [upd_n (by omega)]; exact g4, by rw [upd_n (by omega)]; exact g5⟩⟩
theorem RM.u0 (h : RM r B v) (x : Nat) : RM (upd r 0 (nI x)) (ub B 0 2 x) v := by
  obtain ⟨h0, h1, h2, h3, h4, h5, h6, h7⟩ := h
  exact ⟨rfl, h1, h2, h3, h4, h5, fun i hi => by rw [upd_n (by omega)]; exact h6 i hi, fun q hq => by
    obtain ⟨g0, g1, g2, g3, g4, g5⟩ := h7 q hq
    exact ⟨by rw [upd_n (by omega)]; exact g0, by rw [upd_n (by omega)]; exact g1, by rw [upd_n (by omega)]; exact g2, by rw [upd_n (by omega)]; exact g3, by rw [upd_n (by omega)]; exact g4, by rw [upd_n (by omega)]; exact g5⟩⟩
theorem RM.uW (h : RM r B v) {i : Nat} (hi : i < 16) (x : Nat) : RM (upd r (6 + i) (nI x)) (ub B 1 i x) v := by
  obtain ⟨h0, h1, h2, h3, h4, h5, h6, h7⟩ := h
  refine ⟨by rw [upd_n (by omega)]; exact h0, by rw [upd_n (by omega)]; exact h1, by rw [upd_n (by omega)]; exact h2, by rw [upd_n (by omega)]; exact h3, by rw [upd_n (by omega)]; exact h4, by rw [upd_n (by omega)]; exact h5, fun j hj => ?_, fun q hq => ?_⟩
  · rw [ub_v, upd_v]
    by_cases e : j = i
    · rw [if_pos (by omega), if_pos ⟨rfl, e⟩]
    · rw [if_neg (by omega), if_neg (fun z => e z.2)]
      exact h6 j hj
  · obtain ⟨g0, g1, g2, g3, g4, g5⟩ := h7 q hq
    exact ⟨by rw [upd_n (by omega)]; exact g0, by rw [upd_n (by omega)]; exact g1, by rw [upd_n (by omega)]; exact g2, by rw [upd_n (by omega)]; exact g3, by rw [upd_n (by omega)]; exact g4, by rw [upd_n (by omega)]; exact g5⟩
end RMU
theorem in_n (σ : St) (x a b : Int32) : m_M_in σ x a b = some ((if a ≤ x ∧ x ≤ b then 1 else 0), σ) := within_n σ x a b
theorem m_has (σ : St) {t p : Nat} (ht : t < 128) (hp : p < 7) : m_M_has σ (nI t) (nI p) = some ((if t.testBit p = true then 1 else 0), σ) := x_isSet σ ht hp
theorem ub_self (B : Bt) (a i : Nat) : ub B a i (B a i) = B := by
  funext a' i'
  rw [ub_v]
  split
  · next h => rw [h.1, h.2]
  · rfl
section XM
variable {μ : St} {w : Nat} {B : Bt} {v : Nat → Int32}
theorem m_inCell_l (hw : lenM w = 64) (h : RM (μ w) B v) (w1 : B 0 1 ≤ 7) (c : Int32) : ∀ (m n p : Nat), p + m = B 0 1 → m < n → m_M_inCell_L4 w n μ c (nI (bset (fun p => decide (v p = c)) p)) (nI p) = some (nI (bset (fun p => decide (v p = c)) (B 0 1)), μ) := by
  obtain ⟨h0, h1, h2, h3, h4, h5, h6, h7⟩ := h
  intro m
  induction m with
  | zero =>
    intro n p hp hn
    obtain ⟨n, rfl⟩ : ∃ k, n = k + 1 := ⟨n - 1, by omega⟩
    show m_M_inCell_B4 w (m_M_inCell_L4 w n) μ c _ _ = _
    unfold m_M_inCell_B4
    rw [hw, li_2, bd_n (by omega) (by omega), cl_n (by omega), h2, ile (by omega) (by omega), if_pos (by omega), show p = B 0 1 by omega]
  | succ m ih =>
    intro n p hp hn
    obtain ⟨n, rfl⟩ : ∃ k, n = k + 1 := ⟨n - 1, by omega⟩
    obtain ⟨g0, g1, g2, g3, g4, g5⟩ := h7 p (by omega)
    show m_M_inCell_B4 w (m_M_inCell_L4 w n) μ c _ _ = _
    unfold m_M_inCell_B4 m_M_inCell_B34
    rw [hw, li_2, bd_n (by omega) (by omega), cl_n (by omega), h2, ile (by omega) (by omega), if_neg (by omega), ix0, li_4, ad_n, bd_n (by omega) (by omega), cl_n (by omega), g4]
    simp only [nm_i]
    have e := bset_step (f := fun p => decide (v p = c)) (p := p) (by omega)
    rw [li_1, ad_n, ← li_1, ← ih n (p + 1) (by omega) (by omega), ← e]
    by_cases h : v p = c
    · simp [h]
    · simp [h]
theorem m_inCell7 (hw : lenM w = 64) (h : RM (μ w) B v) (w1 : B 0 1 ≤ 7) (c : Int32) : m_M_inCell w μ c = some (nI (bset (fun p => decide (v p = c)) (B 0 1)), μ) :=
  m_inCell_l hw h w1 c (B 0 1) FU 0 (by omega) (fu_lt (by omega))
theorem m_inCell (hw : lenM w = 64) (h : RM (μ w) B v) (hW : WF B) (c : Int32) : m_M_inCell w μ c = some (nI (bset (fun p => decide (v p = c)) (B 0 1)), μ) := m_inCell7 hw h hW.2.1 c
theorem m_inTray (hw : lenM w = 64) (h : RM (μ w) B v) (hW : WF B) : m_M_inTray w μ = some (nI (bset (fun p => decide (v p = -1000000)) (B 0 1)), μ) := by
  unfold m_M_inTray
  rw [m_inCell hw h hW, bnd_s]
theorem m_rights_l (hw : lenM w = 64) (h : RM (μ w) B v) (hW : WF B) : ∀ (m n p : Nat), p + m = B 0 1 → m < n → m_M_rights_L4 w n μ (nI (bset (fun p => decide (v p = nI (B 2 p))) p)) (nI p) = some (nI (bset (fun p => decide (v p = nI (B 2 p))) (B 0 1)), μ) := by
  obtain ⟨h0, h1, h2, h3, h4, h5, h6, h7⟩ := h
  have w1 := hW.2.1
  intro m
  induction m with
  | zero =>
    intro n p hp hn
    obtain ⟨n, rfl⟩ : ∃ k, n = k + 1 := ⟨n - 1, by omega⟩
    show m_M_rights_B4 w (m_M_rights_L4 w n) μ _ _ = _
    unfold m_M_rights_B4
    rw [hw, li_2, bd_n (by omega) (by omega), cl_n (by omega), h2, ile (by omega) (by omega), if_pos (by omega), show p = B 0 1 by omega]
  | succ m ih =>
    intro n p hp hn
    obtain ⟨n, rfl⟩ : ∃ k, n = k + 1 := ⟨n - 1, by omega⟩
    obtain ⟨g0, g1, g2, g3, g4, g5⟩ := h7 p (by omega)
    show m_M_rights_B4 w (m_M_rights_L4 w n) μ _ _ = _
    unfold m_M_rights_B4 m_M_rights_B44
    rw [hw, li_2, bd_n (by omega) (by omega), cl_n (by omega), h2, ile (by omega) (by omega), if_neg (by omega), ix0, li_4, ad_n, bd_n (by omega) (by omega), cl_n (by omega), g4]
    have e := bset_step (f := fun p => decide (v p = nI (B 2 p))) (p := p) (by omega)
    rw [li_1, ad_n, bd_n (by omega) (by omega), cl_n (by omega), g1, ad_n, ← li_1, ← ih n (p + 1) (by omega) (by omega), ← e]
    simp only [nm_i]
    by_cases h : v p = nI (B 2 p)
    · simp [h]
    · simp [h]
theorem m_rights (hw : lenM w = 64) (h : RM (μ w) B v) (hW : WF B) : m_M_rights w μ = some (nI (bset (fun p => decide (v p = nI (B 2 p))) (B 0 1)), μ) := by
  have w1 := hW.2.1
  exact m_rights_l hw h hW (B 0 1) FU 0 (by omega) (fu_lt (by omega))
theorem m_homeOf_l (hw : lenM w = 64) (h : RM (μ w) B v) (hW : WF B) (c : Int32) : ∀ (m n p : Nat), p + m = B 0 1 → m < n → m_M_homeOf_L2 w n μ c (nI p) = some (ownr B c m p, μ) := by
  obtain ⟨h0, h1, h2, h3, h4, h5, h6, h7⟩ := h
  have w1 := hW.2.1
  intro m
  induction m with
  | zero =>
    intro n p hp hn
    obtain ⟨n, rfl⟩ : ∃ k, n = k + 1 := ⟨n - 1, by omega⟩
    show m_M_homeOf_B2 w (m_M_homeOf_L2 w n) μ _ _ = _
    unfold m_M_homeOf_B2
    rw [hw, li_2, bd_n (by omega) (by omega), cl_n (by omega), h2, ile (by omega) (by omega), if_pos (by omega)]
    rfl
  | succ m ih =>
    intro n p hp hn
    obtain ⟨n, rfl⟩ : ∃ k, n = k + 1 := ⟨n - 1, by omega⟩
    obtain ⟨g0, g1, g2, g3, g4, g5⟩ := h7 p (by omega)
    show m_M_homeOf_B2 w (m_M_homeOf_L2 w n) μ _ _ = _
    unfold m_M_homeOf_B2 ownr
    rw [hw, li_2, bd_n (by omega) (by omega), cl_n (by omega), h2, ile (by omega) (by omega), if_neg (by omega), ix0, li_1, ad_n, bd_n (by omega) (by omega), cl_n (by omega), g1, ad_n, ih n (p + 1) (by omega) (by omega)]
    by_cases h : nI (B 2 p) = c
    · rw [if_pos h, if_pos h]
    · rw [if_neg h, if_neg h]
theorem m_homeOf (hw : lenM w = 64) (h : RM (μ w) B v) (hW : WF B) (c : Int32) : m_M_homeOf w μ c = some (ownr B c (B 0 1) 0, μ) := by
  have w1 := hW.2.1
  exact m_homeOf_l hw h hW c (B 0 1) FU 0 (by omega) (fu_lt (by omega))
theorem m_mixed_l (hw : lenM w = 64) (h : RM (μ w) B v) (hW : WF B) {p : Nat} (hp : p < B 0 1) : ∀ (m n q : Nat), q + m = B 0 1 → m < n → m_M_mixedWith_L4 w n μ (nI p) (nI q) = some ((match mixw B p m q with | none => -1000000 | some r => nI r), μ) := by
  obtain ⟨h0, h1, h2, h3, h4, h5, h6, h7⟩ := h
  have w1 := hW.2.1
  have k4p := (hW.2.2.2.2.2.2 p hp).2.2.2.1
  intro m
  induction m with
  | zero =>
    intro n q hq hn
    obtain ⟨n, rfl⟩ : ∃ k, n = k + 1 := ⟨n - 1, by omega⟩
    show m_M_mixedWith_B4 w (m_M_mixedWith_L4 w n) μ _ _ = _
    unfold m_M_mixedWith_B4
    rw [hw, li_2, bd_n (by omega) (by omega), cl_n (by omega), h2, ile (by omega) (by omega), if_pos (by omega)]
    rfl
  | succ m ih =>
    intro n q hq hn
    obtain ⟨n, rfl⟩ : ∃ k, n = k + 1 := ⟨n - 1, by omega⟩
    obtain ⟨g0, g1, g2, g3, g4, g5⟩ := h7 q (by omega)
    obtain ⟨f0, f1, f2, f3, f4, f5⟩ := h7 p hp
    have k4q := (hW.2.2.2.2.2.2 q (by omega)).2.2.2.1
    have k5q := (hW.2.2.2.2.2.2 q (by omega)).2.2.2.2.2.1
    show m_M_mixedWith_B4 w (m_M_mixedWith_L4 w n) μ _ _ = _
    unfold m_M_mixedWith_B4 m_M_mixedWith_B51 mixw
    rw [hw, li_2, bd_n (by omega) (by omega), cl_n (by omega), h2, ile (by omega) (by omega), if_neg (by omega), ix0, ix0, bd_n (by omega) (by omega), cl_n (by omega), g0, li_5, ieq (by omega) (by omega), li_3, ad_n, ad_n, bd_n (by omega) (by omega), bd_n (by omega) (by omega), cl_n (by omega), cl_n (by omega), g3, f3, ieq (by omega) (by omega), li_1, ad_n]
    by_cases h2 : B 5 q = 5
    · rw [if_pos h2, if_neg (fun z => z.2 h2)]
      exact ih n (q + 1) (by omega) (by omega)
    · rw [if_neg h2]
      by_cases h1 : B 4 q = B 4 p
      · rw [if_pos h1, if_pos ⟨h1, h2⟩]
      · rw [if_neg h1, if_neg (fun z => h1 z.1)]
        exact ih n (q + 1) (by omega) (by omega)
theorem m_mixed (hw : lenM w = 64) (h : RM (μ w) B v) (hW : WF B) {p : Nat} (hp : p < B 0 1) : m_M_mixedWith w μ (nI p) = some ((match mixw B p (B 0 1 - (p + 1)) (p + 1) with | none => -1000000 | some r => nI r), μ) := by
  have w1 := hW.2.1
  unfold m_M_mixedWith
  rw [nm_i, li_1, ad_n]
  exact m_mixed_l hw h hW hp (B 0 1 - (p + 1)) FU (p + 1) (by omega) (fu_lt (by omega))
/-- the last of it: IS and LAST are laid -/
theorem m_put122 (hw : lenM w = 64) (h : RM (μ w) B v) (hW : WF B) {p x : Nat} (hp : p < B 0 1) : ∃ μ', m_M_putsBack_B122 w μ (nI (22 + 6 * p)) (nI x) (nI (22 + 6 * p + 4)) = some (0, μ') ∧ RM (μ' w) (ub B 6 p x) (fun q => if q = p then nI x else v q) ∧ FrM w μ μ' := by
  have w1 := hW.2.1
  unfold m_M_putsBack_B122
  rw [hw, bd_n (by omega) (by omega), nmS_e, li_4, ad_n, bd_n (by omega) (by omega), li_5, ad_n, bd_n (by omega) (by omega), nmS_e, cl_n (by omega), cl_n (by omega), up_s]
  refine ⟨_, rfl, ?_, (frM w μ _ _).tr (frM w _ _ _)⟩
  rw [up_row, up_row]
  exact (h.uIS hW p (nI x)).uLA hW p x
theorem m_put68 (hw : lenM w = 64) (h : RM (μ w) B v) (hW : WF B) {p : Nat} (hp : p < B 0 1) : ∃ μ', m_M_putsBack_B68 w μ (nI (22 + 6 * p)) = some (0, μ') ∧ RM (μ' w) (if B 5 p = 3 then ub B 6 p ((B 6 p + B 0 2) % B 0 0) else if B 5 p = 4 then ub B 6 p (B 2 p) else B) (fun q => if q = p ∧ B 5 p ≠ 5 then nI ((if B 5 p = 3 then ub B 6 p ((B 6 p + B 0 2) % B 0 0) else if B 5 p = 4 then ub B 6 p (B 2 p) else B) 6 p) else v q) ∧ FrM w μ μ' := by
  have hh := h
  obtain ⟨h0, h1, h2, h3, h4, h5, h6, h7⟩ := hh
  obtain ⟨g0, g1, g2, g3, g4, g5⟩ := h7 p hp
  obtain ⟨v1, v2, v3, v4, v5, v6, v7⟩ := hW.2.2.2.2.2.2 p hp
  have w0 := hW.1
  have w1 := hW.2.1
  have w2 := hW.2.2.1
  unfold m_M_putsBack_B68
  have hb : ∀ t : Rt, bd (nI (22 + 6 * p)) 64 t = t := fun t => bd_n (by omega) (by omega)
  rw [hw]
  simp only [hb]
  rw [cl_n (by omega), g0]
  by_cases k5 : B 5 p = 5
  · rw [li_5, ieq (by omega) (by omega), if_pos k5, if_neg (by omega), if_neg (by omega)]
    exact ⟨μ, rfl, h.cv (fun q hq => if_neg (fun z => z.2 k5)), FrM.rf w μ⟩
  · rw [li_5, ieq (by omega) (by omega), if_neg k5]
    by_cases k3 : B 5 p = 3
    · rw [li_3, ieq (by omega) (by omega), if_pos k3, if_pos k3, ad_n, bd_n (by omega) (by omega), li_0, bd_n (by omega) (by omega), li_1, bd_n (by omega) (by omega), cl_n (by omega), cl_n (by omega), cl_n (by omega), h1, h0, g5, nz_n (by omega) (by omega), ad_n, rm_n (by omega) (by omega) (by omega), li_4, ad_n]
      obtain ⟨μ', e, r, f⟩ := m_put122 hw h hW (x := (B 6 p + B 0 2) % B 0 0) hp
      refine ⟨μ', e, r.cv (fun q _ => ?_), f⟩
      by_cases hq : q = p
      · rw [if_pos ⟨hq, k5⟩, if_pos hq, ub_v, if_pos ⟨rfl, rfl⟩]
      · rw [if_neg (fun z => hq z.1), if_neg hq]
    · rw [li_3, ieq (by omega) (by omega), if_neg k3, if_neg k3]
      by_cases k4 : B 5 p = 4
      · rw [li_4, ieq (by omega) (by omega), if_pos k4, if_pos k4, li_1, ad_n, bd_n (by omega) (by omega), cl_n (by omega), g1, ad_n]
        obtain ⟨μ', e, r, f⟩ := m_put122 hw h hW (x := B 2 p) hp
        refine ⟨μ', e, r.cv (fun q _ => ?_), f⟩
        by_cases hq : q = p
        · rw [if_pos ⟨hq, k5⟩, if_pos hq, ub_v, if_pos ⟨rfl, rfl⟩]
        · rw [if_neg (fun z => hq z.1), if_neg hq]
      · rw [li_4, ieq (by omega) (by omega), if_neg k4, if_neg k4, ad_n, bd_n (by omega) (by omega), cl_n (by omega), g5, ad_n]
        obtain ⟨μ', e, r, f⟩ := m_put122 hw h hW (x := B 6 p) hp
        rw [ub_self] at r
        refine ⟨μ', e, r.cv (fun q _ => ?_), f⟩
        by_cases hq : q = p
        · rw [if_pos ⟨hq, k5⟩, if_pos hq]
        · rw [if_neg (fun z => hq z.1), if_neg hq]
theorem m_put (hw : lenM w = 64) (h : RM (μ w) B v) (hW : WF B) {p : Nat} (hp : p < B 0 1) : ∃ μ', m_M_putsBack w μ (nI p) = some (0, μ') ∧ RM (μ' w) (stepB B p) (fun q => if q = p ∧ B 5 p ≠ 5 then nI (stepB B p 6 p) else v q) ∧ FrM w μ μ' := by
  have hh := h
  obtain ⟨h0, h1, h2, h3, h4, h5, h6, h7⟩ := hh
  obtain ⟨g0, g1, g2, g3, g4, g5⟩ := h7 p hp
  obtain ⟨v1, v2, v3, v4, v5, v6, v7⟩ := hW.2.2.2.2.2.2 p hp
  have w0 := hW.1
  have w1 := hW.2.1
  unfold m_M_putsBack
  rw [ix0, nm_i, hw, bd_n (by omega) (by omega), cl_n (by omega), g0, li_2, ieq (by omega) (by omega)]
  by_cases k2 : B 5 p = 2
  · rw [if_pos k2, m_mixed hw h hW hp, bnd_s]
    unfold stepB mixB m_M_putsBack_B25
    rw [if_pos k2]
    cases hm : mixw B p (B 0 1 - (p + 1)) (p + 1) with
    | none =>
      dsimp only
      rw [if_pos rfl]
      obtain ⟨μ', e, r, f⟩ := m_put68 hw h hW hp
      rw [if_neg (by omega), if_neg (by omega)] at r
      exact ⟨μ', e, r, f⟩
    | some q =>
      have hq := mixw_in hm
      obtain ⟨f0, f1, f2, f3, f4, f5⟩ := h7 q (by omega)
      dsimp only
      rw [if_neg (neg_n (by omega)), ix0, li_5, ad_n, ad_n, hw, bd_n (by omega) (by omega), nm_i, bd_n (by omega) (by omega), bd_n (by omega) (by omega), nmS_e, bd_n (by omega) (by omega), nmS_e, cl_n (by omega), cl_n (by omega), g5, f5]
      have hs : RM ((up (up μ w (22 + 6 * p + 5) (nI (B 6 q))) w (22 + 6 * q + 5) (nI (B 6 p))) w) (swp B p q) v := by
        rw [up_row, up_row]
        exact (h.uLA hW p (B 6 q)).uLA (hW.ub6 (fun _ => hW.last (by omega))) q (B 6 p)
      have l6 := L6_swp B p q
      obtain ⟨μ', e, r, f⟩ := m_put68 hw hs (hW.swp hp (by omega)) (p := p) (by rw [l6 0 1 (by decide)]; exact hp)
      rw [l6 5 p (by decide), if_neg (by omega), if_neg (by omega)] at r
      exact ⟨μ', e, r, ((frM w μ _ _).tr (frM w _ _ _)).tr f⟩
  · rw [if_neg k2]
    unfold m_M_putsBack_B25 stepB
    rw [if_pos rfl, if_neg k2]
    exact m_put68 hw h hW hp
end XM
