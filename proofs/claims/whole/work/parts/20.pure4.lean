/-! pure: the reference opens, closes, turns -/
theorem mixw_ne {B : Bt} {p : Nat} : ∀ {m q r : Nat}, mixw B p m q = some r → B 5 r ≠ 5
  | 0, _, _, h => by cases h
  | m + 1, q, r, h => by
    unfold mixw at h
    split at h
    · next hc =>
      cases h
      exact hc.2
    · exact mixw_ne h
theorem step_keep (B : Bt) {p q : Nat} (h : q < p) : stepB B p 6 q = B 6 q := by
  unfold stepB
  split
  · unfold mixB
    cases e : mixw B p (B 0 1 - (p + 1)) (p + 1) with
    | none => rfl
    | some r =>
      have := mixw_in e
      show swp B p r 6 q = _
      unfold swp
      rw [ub_v, if_neg (by omega), ub_v, if_neg (by omega)]
  · split
    · rw [ub_v, if_neg (by omega)]
    · split
      · rw [ub_v, if_neg (by omega)]
      · rfl
theorem step_whale (B : Bt) {p q : Nat} (h : B 5 q = 5) : stepB B p 6 q = B 6 q := by
  by_cases hpq : q = p
  · subst hpq
    unfold stepB
    rw [if_neg (by omega), if_neg (by omega), if_neg (by omega)]
  · unfold stepB
    split
    · unfold mixB
      cases e : mixw B p (B 0 1 - (p + 1)) (p + 1) with
      | none => rfl
      | some r =>
        have h1 := mixw_ne e
        have h2 : q ≠ r := fun z => h1 (z ▸ h)
        show swp B p r 6 q = _
        unfold swp
        rw [ub_v, if_neg (fun z => h2 z.2), ub_v, if_neg (fun z => hpq z.2)]
    · split
      · rw [ub_v, if_neg (fun z => hpq z.2)]
      · split
        · rw [ub_v, if_neg (fun z => hpq z.2)]
        · rfl
theorem opn_keep (left : Nat) : ∀ (m p : Nat) (B : Bt) {q : Nat}, q < p → opnL left m p B 6 q = B 6 q
  | 0, _, _, _, _ => rfl
  | m + 1, p, B, q, h => by
    unfold opnL
    split
    · exact opn_keep left m (p + 1) B (by omega)
    · rw [opn_keep left m (p + 1) _ (by omega), step_keep B h]
theorem opn_whale (left : Nat) : ∀ (m p : Nat) (B : Bt) {q : Nat}, B 5 q = 5 → opnL left m p B 6 q = B 6 q
  | 0, _, _, _, _ => rfl
  | m + 1, p, B, q, h => by
    unfold opnL
    split
    · exact opn_whale left m (p + 1) B h
    · rw [opn_whale left m (p + 1) _ (by rw [L6_step B p 5 q (by decide)]; exact h), step_whale B h]
/-- where the pins are when those of a set were left out -/
def opv (B : Bt) (left : Nat) (v : Nat → Int32) (m p : Nat) : Nat → Int32 := fun q => if p ≤ q ∧ q < p + m ∧ left.testBit q = false ∧ B 5 q ≠ 5 then nI (opnL left m p B 6 q) else v q
theorem ones_n : ∀ t, t < 128 → (m_M_ones (fun _ _ => 0) (nI t)).map (fun x => x.1) = some (nI (cnt t)) := by decide +kernel
theorem ones_st (σ σ' : St) (x : Int32) : ∀ (n : Nat) (y i : Int32), (m_M_ones_L4 n σ x y i).map (fun q => q.1) = (m_M_ones_L4 n σ' x y i).map (fun q => q.1) ∧ ∀ q, m_M_ones_L4 n σ x y i = some q → q.2 = σ
  | 0, _, _ => ⟨rfl, fun _ h => by cases h⟩
  | n + 1, y, i => by
    show (m_M_ones_B4 (m_M_ones_L4 n) σ x y i).map _ = (m_M_ones_B4 (m_M_ones_L4 n) σ' x y i).map _ ∧ ∀ q, m_M_ones_B4 (m_M_ones_L4 n) σ x y i = some q → q.2 = σ
    unfold m_M_ones_B4
    by_cases h : (16 : Int32) ≤ i
    · rw [if_pos h, if_pos h]
      exact ⟨rfl, fun q e => by cases e; rfl⟩
    · rw [if_neg h, if_neg h]
      exact ones_st σ σ' x n _ _
theorem m_ones (μ : St) {t : Nat} (ht : t < 128) : m_M_ones μ (nI t) = some (nI (cnt t), μ) := by
  have h1 := ones_n t ht
  have h2 := ones_st μ (fun _ _ => 0) (nI t) FU 0 0
  have h3 : (m_M_ones μ (nI t)).map (fun q => q.1) = some (nI (cnt t)) := h2.1.trans h1
  cases h : m_M_ones μ (nI t) with
  | none => rw [h] at h3; cases h3
  | some q =>
    rw [h] at h3
    have h4 := h2.2 q h
    have h5 : q.1 = nI (cnt t) := Option.some.inj h3
    rw [← h4, ← h5]
theorem bset_7 (f : Nat → Bool) {n : Nat} (h : n ≤ 7) : bset f n < 128 := Nat.lt_of_lt_of_le (bset_lt f n) (show 2 ^ n ≤ 128 from Nat.pow_le_pow_right (show 0 < 2 by decide) (show n ≤ 7 from h))
theorem cnt_pos : ∀ t, t < 128 → ∀ p, p < 7 → t.testBit p = true → 0 < cnt t := by decide +kernel
/-- what one pin earns where it is -/
def yv1 (B : Bt) (v : Nat → Int32) (p : Nat) : Nat := if v p = -1000000 then 0 else B 3 p * B 1 (v p).toNatClampNeg / cnt (bset (fun q => decide (v q = v p)) (B 0 1))
def yvL (B : Bt) (v : Nat → Int32) : Nat → Nat → Nat
  | 0, _ => 0
  | m + 1, p => yv1 B v p + yvL B v m (p + 1)
section XM4
theorem m_inCellE {μ : St} {w : Nat} {B : Bt} {v : Nat → Int32} (hw : lenM w = 64) {a : Nat} (h : RM (μ w) (ub B 0 4 a) v) (w1 : B 0 1 ≤ 7) (c : Int32) : m_M_inCell w μ c = some (nI (bset (fun p => decide (v p = c)) (B 0 1)), μ) :=
  m_inCell7 hw h w1 c
variable {μ : St} {w : Nat} {B : Bt} {v : Nat → Int32}
theorem m_opens100 (hw : lenM w = 64) (h : RM (μ w) B v) {a : Nat} (ha : B 0 4 = a) (hb : a ≤ 2000000) : ∃ μ', m_M_opens_B100 w μ = some (0, μ') ∧ RM (μ' w) (ub B 0 4 (min 999999 a)) v ∧ FrM w μ μ' := by
  obtain ⟨h0, h1, h2, h3, h4, h5, h6, h7⟩ := id h
  unfold m_M_opens_B100
  have hb5 : ∀ t : Rt, bd (nI 5) 64 t = t := fun t => bd_n (by omega) (by omega)
  rw [hw, li_5]
  simp only [hb5]
  rw [cl_n (by omega), h5, ha, li_999999, ile (by omega) (by omega)]
  by_cases h9 : a ≤ 999999
  · rw [if_pos h9, nmS_e, Nat.min_eq_right h9]
    exact ⟨_, rfl, by rw [up_row]; exact h.u5 a, frM w μ _ _⟩
  · rw [if_neg h9, nmS_e, Nat.min_eq_left (by omega)]
    exact ⟨_, rfl, by rw [up_row]; exact h.u5 _, frM w μ _ _⟩
theorem m_opens34 (hw : lenM w = 64) (hv : ∀ q, q < B 0 1 → v q = -1000000 ∨ ∃ c, c < B 0 0 ∧ v q = nI c) : ∀ (m n p : Nat) (μ : St) (a : Nat), RM (μ w) (ub B 0 4 a) v → WF B → p + m = B 0 1 → m < n → a ≤ 999999 + 81 * p → ∃ μ', m_M_opens_L34 w n μ (nI p) = some (0, μ') ∧ RM (μ' w) (ub B 0 4 (min 999999 (a + yvL B v m p))) v ∧ FrM w μ μ' := by
  intro m
  induction m with
  | zero =>
    intro n p μ a h hW hp hn ha
    have w1 := hW.2.1
    obtain ⟨n, rfl⟩ : ∃ k, n = k + 1 := ⟨n - 1, by omega⟩
    have h2 : μ w 2 = nI (B 0 1) := h.2.2.1
    show ∃ μ', m_M_opens_B34 w (m_M_opens_L34 w n) μ _ = _ ∧ _
    unfold m_M_opens_B34
    rw [hw, li_2, bd_n (by omega) (by omega), cl_n (by omega), h2, ile (by omega) (by omega), if_pos (by omega)]
    obtain ⟨μ', e, r, f⟩ := m_opens100 hw h (a := a) (by rw [ub_v, if_pos ⟨rfl, rfl⟩]) (by omega)
    refine ⟨μ', e, ?_, f⟩
    have e2 : ub (ub B 0 4 a) 0 4 (min 999999 a) = ub B 0 4 (min 999999 (a + yvL B v 0 p)) := by
      funext x y
      simp only [ub_v, yvL, Nat.add_zero]
      split <;> rfl
    rw [← e2]
    exact r
  | succ m ih =>
    intro n p μ a h hW hp hn ha
    have w0 := hW.1
    have w1 := hW.2.1
    have hpP : p < B 0 1 := by omega
    obtain ⟨v1, v2, v3, v4, v5, v6, v7⟩ := hW.2.2.2.2.2.2 p hpP
    obtain ⟨n, rfl⟩ : ∃ k, n = k + 1 := ⟨n - 1, by omega⟩
    obtain ⟨h0, h1, h2, h3, h4, h5, h6, h7⟩ := id h
    obtain ⟨g0, g1, g2, g3, g4, g5⟩ := h7 p hpP
    have g2 : μ w (22 + 6 * p + 2) = nI (B 3 p) := g2
    have h2 : μ w 2 = nI (B 0 1) := h2
    have h5 : μ w 5 = nI a := h5
    have h6 : ∀ i, i < B 0 0 → μ w (6 + i) = nI (B 1 i) := h6
    show ∃ μ', m_M_opens_B34 w (m_M_opens_L34 w n) μ _ = _ ∧ _
    unfold m_M_opens_B34 m_M_opens_B94
    rw [hw, li_2, bd_n (by omega) (by omega), cl_n (by omega), h2, ile (by omega) (by omega), if_neg (by omega), ix0, nm_i, li_4, ad_n, bd_n (by omega) (by omega), cl_n (by omega), g4]
    rcases hv p hpP with hn0 | ⟨c, hc, hvc⟩
    · rw [if_pos hn0, li_1, ad_n]
      obtain ⟨μ', e, r, f⟩ := ih n (p + 1) μ a h hW (by omega) (by omega) (by omega)
      refine ⟨μ', e, ?_, f⟩
      unfold yvL
      rw [show yv1 B v p = 0 from if_pos hn0, Nat.zero_add]
      exact r
    · have w6 := hW.2.2.2.2.2.1 c hc
      have h81 : B 3 p * B 1 c ≤ 9 * 9 := Nat.mul_le_mul v3 w6
      have hbs : bset (fun q => decide (v q = nI c)) (B 0 1) < 128 := bset_7 _ w1
      have hcp : 0 < cnt (bset (fun q => decide (v q = nI c)) (B 0 1)) := cnt_pos _ hbs p (by omega) (by rw [bset_test]; simp [hpP, hvc])
      have hcl := cnt_le (bset (fun q => decide (v q = nI c)) (B 0 1))
      have hdl : B 3 p * B 1 c / cnt (bset (fun q => decide (v q = nI c)) (B 0 1)) ≤ 81 := Nat.le_trans (Nat.div_le_self _ _) h81
      have hbb : ∀ k, k < 64 → ∀ t : Rt, bd (nI k) 64 t = t := fun k hk t => bd_n hk (by omega)
      have hic : m_M_inCell w μ (nI c) = some (nI (bset (fun q => decide (v q = nI c)) (B 0 1)), μ) := by
        exact m_inCellE hw h hW.2.1 (nI c)
      rw [hvc, if_neg (neg_n (by omega)), li_5, li_6, ad_n, ad_n]
      rw [bd_n (by omega) (by omega), bd_n (by omega) (by omega), bd_n (by omega) (by omega), bd_n (by omega) (by omega), bd_n (by omega) (by omega), hic, bnd_s, m_ones μ hbs, bnd_s, nz_n hcp (by omega), bd_n (by omega) (by omega), nmS_e, cl_n (by omega), cl_n (by omega), cl_n (by omega), h5, g2, h6 c hc, mu_n, dv_n (by omega) hcp (by omega), ad_n, li_1, ad_n]
      have hR2 : RM ((up μ w 5 (nI (a + B 3 p * B 1 c / cnt (bset (fun q => decide (v q = nI c)) (B 0 1))))) w) (ub B 0 4 (a + B 3 p * B 1 c / cnt (bset (fun q => decide (v q = nI c)) (B 0 1)))) v := by
        rw [up_row]
        have e2 : ∀ z, ub (ub B 0 4 a) 0 4 z = ub B 0 4 z := by
          intro z
          funext x y
          simp only [ub_v]
          split <;> rfl
        rw [← e2]
        exact h.u5 _
      obtain ⟨μ', e, r, f⟩ := ih n (p + 1) _ _ hR2 hW (by omega) (by omega) (by omega)
      refine ⟨μ', e, ?_, (frM w μ _ _).tr f⟩
      unfold yvL
      have e3 : yv1 B v p = B 3 p * B 1 c / cnt (bset (fun q => decide (v q = nI c)) (B 0 1)) := by
        unfold yv1
        rw [hvc, if_neg (neg_n (by omega)), cl_n (by omega)]
      rw [e3, ← Nat.add_assoc]
      exact r
/-- putting the pins back, one by one -/
theorem m_opens2 (hw : lenM w = 64) {left : Nat} (hl : left < 128) : ∀ (m n p : Nat) (μ : St) (B : Bt) (v : Nat → Int32), RM (μ w) B v → WF B → p + m = B 0 1 → m < n → ∃ μ1, RM (μ1 w) (opnL left m p B) (opv B left v m p) ∧ FrM w μ μ1 ∧ m_M_opens_L2 w n μ (nI left) (nI p) = m_M_opens_B28 w μ1 := by
  intro m
  induction m with
  | zero =>
    intro n p μ B v h hW hp hn
    have w1 := hW.2.1
    obtain ⟨n, rfl⟩ : ∃ k, n = k + 1 := ⟨n - 1, by omega⟩
    have h2 : μ w 2 = nI (B 0 1) := h.2.2.1
    refine ⟨μ, h.cv (fun q hq => ?_), FrM.rf w μ, ?_⟩
    · unfold opv
      rw [if_neg (by omega)]
    · show m_M_opens_B2 w (m_M_opens_L2 w n) μ _ _ = _
      unfold m_M_opens_B2
      rw [hw, li_2, bd_n (by omega) (by omega), cl_n (by omega), h2, ile (by omega) (by omega), if_pos (by omega)]
  | succ m ih =>
    intro n p μ B v h hW hp hn
    have w1 := hW.2.1
    have hpP : p < B 0 1 := by omega
    obtain ⟨n, rfl⟩ : ∃ k, n = k + 1 := ⟨n - 1, by omega⟩
    have h2 : μ w 2 = nI (B 0 1) := h.2.2.1
    have e0 : m_M_opens_L2 w (n + 1) μ (nI left) (nI p) = m_M_opens_B2 w (m_M_opens_L2 w n) μ (nI left) (nI p) := rfl
    rw [e0]
    unfold m_M_opens_B2 m_M_opens_B22
    rw [hw, li_2, bd_n (by omega) (by omega), cl_n (by omega), h2, ile (by omega) (by omega), if_neg (by omega), m_has μ hl (by omega), bnd_s]
    by_cases hs : left.testBit p = true
    · rw [if_pos hs, if_neg (by decide), li_1, ad_n]
      obtain ⟨μ1, r, f, e⟩ := ih n (p + 1) μ B v h hW (by omega) (by omega)
      refine ⟨μ1, ?_, f, e⟩
      have eo : opnL left (m + 1) p B = opnL left m (p + 1) B := by
        show opnL left m (p + 1) (if left.testBit p = true then B else stepB B p) = _
        rw [if_pos hs]
      rw [eo]
      refine r.cv (fun q hq => ?_)
      unfold opv
      rw [eo]
      by_cases hq : q = p
      · subst hq
        rw [if_neg (by rw [hs]; simp), if_neg (by omega)]
      · by_cases hc : p + 1 ≤ q ∧ q < p + 1 + m ∧ left.testBit q = false ∧ B 5 q ≠ 5
        · rw [if_pos hc, if_pos ⟨by omega, by omega, hc.2.2⟩]
        · rw [if_neg hc, if_neg (fun z => hc ⟨by omega, by omega, z.2.2⟩)]
    · rw [if_neg hs, if_pos rfl]
      obtain ⟨μ', e1, r1, f1⟩ := m_put hw h hW hpP
      rw [e1, bnd_s, li_1, ad_n]
      have l6 := L6_step B p
      obtain ⟨μ1, r, f, e⟩ := ih n (p + 1) μ' (stepB B p) _ r1 (hW.step hpP) (by rw [l6 0 1 (by decide)]; omega) (by omega)
      refine ⟨μ1, ?_, f1.tr f, e⟩
      have eo : opnL left (m + 1) p B = opnL left m (p + 1) (stepB B p) := by
        show opnL left m (p + 1) (if left.testBit p = true then B else stepB B p) = _
        rw [if_neg hs]
      rw [eo]
      refine r.cv (fun q hq => ?_)
      unfold opv
      rw [eo, l6 5 q (by decide)]
      by_cases hqp : q = p
      · subst hqp
        rw [if_neg (show ¬ (q + 1 ≤ q ∧ q < q + 1 + m ∧ left.testBit q = false ∧ B 5 q ≠ 5) by omega)]
        by_cases k5 : B 5 q = 5
        · rw [if_neg (fun z => z.2.2.2 k5)]
          exact (if_neg (fun z => z.2 k5)).symm
        · rw [if_pos ⟨by omega, by omega, by simpa using hs, k5⟩, opn_keep left m (q + 1) _ (by omega)]
          exact (if_pos ⟨rfl, k5⟩).symm
      · by_cases hc : p + 1 ≤ q ∧ q < p + 1 + m ∧ left.testBit q = false ∧ B 5 q ≠ 5
        · rw [if_pos hc, if_pos ⟨by omega, by omega, hc.2.2⟩]
        · rw [if_neg hc, if_neg (fun z => hc ⟨by omega, by omega, z.2.2⟩)]
          exact (if_neg (fun z => hqp z.1)).symm
/-- the whole of opens -/
theorem m_opens (hw : lenM w = 64) {left : Nat} (hl : left < 128) (h : RM (μ w) B v) (hW : WF B) (hv : ∀ q, q < B 0 1 → v q = -1000000 ∨ ∃ c, c < B 0 0 ∧ v q = nI c) : ∃ μ', m_M_opens w μ (nI left) = some (0, μ') ∧ RM (μ' w) (ub (opnB B left) 0 4 (min 999999 (B 0 4 + yvL (opnB B left) (opv B left v (B 0 1) 0) (B 0 1) 0))) (opv B left v (B 0 1) 0) ∧ FrM w μ μ' := by
  have w1 := hW.2.1
  have w4 := hW.2.2.2.1
  obtain ⟨μ1, r, f, e⟩ := m_opens2 hw hl (B 0 1) FU 0 μ B v h hW (by omega) (fu_lt (by omega))
  unfold m_M_opens
  rw [li_0, e]
  unfold m_M_opens_B28
  rw [hw, li_4, bd_n (by omega) (by omega), nmS_e, cl_n (by omega), li_1, li_0]
  have r2 : RM ((up μ1 w 4 (nI 1)) w) (opnB B left) (opv B left v (B 0 1) 0) := by
    rw [up_row]
    exact r.u4 1
  have hWo := hW.opn left
  have e1 : opnB B left 0 1 = B 0 1 := opn_dim B left 1 (by decide)
  have e00 : opnB B left 0 0 = B 0 0 := opn_dim B left 0 (by decide)
  have e4 : opnB B left 0 4 = B 0 4 := opn_dim B left 4 (by decide)
  have r3 : RM ((up μ1 w 4 (nI 1)) w) (ub (opnB B left) 0 4 (B 0 4)) (opv B left v (B 0 1) 0) := by
    rw [← e4, ub_self]
    exact r2
  have hv2 : ∀ q, q < opnB B left 0 1 → opv B left v (B 0 1) 0 q = -1000000 ∨ ∃ c, c < opnB B left 0 0 ∧ opv B left v (B 0 1) 0 q = nI c := by
    intro q hq
    rw [e1] at hq
    unfold opv
    split
    · have := WF.opnL (left := left) (m := B 0 1) (p := 0) hW (by omega)
      have hl6 := L6_opn left (B 0 1) 0 B
      refine Or.inr ⟨_, ?_, rfl⟩
      rw [e00]
      have h9 := this.last (p := q) (by rw [hl6 0 1 (by decide)]; exact hq)
      rw [hl6 0 0 (by decide)] at h9
      exact h9
    · rw [e00]
      exact hv q hq
  obtain ⟨μ', a1, a2, a3⟩ := m_opens34 hw hv2 (opnB B left 0 1) FU 0 _ (B 0 4) r3 hWo (by omega) (fu_lt (by rw [e1]; omega)) (by omega)
  rw [e1] at a2
  exact ⟨μ', a1, a2, f.tr ((frM w μ1 _ _).tr a3)⟩
end XM4
