/-! pure: rows and the tape -/
theorem sub_i {a b : Nat} (ha : a < 1073741824) (hb : b < 2147483648) : (nI a - nI b).toInt = (a : Int) - b := by
  rw [Int32.toInt_sub, nI_toInt (by omega), nI_toInt (by omega)]
  exact Int.bmod_eq_of_le (by omega) (by omega)
theorem pos_n {x : Int32} (h : (0 : Int32) ≤ x) : ∃ n, n < 2147483648 ∧ x = nI n := by
  have h1 := Int32.le_iff_toInt_le.mp h
  rw [show (0 : Int32).toInt = 0 from rfl] at h1
  have h2 := Int32.toInt_lt x
  refine ⟨x.toInt.toNat, by omega, ?_⟩
  apply Int32.toInt_inj.mp
  rw [nI_toInt (by omega)]
  omega
theorem sub_le {n i k : Nat} (hn : n ≤ 40) (hi : i < 2147483648) (hk : k < 2147483648) : nI i ≤ nI n - nI k ↔ i + k ≤ n := by
  rw [Int32.le_iff_toInt_le, sub_i (by omega) hk, nI_toInt (by omega)]
  omega
theorem places {x2 x3 : Int32} {n : Nat} (hn : n ≤ 40) : ((0 : Int32) ≤ x3 ∧ (0 : Int32) ≤ x2 ∧ x2 ≤ nI n - x3) ↔ ∃ i k, i + k ≤ n ∧ x2 = nI i ∧ x3 = nI k := by
  constructor
  · rintro ⟨h1, h2, h3⟩
    obtain ⟨k, hk, rfl⟩ := pos_n h1
    obtain ⟨i, hi, rfl⟩ := pos_n h2
    exact ⟨i, k, (sub_le hn hi hk).mp h3, rfl, rfl⟩
  · rintro ⟨i, k, h, rfl, rfl⟩
    exact ⟨by rw [li_0, le_n (by omega) (by omega)]; omega, by rw [li_0, le_n (by omega) (by omega)]; omega, (sub_le hn (by omega) (by omega)).mpr h⟩
theorem parts_ {x2 x3 : Int32} {n : Nat} (hn : n ≤ 40) : ((0 : Int32) ≤ x2 ∧ (0 : Int32) ≤ x3 ∧ x2 ≤ nI n ∧ x3 ≤ nI n - x2) ↔ ∃ i k, i + k ≤ n ∧ x2 = nI i ∧ x3 = nI k := by
  constructor
  · rintro ⟨h1, h2, h3, h4⟩
    obtain ⟨i, hi, rfl⟩ := pos_n h1
    obtain ⟨k, hk, rfl⟩ := pos_n h2
    have := (sub_le hn hk hi).mp h4
    exact ⟨i, k, by omega, rfl, rfl⟩
  · rintro ⟨i, k, h, rfl, rfl⟩
    exact ⟨by rw [li_0, le_n (by omega) (by omega)]; omega, by rw [li_0, le_n (by omega) (by omega)]; omega, by rw [le_n (by omega) (by omega)]; omega, (sub_le hn (by omega) (by omega)).mpr (by omega)⟩
theorem x_places {σ : St} {r n : Nat} (hr : r < 8) (hs : σ 3 r = nI n) (hn : n ≤ 40) (x2 x3 : Int32) : m_Rows_hasPlaces σ (nI r) x2 x3 = some (@ite Int32 (∃ i k, i + k ≤ n ∧ x2 = nI i ∧ x3 = nI k) (Classical.propDecidable _) 1 0, σ) := by
  have hp := places hn (x2 := x2) (x3 := x3)
  unfold m_Rows_hasPlaces
  rw [bd_n (by omega) (by omega), cl_n (by omega), hs]
  by_cases h3 : x3 < 0
  · rw [if_pos h3, vB_0, if_neg (fun z => Int32.not_lt.mpr (hp.mpr z).1 h3)]
  · rw [if_neg h3]
    by_cases h2 : x2 < 0
    · rw [if_pos h2, vB_0, if_neg (fun z => Int32.not_lt.mpr (hp.mpr z).2.1 h2)]
    · rw [if_neg h2]
      by_cases h1 : nI n - x3 < x2
      · rw [if_pos h1, vB_0, if_neg (fun z => Int32.not_lt.mpr (hp.mpr z).2.2 h1)]
      · rw [if_neg h1, vB_1, if_pos (hp.mp ⟨Int32.not_lt.mp h3, Int32.not_lt.mp h2, Int32.not_lt.mp h1⟩)]
theorem m_part {μ : St} {r n : Nat} (hr : r < 8) (hs : μ 2 r = nI n) (hn : n ≤ 40) (x2 x3 : Int32) : m_M_isPart μ (nI r) x2 x3 = some (@ite Int32 (∃ i k, i + k ≤ n ∧ x2 = nI i ∧ x3 = nI k) (Classical.propDecidable _) 1 0, μ) := by
  have hp := parts_ hn (x2 := x2) (x3 := x3)
  unfold m_M_isPart
  rw [show lenM 2 = 8 from rfl, bd_n (by omega) (by omega), bd_n (by omega) (by omega), cl_n (by omega), hs]
  by_cases h2 : x2 < 0
  · rw [if_pos h2, vB_0, if_neg (fun z => Int32.not_lt.mpr (hp.mpr z).1 h2)]
  · rw [if_neg h2]
    by_cases h3 : x3 < 0
    · rw [if_pos h3, vB_0, if_neg (fun z => Int32.not_lt.mpr (hp.mpr z).2.1 h3)]
    · rw [if_neg h3]
      by_cases h1 : nI n < x2
      · rw [if_pos h1, vB_0, if_neg (fun z => Int32.not_lt.mpr (hp.mpr z).2.2.1 h1)]
      · rw [if_neg h1]
        by_cases h0 : nI n - x2 < x3
        · rw [if_pos h0, vB_0, if_neg (fun z => Int32.not_lt.mpr (hp.mpr z).2.2.2 h0)]
        · rw [if_neg h0, vB_1, if_pos (hp.mp ⟨Int32.not_lt.mp h2, Int32.not_lt.mp h3, Int32.not_lt.mp h1, Int32.not_lt.mp h0⟩)]
theorem row_iff {x : Int32} : ((0 : Int32) ≤ x ∧ x ≤ 7) ↔ ∃ r, r < 8 ∧ x = nI r := by
  have h := in_iff (x := x) (n := 8) (by omega)
  rw [show (nI 8 - 1 : Int32) = 7 from by decide] at h
  exact h
theorem x_isRow (σ : St) (x : Int32) : m_Rows_isRow σ x = some (@ite Int32 (∃ r, r < 8 ∧ x = nI r) (Classical.propDecidable _) 1 0, σ) := by
  unfold m_Rows_isRow
  rw [within_n, bnd_s, vB_ite]
  by_cases h : ∃ r, r < 8 ∧ x = nI r
  · rw [if_pos h, if_pos (row_iff.mpr h)]
  · rw [if_neg h, if_neg (fun z => h (row_iff.mp z))]
theorem m_isRow (σ : St) (x : Int32) : m_M_isRow σ x = some (@ite Int32 (∃ r, r < 8 ∧ x = nI r) (Classical.propDecidable _) 1 0, σ) := by
  unfold m_M_isRow
  rw [in_n, bnd_s, vB_ite]
  by_cases h : ∃ r, r < 8 ∧ x = nI r
  · rw [if_pos h, if_pos (row_iff.mpr h)]
  · rw [if_neg h, if_neg (fun z => h (row_iff.mp z))]
theorem Rel.rows {σ μ σ' μ' : St} (h : Rel σ μ) (hx : ∀ a, ¬ (2 ≤ a ∧ a < 13 ∧ a ≠ 4) → σ' a = σ a) (hm : ∀ a, a ≠ 1 → a ≠ 2 → a ≠ 3 → a ≠ 4 → μ' a = μ a) (hr : RRow σ' μ') : Rel σ' μ' := by
  obtain ⟨h1, h2, h3, h4, h5, h6, h7, h8⟩ := h
  have m0 := hm 0 (by omega) (by omega) (by omega) (by omega)
  have x0 := hx 0 (by omega)
  have x13 := hx 13 (by omega)
  refine ⟨hr, h2.k (by rw [x13]) (hx 14 (by omega)) (by rw [m0]) (hm 5 (by omega) (by omega) (by omega) (by omega)), by rw [x13, m0]; exact h3, by rw [x0, m0]; exact h4, h5.k (by rw [hx 18 (by omega)]) (hx 19 (by omega)) (by rw [m0]) (hm 15 (by omega) (by omega) (by omega) (by omega)), h6.k (fun a _ _ => hx a (by omega)) (hm 6 (by omega) (by omega) (by omega) (by omega)), h7.k (hx 16 (by omega)) (fun a _ => hx a (by omega)) (by rw [m0]) (hm 9 (by omega) (by omega) (by omega) (by omega)), h8.k (fun a _ _ => hx a (by omega)) (hm 10 (by omega) (by omega) (by omega) (by omega)) (hm 11 (by omega) (by omega) (by omega) (by omega))⟩
theorem x_lay_l {r : Nat} (hr : r < 8) : ∀ (m n i : Nat) (σ : St), i + m = 40 → m < n → ∃ σ', m_Rows_lay_L17 n σ (nI r) (nI i) = some (0, σ') ∧ (∀ a, a ≠ gIt r → σ' a = σ a) ∧ ∀ j, σ' (gIt r) j = if i ≤ j ∧ j < 40 then 0 else σ (gIt r) j := by
  intro m
  induction m with
  | zero =>
    intro n i σ hi hn
    obtain ⟨n, rfl⟩ : ∃ k, n = k + 1 := ⟨n - 1, by omega⟩
    refine ⟨σ, ?_, fun _ _ => rfl, fun j => by rw [if_neg (by omega)]⟩
    show m_Rows_lay_B17 (m_Rows_lay_L17 n) σ _ _ = _
    unfold m_Rows_lay_B17
    rw [li_40, ile (by omega) (by omega), if_pos (by omega)]
  | succ m ih =>
    intro n i σ hi hn
    obtain ⟨n, rfl⟩ : ∃ k, n = k + 1 := ⟨n - 1, by omega⟩
    show ∃ σ', m_Rows_lay_B17 (m_Rows_lay_L17 n) σ _ _ = _ ∧ _
    unfold m_Rows_lay_B17
    rw [li_40, ile (by omega) (by omega), if_neg (by omega), bd_n (by omega) (by omega), bd_n (by omega) (by omega), nmS_e, cl_n (by omega), cl_n (by omega), ad_1]
    obtain ⟨σ', e, f, g⟩ := ih n (i + 1) (up σ (gIt r) i 0) (by omega) (by omega)
    refine ⟨σ', e, fun a ha => (f a ha).trans (up_o ha), fun j => ?_⟩
    rw [g j, up_v]
    by_cases e1 : j = i
    · rw [if_neg (by omega), if_pos ⟨rfl, e1⟩, if_pos (by omega)]
    · rw [if_neg (show ¬ (gIt r = gIt r ∧ j = i) from fun z => e1 z.2)]
      by_cases hc : i ≤ j ∧ j < 40
      · rw [if_pos hc, if_pos (by omega)]
      · rw [if_neg hc, if_neg (by omega)]
theorem m_lay_l {r : Nat} (hr : r < 8) (x3 : Int32) : ∀ (m n i : Nat) (μ : St), i + m = 40 → m < n → ∃ μ', m_M_row_L52 n μ (nI r) x3 (nI i) = m_M_row_B78 μ' x3 ∧ FrM 3 μ μ' ∧ ∀ j, μ' 3 j = if 40 * r + i ≤ j ∧ j < 40 * r + 40 then 0 else μ 3 j := by
  intro m
  induction m with
  | zero =>
    intro n i σ hi hn
    obtain ⟨n, rfl⟩ : ∃ k, n = k + 1 := ⟨n - 1, by omega⟩
    refine ⟨σ, ?_, fun _ _ => rfl, fun j => by rw [if_neg (by omega)]⟩
    show m_M_row_B52 (m_M_row_L52 n) σ _ _ _ = _
    unfold m_M_row_B52
    rw [li_40, ile (by omega) (by omega), if_pos (by omega)]
  | succ m ih =>
    intro n i σ hi hn
    obtain ⟨n, rfl⟩ : ∃ k, n = k + 1 := ⟨n - 1, by omega⟩
    show ∃ σ', m_M_row_B52 (m_M_row_L52 n) σ _ _ _ = _ ∧ _
    unfold m_M_row_B52
    rw [li_40, ile (by omega) (by omega), if_neg (by omega), mu_n, ad_n, show lenM 3 = 320 from rfl, bd_n (by omega) (by omega), nmS_e, cl_n (by omega), ad_1]
    obtain ⟨σ', e, f, g⟩ := ih n (i + 1) (up σ 3 (40 * r + i) 0) (by omega) (by omega)
    refine ⟨σ', e, (frM 3 σ _ _).tr f, fun j => ?_⟩
    rw [g j, up_v]
    by_cases e1 : j = 40 * r + i
    · rw [if_neg (by omega), if_pos ⟨rfl, e1⟩, if_pos (by omega)]
    · rw [if_neg (show ¬ ((3 : Nat) = 3 ∧ j = 40 * r + i) from fun z => e1 z.2)]
      by_cases hc : 40 * r + i ≤ j ∧ j < 40 * r + 40
      · rw [if_pos hc, if_pos (by omega)]
      · rw [if_neg hc, if_neg (by omega)]
theorem a_row (x y z : Int32) {σ μ : St} (h : Rel σ μ) : Sr Rel (m_P_row σ x y z) (m_M_row μ x y z) := by
  unfold m_P_row m_M_row
  rw [x_isRow, m_isRow, bnd_s, bnd_s]
  refine sr_if (fun _ => Sr.fin h) (fun hr => ?_)
  obtain ⟨r, hr, rfl⟩ := hr
  rw [within_n, in_n, bnd_s, bnd_s]
  refine sr_if (fun _ => Sr.fin h) (fun hl => ?_)
  rw [li_2, le_iff (by omega)] at hl
  obtain ⟨l, hl, rfl⟩ := hl
  refine sr_ite (fun h40 => sr_ite (fun h0 => ?_) (fun _ => sr_find h 4)) (fun _ => Sr.fin h)
  rw [li_40] at h40
  obtain ⟨n, hn, rfl⟩ := (le_iff (by omega)).mp ⟨h0, h40⟩
  unfold m_Rows_lay
  simp only [show lenM 1 = 8 from rfl, show lenM 2 = 8 from rfl]
  have hb : ∀ t : Rt, bd (nI r) 8 t = t := fun t => bd_n (by omega) (by omega)
  simp only [hb, nmS_e]
  rw [cl_n (by omega)]
  obtain ⟨σ', e1, f1, g1⟩ := x_lay_l hr 40 FU 0 (up (up σ 2 r (nI l)) 3 r (nI n)) (by omega) (fu_lt (by omega))
  obtain ⟨μ', e2, f2, g2⟩ := m_lay_l hr (nI n) 40 FU 0 (up (up μ 1 r (nI l)) 2 r (nI n)) (by omega) (fu_lt (by omega))
  rw [li_0, e1, e2, bnd_s]
  have hR : Rel σ' μ' := by
    have gi : gIt r = 5 + r := rfl
    refine h.rows (fun a ha => ?_) (fun a a1 a2 a3 a4 => ?_) (fun s hs => ?_)
    · rw [f1 a (by omega), up_o (by omega), up_o (by omega)]
    · rw [f2 a a3, up_o a2, up_o a1]
    · obtain ⟨q1, q2, q3⟩ := h.1 s hs
      rw [f1 2 (by omega), f1 3 (by omega), f2 1 (by omega), f2 2 (by omega), show up (up σ 2 r (nI l)) 3 r (nI n) 2 s = if s = r then nI l else σ 2 s from by simp [up_v], show up (up σ 2 r (nI l)) 3 r (nI n) 3 s = if s = r then nI n else σ 3 s from by simp [up_v], show up (up μ 1 r (nI l)) 2 r (nI n) 1 s = if s = r then nI l else μ 1 s from by simp [up_v], show up (up μ 1 r (nI l)) 2 r (nI n) 2 s = if s = r then nI n else μ 2 s from by simp [up_v]]
      have gs : gIt s = 5 + s := rfl
      by_cases e : s = r
      · subst e
        rw [if_pos rfl, if_pos rfl, if_pos rfl, if_pos rfl]
        refine ⟨Or.inr ⟨l, by omega, rfl, rfl⟩, ⟨n, hn, rfl, rfl⟩, fun i hi => ?_⟩
        rw [g1 i, g2, if_pos (by omega), if_pos (by omega)]
      · rw [if_neg e, if_neg e, if_neg e, if_neg e]
        refine ⟨q1, q2, fun i hi => ?_⟩
        rw [f1 _ (by omega), up_o (by omega), up_o (by omega), g2, if_neg (by omega), up_o (by omega), up_o (by omega)]
        exact q3 i hi
  exact sr_well hR _
theorem cut8 (v : Int32) : (v <<< ((24 : Int32) &&& 31)) >>> ((24 : Int32) &&& 31) = v.toInt8.toInt32 := by
  apply Int32.toBitVec_inj.mp
  show BitVec.sshiftRight (v.toBitVec <<< 24) 24 = (v.toBitVec.signExtend 8).signExtend 32
  apply BitVec.eq_of_getLsbD_eq
  intro i hi
  rw [BitVec.getLsbD_sshiftRight, BitVec.getLsbD_signExtend]
  by_cases h : i < 8
  · rw [BitVec.getLsbD_signExtend]
    simp [h, hi, show 24 + i < 32 by omega, show i < 32 by omega, BitVec.getLsbD_shiftLeft, show ¬ 24 + i < 24 by omega]
  · simp [h, hi, show ¬ 24 + i < 32 by omega, BitVec.msb_eq_getLsbD_last, BitVec.getLsbD_shiftLeft, BitVec.getLsbD_signExtend, BitVec.getElem_signExtend, show ¬ 32 ≤ i by omega]
theorem cut16 (v : Int32) : (v <<< ((16 : Int32) &&& 31)) >>> ((16 : Int32) &&& 31) = v.toInt16.toInt32 := by
  apply Int32.toBitVec_inj.mp
  show BitVec.sshiftRight (v.toBitVec <<< 16) 16 = (v.toBitVec.signExtend 16).signExtend 32
  apply BitVec.eq_of_getLsbD_eq
  intro i hi
  rw [BitVec.getLsbD_sshiftRight, BitVec.getLsbD_signExtend]
  by_cases h : i < 16
  · rw [BitVec.getLsbD_signExtend]
    simp [h, hi, show 16 + i < 32 by omega, show i < 32 by omega, BitVec.getLsbD_shiftLeft, show ¬ 16 + i < 16 by omega]
  · simp [h, hi, show ¬ 16 + i < 32 by omega, BitVec.msb_eq_getLsbD_last, BitVec.getLsbD_shiftLeft, BitVec.getLsbD_signExtend, BitVec.getElem_signExtend, show ¬ 32 ≤ i by omega]
