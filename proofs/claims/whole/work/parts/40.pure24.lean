/-! pure: both read the cells -/
theorem bd1_64 (t : Rt) : bd (1 : Int32) 64 t = t := bd_n (n := 1) (by omega) (by omega)
theorem bd2_64 (t : Rt) : bd (2 : Int32) 64 t = t := bd_n (n := 2) (by omega) (by omega)
theorem m_must_dead {pl k : Nat} {μ : St} (h : Dd pl k μ) (x : Int32) : m_M_must μ x = some (0, μ) := by
  unfold m_M_must
  rw [m_well0 h, bnd_s, if_pos rfl]
theorem m_must1 {μ : St} (h : μ 0 8 = -1) : m_M_must μ 1 = some (0, μ) := by
  unfold m_M_must
  rw [m_well1 h, bnd_s, if_neg (by decide), if_neg (by decide)]
section CLS
variable {c : Nat → Nat} {n p : Nat} {σ0 μ0 σ μ : St} {B : Bt}
theorem m_must0 (h : MS c n p μ) (hp : p < 2147483648) : ∃ μ', m_M_must μ 0 = some (0, μ') ∧ Dd p 1 μ' ∧ Fm7 μ μ' := by
  obtain ⟨μ', e, d, f⟩ := m_tk0 h hp 1
  unfold m_M_must
  rw [m_well1 h.2.1, bnd_s, if_neg (by decide), if_pos rfl, show m_M_takes μ (0 : Int32) (1 : Int32) = some (0, μ') from e, bnd_s]
  exact ⟨μ', rfl, d, f⟩
theorem m_126_dead {pl k : Nat} {μ : St} (h : Dd pl k μ) : m_M_map_B126 μ = m_M_map_L145 FU μ := by
  unfold m_M_map_B126 m_M_map_B142
  rw [hw7, bd1_64, m_must_dead h, m_must_dead h, bnd_s]
  split <;> rfl
theorem r_cells_end (hT : Tp c n) (h : Lv c n σ0 μ0 B p σ μ) (hP : B 0 1 = 0) : (∃ σ' μ', m_Reader_readCells_B33 28 σ = some (0, σ') ∧ m_M_map_B126 μ = m_M_map_L145 FU μ' ∧ Dv σ0 μ0 σ' μ') ∨ (∃ σ' μ' B' p', m_Reader_readCells_B33 28 σ = some (1, σ') ∧ m_M_map_B126 μ = m_M_map_L145 FU μ' ∧ Lv c n σ0 μ0 B' p' σ' μ' ∧ 4 ≤ B' 0 0 ∧ B' 0 1 = 0) := by
  have t1 := hT.1
  obtain ⟨hS, hM, hp, hR, hD, hW, hk, fP, f2, fM, f7⟩ := id h
  have w0 := hW.1
  unfold m_Reader_readCells_B33 m_M_map_B126 m_M_map_B142
  rw [hw7, bd1_64, show (1 : Int32).toNatClampNeg = 1 from rfl, hD.2.1, hR.1 0 (by omega), li_4, li_3, ile (by omega) (by omega), ile (by omega) (by omega)]
  by_cases h4 : 4 ≤ B 0 0
  · rw [if_pos h4, if_neg (show ¬ B 0 0 ≤ 3 by omega), vB_1, m_must1 hM.2.1, bnd_s]
    exact Or.inr ⟨σ, μ, B, p, rfl, rfl, h, h4, hP⟩
  · obtain ⟨σ', e1, g1⟩ := x_flt σ p 1
    obtain ⟨μ', e2, g2, g3⟩ := m_must0 hM (by omega)
    rw [if_neg h4, if_pos (show B 0 0 ≤ 3 by omega), hS.2.1, show m_Reader_faultAt σ (nI p) (1 : Int32) = some (0, σ') from e1, bnd_s, if_pos rfl, vB_0, e2, bnd_s]
    exact Or.inl ⟨σ', μ', rfl, rfl, p, 1, g1.2.2.1, g1.2.2.2, g2, fP.l g1, fM.f g3⟩
theorem r_cells (hT : Tp c n) : ∀ (m n1 n2 p : Nat) (B : Bt) (σ μ : St), Lv c n σ0 μ0 B p σ μ → B 0 1 = 0 → B 0 0 + m = 17 → m < n1 → m + 1 < n2 → (∃ σ' μ', m_Reader_readCells_L2 28 n1 σ (nI (B 0 0)) = some (0, σ') ∧ m_M_map_L95 n2 μ = m_M_map_L145 FU μ' ∧ Dv σ0 μ0 σ' μ') ∨ (∃ σ' μ' B' p', m_Reader_readCells_L2 28 n1 σ (nI (B 0 0)) = some (1, σ') ∧ m_M_map_L95 n2 μ = m_M_map_L145 FU μ' ∧ Lv c n σ0 μ0 B' p' σ' μ' ∧ 4 ≤ B' 0 0 ∧ B' 0 1 = 0) := by
  have t1 := hT.1
  intro m
  induction m with
  | zero =>
    intro n1 n2 p B σ μ h hP hm hn1 hn2
    have w0 := h.2.2.2.2.2.1.1
    omega
  | succ m ih =>
    intro n1 n2 p B σ μ h hP hm hn1 hn2
    obtain ⟨n1, rfl⟩ : ∃ k, n1 = k + 1 := ⟨n1 - 1, by omega⟩
    obtain ⟨n2, rfl⟩ : ∃ k, n2 = k + 1 := ⟨n2 - 1, by omega⟩
    obtain ⟨hS, hM, hp, hR, hD, hW, hk, fP, f2, fM, f7⟩ := id h
    obtain ⟨k1, k2, k3, k4, k5, k6⟩ := tok_kind hT hM
    have w0 := hW.1
    rw [show m_M_map_L95 (n2 + 1) μ = m_M_map_B95 (m_M_map_L95 n2) μ from rfl, show m_Reader_readCells_L2 28 (n1 + 1) σ (nI (B 0 0)) = m_Reader_readCells_B2 28 (m_Reader_readCells_L2 28 n1) σ (nI (B 0 0)) from rfl]
    unfold m_Reader_readCells_B2 m_M_map_B95
    rw [li_16, ilt (by omega) (by omega), if_neg (show ¬ 16 < B 0 0 by omega), show (99 : Int32) = nI 99 from rfl, x_next hT hS hp (L := 99) (by omega), bnd_s, m_well1 hM.2.1, bnd_s, if_neg (show ¬ (1 : Int32) = 0 by decide)]
    by_cases hc : p < n ∧ c p = 99
    · have hl : μ 0 11 = (1 : Int32) := k4.mpr ⟨hc.1, by omega, by omega⟩
      have hv : μ 0 12 = nI 99 := by rw [k6 hl, hc.2]
      rw [if1 hc, if_pos hl, if_pos hv]
      rcases r_cell hT h hP hc with ⟨σ', μ', a1, a2, a3⟩ | ⟨σ', μ', B', p', a1, a2, a3, a4, a5⟩
      · rw [a1, a2, bnd_s, bnd_s, if_pos rfl, vB_0]
        obtain ⟨pl, k, d1, d2, d3, d4, d5⟩ := id a3
        refine Or.inl ⟨σ', μ', rfl, ?_, a3⟩
        obtain ⟨n2, rfl⟩ : ∃ k, n2 = k + 1 := ⟨n2 - 1, by omega⟩
        show m_M_map_B95 (m_M_map_L95 n2) μ' = _
        unfold m_M_map_B95
        rw [m_well0 d3, bnd_s, if_pos rfl, m_126_dead d3]
      · rw [a1, a2, bnd_s, bnd_s, if_neg (show ¬ (1 : Int32) = 0 by decide), ad_1, ← a4]
        exact ih n1 n2 p' B' σ' μ' a3 a5 (by omega) (by omega) (by omega)
    · rw [if0 hc]
      by_cases hl : μ 0 11 = (1 : Int32)
      · have h1 := k4.mp hl
        have h2 := hT.2 p h1.1
        rw [if_pos hl, k6 hl, ieq (by omega) (by omega), if_neg (show ¬ c p = 99 from fun z => hc ⟨h1.1, z⟩)]
        exact r_cells_end hT h hP
      · rw [if_neg hl]
        exact r_cells_end hT h hP
end CLS
