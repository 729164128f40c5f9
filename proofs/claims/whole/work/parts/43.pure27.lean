/-! pure: both read a pin; all pins -/
def k190 (σ2 : St) : Rt := nmS (up σ2 0 6 (0 : Int32)) (fun σ3 => bnd (m_M_isWell σ3) (fun v4 σ5 => (if v4 = 0 then some ((-1000100 : Int32) - (σ5 0 8), σ5) else bd (4 : Int32) (lenM 7) (nmS (up σ5 7 (4 : Int32).toNatClampNeg (1 : Int32)) (fun σ6 => bnd (m_M_copies 7 6 σ6 (0 : Int32) (0 : Int32)) (fun v7 σ8 => nmS (up σ8 0 17 (0 : Int32)) (fun σ9 => bd (2 : Int32) (lenM 6) (some (σ9 6 (2 : Int32).toNatClampNeg, σ9)))))))))
theorem m_190 (μ : St) (x : Int32) : m_M_map_B190 μ x = bnd (m_M_must μ x) (fun _ σ2 => k190 σ2) := rfl
theorem m_177_dead {pl k : Nat} {μ : St} (h : Dd pl k μ) : m_M_map_B177 μ = k190 μ := by
  unfold m_M_map_B177
  rw [m_190, m_190, m_must_dead h, m_must_dead h, bnd_s]
  split <;> rfl
theorem m_145_dead {pl k : Nat} {μ : St} (h : Dd pl k μ) (f : Nat) : m_M_map_L145 (f + 1) μ = k190 μ := by
  show m_M_map_B145 (m_M_map_L145 f) μ = _
  unfold m_M_map_B145
  rw [m_well0 h, bnd_s, if_pos rfl, m_177_dead h]
section PIN
variable {c : Nat → Nat} {n p : Nat} {σ0 μ0 σ μ : St} {B : Bt}
theorem r_pin (hT : Tp c n) (h : Lv c n σ0 μ0 B p σ μ) (hc4 : 4 ≤ B 0 0) (hpn : p < n) (hkd : 0 < kd (c p)) : (∃ σ' μ', m_Reader_readPin_B27 28 σ (nI (kd (c p))) = some (0, σ') ∧ m_M_readsPin μ = some (0, μ') ∧ Dv σ0 μ0 σ' μ') ∨ (∃ σ' μ' B' p', m_Reader_readPin_B27 28 σ (nI (kd (c p))) = some (1, σ') ∧ m_M_readsPin μ = some (0, μ') ∧ Lv c n σ0 μ0 B' p' σ' μ' ∧ B' 0 0 = B 0 0 ∧ B' 0 1 = B 0 1 + 1) := by
  have t1 := hT.1
  obtain ⟨hS, hM, hp, hR, hD, hW, hk, fP, f2, fM, f7⟩ := id h
  have hkl := kd_letter hkd
  have hk5 := kd_le (c p)
  have w0 := hW.1
  have w1 := hW.2.1
  obtain ⟨k1, k2, k3, k4, k5, k6⟩ := tok_kind hT hM
  have ht : μ 0 11 = nI 1 := k4.mpr ⟨hpn, hkl⟩
  have hv : μ 0 12 = nI (c p) := k6 ht
  have h256 := hT.2 p hpn
  unfold m_Reader_readPin_B27 m_M_readsPin
  rw [hv, kd_m μ h256, bnd_s, hw7, bd2_64, show (2 : Int32).toNatClampNeg = 2 from rfl, hD.2.2.1, hR.1 1 (by omega), if_neg (show ¬ nI (kd (c p)) = 0 from fun z => by
    rw [li_0, eq_n (by omega) (by omega)] at z
    omega), li_7, ilt (by omega) (by omega), ile (by omega) (by omega)]
  by_cases h7 : B 0 1 < 7
  · have hb : ∀ t : Rt, bd (nI (B 0 1)) 7 t = t := fun t => bd_n h7 (by omega)
    have o1 : up σ 13 4 (nI (p + 1)) 28 = σ 28 := up_o (by omega)
    have hX0 : PnS c n p σ0 B σ := ⟨hS, hR, fP, f2⟩
    have hY0 : MnS c n p μ0 B μ := ⟨hM, hD, fM, f7⟩
    have hX1 : PnS c n (p + 1) σ0 B (up σ 13 4 (nI (p + 1))) := hX0.f ⟨by rw [up_n (by omega)]; exact hS.1, up_s, fun i hi => by rw [up_o (by omega)]; exact hS.2.2 i hi⟩ ⟨fun a ha => up_o ha, up_n (by omega), up_n (by omega)⟩
    have hX3 := hX1.u (f := 5) (by omega) (by omega) (nI (kd (c p)))
    have g3 : up (up σ 13 4 (nI (p + 1))) (28 + 5) (B 0 1) (nI (kd (c p))) (28 + 5) (B 0 1) = nI (kd (c p)) := up_s
    obtain ⟨μ1, u1, u2, u3⟩ := m_tk1 hT hM (k5 hpn (Or.inr (Or.inr hkl))) (by omega) (3 : Int32)
    have hY1 := hY0.f u2 u3
    rw [if_pos h7, if_neg (show ¬ 7 ≤ B 0 1 by omega), hS.2.1, ad_1, nmS_e, nm_i, o1, hR.1 1 (by omega), hb, cl_n (by omega), nmS_e]
    unfold m_M_readsPin_B25
    rw [u1, bnd_s, hw7, bd2_64, bd2_64, show (2 : Int32).toNatClampNeg = 2 from rfl, hY1.2.1.2.2.1, li_7, ile (by omega) (by omega), if_neg (show ¬ 7 ≤ B 0 1 by omega)]
    generalize up (up σ 13 4 (nI (p + 1))) (28 + 5) (B 0 1) (nI (kd (c p))) = σ3 at hX3 g3 ⊢
    rcases r_home hT hX3.1 u2 (by omega) hX3.2.1 hY1.2.1 hW hk.2.1 hk.2.2 hc4 h7 (nI (kd (c p))) with ⟨v, q, σ4, μ2, c1, c2, c3, c4, c5, c6, c7, c8⟩ | ⟨pl, k, σ4, μ2, c1, c2, c3, c4, c5⟩
    · rw [c4, bnd_s, if_neg (show ¬ (1 : Int32) = 0 by decide), c6]
      have hX4 := (((hX3.f c5 c3).u (f := 2) (by omega) (by omega) (nI v)).u (f := 6) (by omega) (by omega) (nI v))
      have hY2 := hY1.f c7 c8
      have e5 : up (up σ4 (28 + 2) (B 0 1) (nI v)) (28 + 6) (B 0 1) (nI v) (28 + 5) (B 0 1) = nI (kd (c p)) := by rw [up_o (by omega), up_o (by omega), c3.1 (28 + 5) (by omega)]; exact g3
      have e2 : up (up σ4 (28 + 2) (B 0 1) (nI v)) (28 + 6) (B 0 1) (nI v) (28 + 2) (B 0 1) = nI v := by rw [up_o (by omega), up_s]
      have e6 : up (up σ4 (28 + 2) (B 0 1) (nI v)) (28 + 6) (B 0 1) (nI v) (28 + 6) (B 0 1) = nI v := up_s
      generalize up (up σ4 (28 + 2) (B 0 1) (nI v)) (28 + 6) (B 0 1) (nI v) = σ5 at hX4 e5 e2 e6 ⊢
      unfold k88
      rcases r_fol hT hX4.1 c7 c2 (lo := 1) (hi := 9) (by omega) (by omega) with ⟨s, q2, σ6, σ7, μ3, d1, d2, d3, d4, d5, d6, d7, d8, d9, d10, d11⟩ | ⟨pl, k, σ7, μ3, d1, d2, d3, d4, d5⟩
      · rw [show m_Reader_takes σ5 (44 : Int32) = some (1, σ6) from d4, bnd_s, if_neg (show ¬ (1 : Int32) = 0 by decide), show m_Reader_takesNumber σ6 (1 : Int32) (9 : Int32) = some (1, σ7) from d5, bnd_s, if_neg (show ¬ (1 : Int32) = 0 by decide), hb, d7, nmS_e, show m_M_follows μ2 (1 : Int32) (9 : Int32) = some (nI s, μ3) from d9, bnd_s]
        have hX8 := (hX4.f d6 d8).u (f := 3) (by omega) (by omega) (nI s)
        have hY3 := hY2.f d10 d11
        have i5 : up σ7 (28 + 3) (B 0 1) (nI s) (28 + 5) (B 0 1) = nI (kd (c p)) := by rw [up_o (by omega), d8.1 (28 + 5) (by omega)]; exact e5
        have i2 : up σ7 (28 + 3) (B 0 1) (nI s) (28 + 2) (B 0 1) = nI v := by rw [up_o (by omega), d8.1 (28 + 2) (by omega)]; exact e2
        have i6 : up σ7 (28 + 3) (B 0 1) (nI s) (28 + 6) (B 0 1) = nI v := by rw [up_o (by omega), d8.1 (28 + 6) (by omega)]; exact e6
        have i3 : up σ7 (28 + 3) (B 0 1) (nI s) (28 + 3) (B 0 1) = nI s := up_s
        generalize up σ7 (28 + 3) (B 0 1) (nI s) = σ8 at hX8 i5 i2 i6 i3 ⊢
        rcases r_fol hT hX8.1 d10 d3 (lo := 0) (hi := 3) (by omega) (by omega) with ⟨l, q3, σ9, σ10, μ4, a1, a2, a3, a4, a5, a6, a7, a8, a9, a10, a11⟩ | ⟨pl, k, σ10, μ4, a1, a2, a3, a4, a5⟩
        · rw [show m_Reader_takes σ8 (44 : Int32) = some (1, σ9) from a4, bnd_s, if_neg (show ¬ (1 : Int32) = 0 by decide), show m_Reader_takesNumber σ9 (0 : Int32) (3 : Int32) = some (1, σ10) from a5, bnd_s, if_neg (show ¬ (1 : Int32) = 0 by decide), hb, a7, nmS_e, show m_M_follows μ3 (0 : Int32) (3 : Int32) = some (nI l, μ4) from a9, bnd_s]
          have hX11 := (hX8.f a6 a8).u (f := 4) (by omega) (by omega) (nI l)
          have hY4 := hY3.f a10 a11
          have j5 : up σ10 (28 + 4) (B 0 1) (nI l) (28 + 5) (B 0 1) = nI (kd (c p)) := by rw [up_o (by omega), a8.1 (28 + 5) (by omega)]; exact i5
          have j2 : up σ10 (28 + 4) (B 0 1) (nI l) (28 + 2) (B 0 1) = nI v := by rw [up_o (by omega), a8.1 (28 + 2) (by omega)]; exact i2
          have j6 : up σ10 (28 + 4) (B 0 1) (nI l) (28 + 6) (B 0 1) = nI v := by rw [up_o (by omega), a8.1 (28 + 6) (by omega)]; exact i6
          have j3 : up σ10 (28 + 4) (B 0 1) (nI l) (28 + 3) (B 0 1) = nI s := by rw [up_o (by omega), a8.1 (28 + 3) (by omega)]; exact i3
          have j4 : up σ10 (28 + 4) (B 0 1) (nI l) (28 + 4) (B 0 1) = nI l := up_s
          generalize up σ10 (28 + 4) (B 0 1) (nI l) = σ11 at hX11 j5 j2 j6 j3 j4 ⊢
          rw [hX11.2.1.1 1 (by omega), ad_1, nmS_e]
          rcases r_pin_end hT hX11 hY4 a3 hW hk h7 (K := kd (c p)) (H := v) (S := s) (C := l) (by omega) hk5 c1 d1 d2 a2 j2 j3 j4 j5 j6 with ⟨σ', μ', z1, z2, z3⟩ | ⟨σ', μ', B', p', z1, z2, z3, z4, z5⟩
          · rw [show m_Reader_takes (up σ11 28 1 (nI (B 0 1 + 1))) (59 : Int32) = some (0, σ') from z1, bnd_s, vB_0, z2]
            exact Or.inl ⟨σ', μ', rfl, rfl, z3⟩
          · rw [show m_Reader_takes (up σ11 28 1 (nI (B 0 1 + 1))) (59 : Int32) = some (1, σ') from z1, bnd_s, vB_1, z2]
            exact Or.inr ⟨σ', μ', B', p', rfl, rfl, z3, z4, z5⟩
        · rw [show m_M_follows μ3 (0 : Int32) (3 : Int32) = some (0, μ4) from a3, bnd_s, m_136x_dead a4]
          refine Or.inl ⟨σ10, μ4, ?_, rfl, pl, k, a2.2.2.1, a2.2.2.2, a4, hX8.2.2.1.l a2, hY3.2.2.1.f a5⟩
          rcases a1 with a1 | ⟨σ9, a1, a1'⟩
          · rw [show m_Reader_takes σ8 (44 : Int32) = some (0, σ10) from a1, bnd_s, if_pos rfl, vB_0]
          · rw [show m_Reader_takes σ8 (44 : Int32) = some (1, σ9) from a1, bnd_s, if_neg (show ¬ (1 : Int32) = 0 by decide), show m_Reader_takesNumber σ9 (0 : Int32) (3 : Int32) = some (0, σ10) from a1', bnd_s, if_pos rfl, vB_0]
      · rw [show m_M_follows μ2 (1 : Int32) (9 : Int32) = some (0, μ3) from d3, bnd_s, m_fold d4, bnd_s, m_136x_dead d4]
        refine Or.inl ⟨σ7, μ3, ?_, rfl, pl, k, d2.2.2.1, d2.2.2.2, d4, hX4.2.2.1.l d2, hY2.2.2.1.f d5⟩
        rcases d1 with d1 | ⟨σ6, d1, d1'⟩
        · rw [show m_Reader_takes σ5 (44 : Int32) = some (0, σ7) from d1, bnd_s, if_pos rfl, vB_0]
        · rw [show m_Reader_takes σ5 (44 : Int32) = some (1, σ6) from d1, bnd_s, if_neg (show ¬ (1 : Int32) = 0 by decide), show m_Reader_takesNumber σ6 (1 : Int32) (9 : Int32) = some (0, σ7) from d1', bnd_s, if_pos rfl, vB_0]
    · rw [c1, bnd_s, if_pos rfl, vB_0, c3]
      exact Or.inl ⟨σ4, μ2, rfl, rfl, pl, k, c2.2.2.1, c2.2.2.2, c4, hX3.2.2.1.l c2, hY1.2.2.1.f c5⟩
  · obtain ⟨σ', e1, g1⟩ := x_flt σ p 3
    obtain ⟨μ', e2, g2, g3, g4⟩ := m_tk0t hM (by omega) 3
    rw [if_neg h7, if_pos (show 7 ≤ B 0 1 by omega), hS.2.1, show m_Reader_faultAt σ (nI p) (3 : Int32) = some (0, σ') from e1, bnd_s, vB_0]
    unfold m_M_readsPin_B25
    rw [show m_M_takes μ (0 : Int32) (3 : Int32) = some (0, μ') from e2, bnd_s, hw7, bd2_64, bd2_64, m_55_dead g2 (by rw [g4]; exact ht), m_55_dead g2 (by rw [g4]; exact ht)]
    refine Or.inl ⟨σ', μ', rfl, ?_, p, 3, g1.2.2.1, g1.2.2.2, g2, fP.l g1, fM.f g3⟩
    split <;> rfl
theorem r_pins_end (hT : Tp c n) (h : Lv c n σ0 μ0 B p σ μ) (hc4 : 4 ≤ B 0 0) (m : Nat) (hm : B 0 1 < 8) (hno : p < n → kd (c p) = 0) : (∃ σ' μ', m_Reader_readPins_L2 28 (m + 1) σ (nI (B 0 1)) = some (0, σ') ∧ m_M_map_B177 μ = k190 μ' ∧ Dv σ0 μ0 σ' μ') ∨ (∃ σ' μ' B' p', m_Reader_readPins_L2 28 (m + 1) σ (nI (B 0 1)) = some (1, σ') ∧ m_M_map_B177 μ = k190 μ' ∧ Lv c n σ0 μ0 B' p' σ' μ' ∧ 4 ≤ B' 0 0) := by
  have t1 := hT.1
  obtain ⟨hS, hM, hp, hR, hD, hW, hk, fP, f2, fM, f7⟩ := id h
  obtain ⟨k1, k2, k3, k4, k5, k6⟩ := tok_kind hT hM
  rw [show m_Reader_readPins_L2 28 (m + 1) σ (nI (B 0 1)) = m_Reader_readPins_B2 28 (m_Reader_readPins_L2 28 m) σ (nI (B 0 1)) from rfl]
  unfold m_Reader_readPins_B2 m_M_map_B177
  rw [li_7, ilt (by omega) (by omega), if_neg (show ¬ 7 < B 0 1 by omega), hS.1, hS.2.1, ile (by omega) (by omega)]
  by_cases hpn : p < n
  · obtain ⟨σ', e1, g1⟩ := x_flt σ p 1
    obtain ⟨μ', e2, g2, g3⟩ := m_must0 hM (by omega)
    have h256 := hT.2 p hpn
    rw [if_neg (show ¬ n ≤ p by omega), if_neg (show ¬ μ 0 11 = 0 from fun z => by
      have := k1.mp z
      omega), m_190, e2, bnd_s]
    unfold m_Reader_readPin m_Reader_readPin_B27
    rw [hS.1, hS.2.1, ile (by omega) (by omega), if_neg (show ¬ n ≤ p by omega), bd_n (by omega) (by omega), cl_n (by omega), hS.2.2 p hpn, kd_x σ h256, bnd_s, hno hpn, if_pos (show nI 0 = 0 from rfl), hS.2.1, show m_Reader_faultAt σ (nI p) (1 : Int32) = some (0, σ') from e1, bnd_s, vB_0, bnd_s, if_pos rfl, vB_0]
    exact Or.inl ⟨σ', μ', rfl, rfl, p, 1, g1.2.2.1, g1.2.2.2, g2, fP.l g1, fM.f g3⟩
  · rw [if_pos (show n ≤ p by omega), vB_1, if_pos (show μ 0 11 = 0 from k1.mpr (by omega)), m_190, m_must1 hM.2.1, bnd_s]
    exact Or.inr ⟨σ, μ, B, p, rfl, rfl, h, hc4⟩
theorem r_pins (hT : Tp c n) : ∀ (m n1 n2 p : Nat) (B : Bt) (σ μ : St), Lv c n σ0 μ0 B p σ μ → 4 ≤ B 0 0 → B 0 1 + m = 8 → m < n1 → m + 1 < n2 → (∃ σ' μ', m_Reader_readPins_L2 28 n1 σ (nI (B 0 1)) = some (0, σ') ∧ m_M_map_L145 n2 μ = k190 μ' ∧ Dv σ0 μ0 σ' μ') ∨ (∃ σ' μ' B' p', m_Reader_readPins_L2 28 n1 σ (nI (B 0 1)) = some (1, σ') ∧ m_M_map_L145 n2 μ = k190 μ' ∧ Lv c n σ0 μ0 B' p' σ' μ' ∧ 4 ≤ B' 0 0) := by
  have t1 := hT.1
  intro m
  induction m with
  | zero =>
    intro n1 n2 p B σ μ h hc4 hm hn1 hn2
    have w1 := h.2.2.2.2.2.1.2.1
    omega
  | succ m ih =>
    intro n1 n2 p B σ μ h hc4 hm hn1 hn2
    obtain ⟨n1, rfl⟩ : ∃ k, n1 = k + 1 := ⟨n1 - 1, by omega⟩
    obtain ⟨n2, rfl⟩ : ∃ k, n2 = k + 1 := ⟨n2 - 1, by omega⟩
    obtain ⟨hS, hM, hp, hR, hD, hW, hk, fP, f2, fM, f7⟩ := id h
    obtain ⟨k1, k2, k3, k4, k5, k6⟩ := tok_kind hT hM
    have w1 := hW.2.1
    have hend := r_pins_end hT h hc4 n1 (by omega)
    rw [show m_M_map_L145 (n2 + 1) μ = m_M_map_B145 (m_M_map_L145 n2) μ from rfl]
    unfold m_M_map_B145
    rw [m_well1 hM.2.1, bnd_s, if_neg (show ¬ (1 : Int32) = 0 by decide)]
    by_cases hl : μ 0 11 = (1 : Int32)
    · have h1 := k4.mp hl
      have h256 := hT.2 p h1.1
      have hk5 := kd_le (c p)
      rw [if_pos hl, k6 hl, kd_m μ h256, bnd_s, li_0, ile (by omega) (by omega), ← li_0]
      by_cases hkd : kd (c p) ≤ 0
      · rw [if_pos hkd]
        exact hend (fun _ => by omega)
      · have hpn := h1.1
        rw [if_neg hkd, show m_Reader_readPins_L2 28 (n1 + 1) σ (nI (B 0 1)) = m_Reader_readPins_B2 28 (m_Reader_readPins_L2 28 n1) σ (nI (B 0 1)) from rfl]
        unfold m_Reader_readPins_B2 m_Reader_readPin
        rw [li_7, ilt (by omega) (by omega), if_neg (show ¬ 7 < B 0 1 by omega), hS.1, hS.2.1, ile (by omega) (by omega), if_neg (show ¬ n ≤ p by omega), ile (by omega) (by omega), if_neg (show ¬ n ≤ p by omega), bd_n (by omega) (by omega), cl_n (by omega), hS.2.2 p hpn, kd_x σ h256, bnd_s]
        rcases r_pin hT h hc4 hpn (by omega) with ⟨σ', μ', a1, a2, a3⟩ | ⟨σ', μ', B', p', a1, a2, a3, a4, a5⟩
        · rw [a1, a2, bnd_s, bnd_s, if_pos rfl, vB_0]
          obtain ⟨pl, k, d1, d2, d3, d4, d5⟩ := id a3
          obtain ⟨n2, rfl⟩ : ∃ k, n2 = k + 1 := ⟨n2 - 1, by omega⟩
          exact Or.inl ⟨σ', μ', rfl, m_145_dead d3 n2, a3⟩
        · rw [a1, a2, bnd_s, bnd_s, if_neg (show ¬ (1 : Int32) = 0 by decide), ad_1, ← a5]
          exact ih n1 n2 p' B' σ' μ' a3 (by omega) (by omega) (by omega) (by omega)
    · rw [if_neg hl]
      refine hend (fun hpn => ?_)
      by_cases hkd : kd (c p) = 0
      · exact hkd
      · exact absurd (k4.mpr ⟨hpn, kd_letter (by omega)⟩) hl
end PIN
