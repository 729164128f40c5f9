/-! pure: both read a pin: its home -/
def kd (x : Nat) : Nat := if x = 97 then 1 else if x = 115 then 2 else if x = 114 then 3 else if x = 111 then 4 else if x = 119 then 5 else 0
theorem kd_letter {x : Nat} (h : 0 < kd x) : 97 ≤ x ∧ x ≤ 122 := by
  unfold kd at h
  repeat' split at h
  all_goals omega
theorem kd_le (x : Nat) : kd x ≤ 5 := by
  unfold kd
  repeat' split
  all_goals omega
theorem kd_x (σ : St) {x : Nat} (hx : x < 256) : m_Reader_kindOf σ (nI x) = some (nI (kd x), σ) := by
  unfold m_Reader_kindOf kd
  rw [show (97 : Int32) = nI 97 from rfl, show (111 : Int32) = nI 111 from rfl, show (114 : Int32) = nI 114 from rfl, show (115 : Int32) = nI 115 from rfl, show (119 : Int32) = nI 119 from rfl, ieq (by omega) (by omega), ieq (by omega) (by omega), ieq (by omega) (by omega), ieq (by omega) (by omega), ieq (by omega) (by omega)]
  repeat' split
  all_goals first | rfl | omega
theorem kd_m (σ : St) {x : Nat} (hx : x < 256) : m_M_kindOf σ (nI x) = some (nI (kd x), σ) := by
  unfold m_M_kindOf kd
  rw [show (97 : Int32) = nI 97 from rfl, show (111 : Int32) = nI 111 from rfl, show (114 : Int32) = nI 114 from rfl, show (115 : Int32) = nI 115 from rfl, show (119 : Int32) = nI 119 from rfl, ieq (by omega) (by omega), ieq (by omega) (by omega), ieq (by omega) (by omega), ieq (by omega) (by omega), ieq (by omega) (by omega)]
  repeat' split
  all_goals first | rfl | omega
theorem ownr_day (B : Bt) (x : Nat) (c : Int32) : ∀ m p, ownr (ub B 0 5 x) c m p = ownr B c m p
  | 0, _ => rfl
  | m + 1, p => by
    unfold ownr
    rw [ownr_day B x c m (p + 1), ub_v, if_neg (show ¬ ((2 : Nat) = 0 ∧ p = 5) by omega)]
theorem m_ownD {μ : St} {B : Bt} (hD : RD (μ 7) B) (hW : WF B) (h3 : B 0 3 = 0) (h4 : B 0 4 = 0) (x : Int32) : m_M_homeOf 7 μ x = some (ownr B x (B 0 1) 0, μ) := by
  rw [m_homeOf hw7 (hD.rm h3 h4) (hW.day (v := 0) (by decide)) x, ownr_day]
  rfl
def k88 (σ4 : St) (x1 x2 v3 : Int32) : Rt := bnd (m_M_follows σ4 (1 : Int32) (9 : Int32)) (fun v5 σ6 => bnd (m_M_follows σ6 (0 : Int32) (3 : Int32)) (fun v7 σ8 => (if (σ8 0 11) = (4 : Int32) then m_M_readsPin_B136 σ8 x1 x2 v3 v5 v7 (1 : Int32) else m_M_readsPin_B136 σ8 x1 x2 v3 v5 v7 (0 : Int32))))
theorem m_136_dead {pl k : Nat} {μ : St} (h : Dd pl k μ) (x1 x2 x3 x4 x5 s : Int32) : m_M_readsPin_B136 μ x1 x2 x3 x4 x5 s = some (0, μ) := by
  unfold m_M_readsPin_B136
  rw [m_tkd h, bnd_s, m_well0 h, bnd_s, if_pos rfl]
theorem m_136x_dead {pl k : Nat} {μ : St} (h : Dd pl k μ) (x1 x2 x3 x4 x5 : Int32) : (if (μ 0 11) = (4 : Int32) then m_M_readsPin_B136 μ x1 x2 x3 x4 x5 (1 : Int32) else m_M_readsPin_B136 μ x1 x2 x3 x4 x5 (0 : Int32)) = some (0, μ) := by
  rw [m_136_dead h, m_136_dead h]
  split <;> rfl
theorem k88_dead {pl k : Nat} {μ : St} (h : Dd pl k μ) (x1 x2 x3 : Int32) : k88 μ x1 x2 x3 = some (0, μ) := by
  unfold k88
  rw [m_fold h, bnd_s, m_fold h, bnd_s]
  exact m_136x_dead h _ _ _ _ _
theorem m_takes2_dead {pl k : Nat} {μ : St} (h : Dd pl k μ) (x : Int32) : m_M_takes2 μ x = some (0, μ) := by
  unfold m_M_takes2
  rw [m_well0 h, bnd_s, if_pos rfl]
theorem m_88_dead {pl k : Nat} {μ : St} (h : Dd pl k μ) (x1 x2 s : Int32) : m_M_readsPin_B88 μ x1 x2 s = some (0, μ) := by
  unfold m_M_readsPin_B88
  rw [m_takes2_dead h, bnd_s, hw7, bd1_64, m_figd h, bnd_s]
  exact k88_dead h _ _ _
section HOM
variable {c : Nat → Nat} {n p : Nat} {σ μ : St} {B : Bt}
theorem tok_num (h : MS c n p μ) : (∀ v q, numAt c n p v q → μ 0 11 = nI 2 ∧ μ 0 12 = nI v) ∧ (μ 0 11 = nI 2 → ∃ v q, numAt c n p v q) := by
  have ne : ∀ a b, a ≤ 5 → b ≤ 5 → a ≠ b → μ 0 11 = nI a → ¬ μ 0 11 = nI b := fun a b ha hb hab e z => by
    rw [e, eq_n (by omega) (by omega)] at z
    exact hab z
  refine ⟨fun v q hn => ?_, fun e2 => ?_⟩
  · have hdp : isd c n p := by
      rcases hn with ⟨a, _⟩ | ⟨a, _⟩
      · exact a
      · exact a
    have h1 := hdp.1
    have h2 := hdp.2
    rcases h.2.2.2 with z | ⟨v', q', z, b, d, e⟩ | z | z | z | z
    · omega
    · obtain ⟨x, y⟩ := numAt_un hn z
      rw [x]
      exact ⟨b, d⟩
    · exact absurd ⟨v, q, hn⟩ z.2.2.1
    · omega
    · omega
    · omega
  · rcases h.2.2.2 with z | ⟨v', q', z, b, d, e⟩ | z | z | z | z
    · exact absurd e2 (ne 0 2 (by omega) (by omega) (by omega) z.2.1)
    · exact ⟨v', q', z⟩
    · exact absurd e2 (ne 5 2 (by omega) (by omega) (by omega) z.2.1)
    · exact absurd e2 (ne 1 2 (by omega) (by omega) (by omega) z.2.2.2.1)
    · exact absurd e2 (ne 3 2 (by omega) (by omega) (by omega) z.2.2.1)
    · exact absurd e2 (ne 4 2 (by omega) (by omega) (by omega) z.2.2.1)
theorem r_home (hT : Tp c n) (hS : PS c n p σ) (hM : MS c n p μ) (hp : p ≤ n) (hR : RB σ 28 B) (hD : RD (μ 7) B) (hW : WF B) (h3 : B 0 3 = 0) (h4 : B 0 4 = 0) (hc4 : 4 ≤ B 0 0) (hP : B 0 1 < 7) (K : Int32) : (∃ v q σ1 μ', v < B 0 0 ∧ q ≤ n ∧ F13 σ σ1 ∧ m_Reader_readHome 28 σ = some (1, up (up σ1 (28 + 2) (B 0 1) (nI v)) (28 + 6) (B 0 1) (nI v)) ∧ PS c n q σ1 ∧ m_M_readsPin_B55 μ K (nI (B 0 1)) 6 22 = k88 μ' K (nI (22 + 6 * B 0 1)) (nI v) ∧ MS c n q μ' ∧ Fm9 μ μ') ∨ (∃ pl k σ' μ', m_Reader_readHome 28 σ = some (0, σ') ∧ Flt σ σ' pl k ∧ m_M_readsPin_B55 μ K (nI (B 0 1)) 6 22 = some (0, μ') ∧ Dd pl k μ' ∧ Fm7 μ μ') := by
  have t1 := hT.1
  have w0 := hW.1
  obtain ⟨u1, u2⟩ := tok_num hM
  have eb : nI (B 0 0) - 1 = nI (B 0 0 - 1) := by rw [li_1, sb_n (by omega)]
  have b881 : m_M_readsPin_B88 μ K (nI (22 + 6 * B 0 1)) 1 = bnd (m_M_figure μ (nI 0) (nI (B 0 0 - 1))) (fun v3 σ4 => k88 σ4 K (nI (22 + 6 * B 0 1)) v3) := by
    unfold m_M_readsPin_B88 m_M_takes2
    rw [m_well1 hM.2.1, bnd_s, if_neg (by decide), if_neg (by decide), bnd_s, hw7, bd1_64, show (1 : Int32).toNatClampNeg = 1 from rfl, hD.2.1, eb]
    rfl
  have b880 : ∃ μ', m_M_readsPin_B88 μ K (nI (22 + 6 * B 0 1)) 0 = some (0, μ') ∧ Dd p 2 μ' ∧ Fm7 μ μ' := by
    obtain ⟨μ', e, d, f⟩ := m_tk0 hM (by omega) 2
    refine ⟨μ', ?_, d, f⟩
    unfold m_M_readsPin_B88 m_M_takes2
    rw [m_well1 hM.2.1, bnd_s, if_neg (by decide), if_pos rfl, show m_M_takes μ (0 : Int32) (2 : Int32) = some (0, μ') from e, bnd_s, bnd_s, hw7, bd1_64, m_figd d, bnd_s]
    exact k88_dead d _ _ _
  unfold m_M_readsPin_B55 m_M_readsPin_B83 m_Reader_readHome
  rw [nm_i, nm_i, ix0, m_ownD hD hW h3 h4, bnd_s, hR.1 0 (by omega), eb, hS.2.1]
  rcases r_num hT hS hM hp (lo := 0) (hi := B 0 0 - 1) (by omega) (by omega) with ⟨v, q, σ1, μ1, hn, _, hv, hq, a1, a2, a3, a4, b1, b2, b3⟩ | ⟨k, σ1, μ1, a1, a2, b1, b2, b3, b4⟩
  · obtain ⟨ht, hv2⟩ := u1 v q hn
    have hR1 : RB σ1 28 B := hR.kept (fun a _ _ => a4.1 a (by omega))
    rw [show m_Reader_takesNumber σ (0 : Int32) (nI (B 0 0 - 1)) = some (1, σ1) from a1, bnd_s, if_neg (show ¬ (1 : Int32) = 0 by decide), a3, x_owner hR1 hW, bnd_s, if_pos (show μ 0 11 = (2 : Int32) from ht), hv2]
    by_cases ho : ownr B (nI v) (B 0 1) 0 = -1000000
    · have o1 : up σ1 (28 + 2) (B 0 1) (nI v) 28 = σ1 28 := up_o (by omega)
      have o2 : up σ1 (28 + 2) (B 0 1) (nI v) 13 = σ1 13 := up_o (by omega)
      rw [if_pos ho, if_pos ho, hR1.1 1 (by omega), bd_n hP (by omega), cl_n (by omega), a3, nmS_e, o1, o2, hR1.1 1 (by omega), bd_n hP (by omega), cl_n (by omega), a3, nmS_e, vB_1, b881, b1, bnd_s]
      exact Or.inl ⟨v, q, σ1, μ1, by omega, hq, a4, rfl, a2, rfl, b2, b3⟩
    · obtain ⟨σ', e1, g1⟩ := x_flt σ1 p 2
      obtain ⟨μ', e2, g2, g3⟩ := b880
      rw [if_neg ho, if_neg ho, show m_Reader_faultAt σ1 (nI p) (2 : Int32) = some (0, σ') from e1, bnd_s, vB_0, e2]
      exact Or.inr ⟨p, 2, σ', μ', rfl, g1.of a4, rfl, g2, g3⟩
  · rw [show m_Reader_takesNumber σ (0 : Int32) (nI (B 0 0 - 1)) = some (0, σ1) from a1, bnd_s, if_pos rfl, vB_0, b881, b1, bnd_s, k88_dead b2]
    by_cases ht : μ 0 11 = (2 : Int32)
    · rw [if_pos ht]
      by_cases ho : ownr B (μ 0 12) (B 0 1) 0 = -1000000
      · rw [if_pos ho]
        exact Or.inr ⟨p, k, σ1, μ1, rfl, a2, rfl, b2, b3⟩
      · rw [if_neg ho]
        obtain ⟨μ', e2, g2, g3⟩ := b880
        obtain ⟨v, q, hn⟩ := u2 ht
        have hk2 : k = 2 := (b4 v q hn).1
        rw [e2]
        exact Or.inr ⟨p, k, σ1, μ', rfl, a2, rfl, by rw [hk2]; exact g2, g3⟩
    · rw [if_neg ht]
      exact Or.inr ⟨p, k, σ1, μ1, rfl, a2, rfl, b2, b3⟩
end HOM
