/-! pure: both read a map from its beginning -/
theorem RD.slip {r : Nat → Int32} {B : Bt} (h : RD r B) (v : Nat) : RD (upd r 0 (nI v)) (ub B 0 2 v) := by
  obtain ⟨a0, a1, a2, a3, a4, a5, a6, a7⟩ := h
  refine ⟨by rw [upd_s, ub_v, if_pos ⟨rfl, rfl⟩], by rw [upd_n (by omega)]; exact a1, by rw [upd_n (by omega)]; exact a2, by rw [upd_n (by omega)]; exact a3, by rw [upd_n (by omega)]; exact a4, by rw [upd_n (by omega)]; exact a5, fun i hi => by rw [upd_n (by omega)]; exact a6 i hi, fun p hp => ?_⟩
  rw [upd_n (by omega), upd_n (by omega), upd_n (by omega), upd_n (by omega), upd_n (by omega), upd_n (by omega)]
  exact a7 p hp
theorem m_clear : ∀ (m f i : Nat) (μ : St), i + m = 64 → m < f → ∃ μ', m_M_map_L2 f μ (nI i) = m_M_map_B21 μ' ∧ FrM 7 μ μ' ∧ ∀ j, μ' 7 j = if i ≤ j ∧ j < 64 then 0 else μ 7 j := by
  intro m
  induction m with
  | zero =>
    intro f i μ hi hf
    obtain ⟨f, rfl⟩ : ∃ k, f = k + 1 := ⟨f - 1, by omega⟩
    refine ⟨μ, ?_, fun _ _ => rfl, fun j => by rw [if_neg (by omega)]⟩
    show m_M_map_B2 (m_M_map_L2 f) μ _ = _
    unfold m_M_map_B2
    rw [li_64, ile (by omega) (by omega), if_pos (by omega)]
  | succ m ih =>
    intro f i μ hi hf
    obtain ⟨f, rfl⟩ : ∃ k, f = k + 1 := ⟨f - 1, by omega⟩
    obtain ⟨μ', e, fr, g⟩ := ih f (i + 1) (up μ 7 i 0) (by omega) (by omega)
    refine ⟨μ', ?_, (frM 7 μ _ _).tr fr, fun j => ?_⟩
    · show m_M_map_B2 (m_M_map_L2 f) μ _ = _
      unfold m_M_map_B2
      rw [li_64, ile (by omega) (by omega), if_neg (by omega), hw7, bd_n (by omega) (by omega), nmS_e, cl_n (by omega), ad_1]
      exact e
    · rw [g j, up_v]
      by_cases e1 : j = i
      · rw [if_neg (by omega), if_pos ⟨rfl, e1⟩, if_pos (by omega)]
      · rw [if_neg (show ¬ ((7 : Nat) = 7 ∧ j = i) from fun z => e1 z.2)]
        by_cases hc : i ≤ j ∧ j < 64
        · rw [if_pos hc, if_pos (by omega)]
        · rw [if_neg hc, if_neg (by omega)]
def B00 : Bt := fun a i => if a = 0 ∧ i = 5 then 1 else 0
theorem x_empty (σ : St) : ∃ σ', m_Board_makeEmpty 28 σ = some (0, σ') ∧ RB σ' 28 B00 ∧ ∀ a, a ≠ 28 → σ' a = σ a := by
  unfold m_Board_makeEmpty
  rw [nmS_e, nmS_e, nmS_e, nmS_e, nmS_e, vB_1, nmS_e]
  refine ⟨_, rfl, ⟨fun j hj => ?_, fun i hi => absurd hi (Nat.not_lt_zero i), fun f h1 h2 p hp => absurd hp (Nat.not_lt_zero p)⟩, fun a ha => by rw [up_o ha, up_o ha, up_o ha, up_o ha, up_o ha, up_o ha]⟩
  rcases (show j = 0 ∨ j = 1 ∨ j = 2 ∨ j = 3 ∨ j = 4 ∨ j = 5 by omega) with rfl | rfl | rfl | rfl | rfl | rfl
  · rw [up_n (by omega), up_n (by omega), up_n (by omega), up_n (by omega), up_n (by omega), up_s]
    rfl
  · rw [up_n (by omega), up_n (by omega), up_n (by omega), up_n (by omega), up_s]
    rfl
  · rw [up_n (by omega), up_n (by omega), up_n (by omega), up_s]
    rfl
  · rw [up_n (by omega), up_n (by omega), up_s]
    rfl
  · rw [up_n (by omega), up_s]
    rfl
  · rw [up_s]
    rfl
theorem WF_00 : WF B00 := ⟨Nat.zero_le _, Nat.zero_le _, Nat.zero_le _, Nat.zero_le _, Nat.le_refl _, fun i hi => absurd hi (Nat.not_lt_zero i), fun p hp => absurd hp (Nat.not_lt_zero p)⟩
theorem Dd.u {pl k : Nat} {μ : St} (h : Dd pl k μ) {w : Nat} (hw : 0 ≠ w) (i : Nat) (v : Int32) : Dd pl k (up μ w i v) := ⟨by rw [up_o hw]; exact h.1, by rw [up_o hw]; exact h.2.1, h.2.2⟩
def refL (μ : St) : Rt := (if (μ 0 11) = (1 : Int32) then (if (μ 0 12) = (109 : Int32) then m_M_map_B58 μ (1 : Int32) else m_M_map_B57 μ) else m_M_map_B57 μ)
theorem m_95_dead {pl k : Nat} {μ : St} (h : Dd pl k μ) (f : Nat) : m_M_map_L95 (f + 1) μ = m_M_map_L145 FU μ := by
  show m_M_map_B95 (m_M_map_L95 f) μ = _
  unfold m_M_map_B95
  rw [m_well0 h, bnd_s, if_pos rfl, m_126_dead h]
theorem m_58t_dead {pl k : Nat} {μ : St} (h : Dd pl k μ) (x : Int32) : (bd (0 : Int32) (lenM 7) (nmS (up μ 7 (0 : Int32).toNatClampNeg x) (fun σ5 => (if (σ5 0 11) = (4 : Int32) then m_M_map_B90 σ5 (1 : Int32) else m_M_map_B90 σ5 (0 : Int32))))) = m_M_map_L95 FU (up μ 7 0 x) := by
  have hd : Dd pl k (up μ 7 0 x) := h.u (by omega) _ _
  rw [hw7, show ∀ t : Rt, bd (0 : Int32) 64 t = t from fun t => bd_n (n := 0) (by omega) (by omega), nmS_e, cz_0]
  unfold m_M_map_B90
  rw [m_tkd hd, m_tkd hd, bnd_s]
  split <;> rfl
section LAW
variable {c : Nat → Nat} {n p : Nat} {σ0 μ0 σ μ : St} {B : Bt}
theorem r_law (hT : Tp c n) (h : Lv c n σ0 μ0 B p σ μ) (hB : B 0 0 = 0 ∧ B 0 1 = 0) : (∃ σ' μ', m_Reader_readLaw 28 σ = some (0, σ') ∧ refL μ = m_M_map_L95 FU μ' ∧ Dv σ0 μ0 σ' μ') ∨ (∃ σ' μ' B' p', m_Reader_readLaw 28 σ = some (1, σ') ∧ refL μ = m_M_map_L95 FU μ' ∧ Lv c n σ0 μ0 B' p' σ' μ' ∧ B' 0 0 = 0 ∧ B' 0 1 = 0) := by
  have t1 := hT.1
  obtain ⟨hS, hM, hp, hR, hD, hW, hk, fP, f2, fM, f7⟩ := id h
  obtain ⟨k1, k2, k3, k4, k5, k6⟩ := tok_kind hT hM
  obtain ⟨x1, x2⟩ := x_tk hT hS hp (L := 109) (by omega)
  have hb0 : ∀ t : Rt, bd (0 : Int32) 64 t = t := fun t => bd_n (n := 0) (by omega) (by omega)
  unfold m_Reader_readLaw refL
  by_cases hc : p < n ∧ c p = 109
  · obtain ⟨σ1, s1, s2, s3⟩ := x1 hc
    have hl : μ 0 11 = (1 : Int32) := k4.mpr ⟨hc.1, by omega, by omega⟩
    have hv : μ 0 12 = (109 : Int32) := (k6 hl).trans (congrArg nI hc.2)
    obtain ⟨μ1, u1, u2, u3⟩ := m_tk1 hT hM (k5 hc.1 (Or.inr (Or.inr (by omega)))) (by omega) (1 : Int32)
    rw [show m_Reader_takes σ (109 : Int32) = some (1, σ1) from s1, bnd_s, if_neg (show ¬ (1 : Int32) = 0 by decide), if_pos hl, if_pos hv]
    unfold m_M_map_B58
    rw [u1, bnd_s]
    rcases r_num hT s2 u2 (by omega) (lo := 0) (hi := 15) (by omega) (by omega) with ⟨v, q, σ2, μ2, a1, a2, a3, a4, a5, a6, a7, a8, a9, a10, a11⟩ | ⟨k, σ2, μ2, a1, a2, a3, a4, a5, a6⟩
    · rw [show m_Reader_takesNumber σ1 (0 : Int32) (15 : Int32) = some (1, σ2) from a5, bnd_s, if_neg (show ¬ (1 : Int32) = 0 by decide), a7, nmS_e, show m_M_figure μ1 (0 : Int32) (15 : Int32) = some (nI v, μ2) from a9, bnd_s, hw7, hb0, nmS_e, cz_0]
      have hR2 : RB σ2 28 B := hR.kept (fun a _ _ => by rw [a8.1 a (by omega), s3.1 a (by omega)])
      have hS3 : PS c n q (up σ2 28 2 (nI v)) := a6.u (by omega) _ _
      have hR3 : RB (up σ2 28 2 (nI v)) 28 (ub B 0 2 v) := hR2.up0 2 v (Or.inl rfl)
      have fP3 : FrP σ0 (up σ2 28 2 (nI v)) := ((fP.f s3).f a8).u (by omega) _ _
      have f23 : up σ2 28 2 (nI v) 13 2 = σ0 13 2 := by rw [up_o (by omega), a8.2.2, s3.2.2]; exact f2
      have hM3 : MS c n q (up μ2 7 0 (nI v)) := a10.u _ _
      have hD3 : RD (up μ2 7 0 (nI v) 7) (ub B 0 2 v) := by
        rw [up_row, a11.1 7 (by omega), u3.1 7 (by omega)]
        exact hD.slip v
      have fM3 : FrMr μ0 (up μ2 7 0 (nI v)) := ((fM.f u3.to7).f a11.to7).u _ _
      have f73 : up μ2 7 0 (nI v) 0 7 = μ0 0 7 := by rw [up_o (by omega), a11.2 7 (by omega), u3.2 7 (by omega)]; exact f7
      generalize up σ2 28 2 (nI v) = σ3 at hS3 hR3 fP3 f23 ⊢
      generalize up μ2 7 0 (nI v) = μ3 at hM3 hD3 fM3 f73 ⊢
      unfold m_M_map_B90
      rcases r_sem hT hS3 hM3 a4 with ⟨r, σ4, μ4, b1, b2, b3, b4, b5, b6, b7, b8⟩ | ⟨σ4, μ4, b1, b2, b3, b4, b5, b6⟩
      · rw [show m_Reader_takes σ3 (59 : Int32) = some (1, σ4) from b2, bnd_s, vB_1, if_pos (show μ3 0 11 = (4 : Int32) from b5), show m_M_takes μ3 (1 : Int32) (1 : Int32) = some (r, μ4) from b6, bnd_s]
        refine Or.inr ⟨σ4, μ4, ub B 0 2 v, q + 1, rfl, rfl, ⟨b3, b7, b1, hR3.kept (fun a _ _ => b4.1 a (by omega)), by rw [b8.1 7 (by omega)]; exact hD3, hW.slp a3, ?_, fP3.f b4, by rw [b4.2.2]; exact f23, fM3.f b8.to7, by rw [b8.2 7 (by omega)]; exact f73⟩, ?_, ?_⟩
        · exact ⟨by rw [ub_v, if_neg (by omega)]; exact hk.1, by rw [ub_v, if_neg (by omega)]; exact hk.2.1, by rw [ub_v, if_neg (by omega)]; exact hk.2.2⟩
        · rw [ub_v, if_neg (by omega)]
          exact hB.1
        · rw [ub_v, if_neg (by omega)]
          exact hB.2
      · rw [show m_Reader_takes σ3 (59 : Int32) = some (0, σ4) from b1, bnd_s, vB_0, if_neg (show ¬ μ3 0 11 = (4 : Int32) from b3), show m_M_takes μ3 (0 : Int32) (1 : Int32) = some (0, μ4) from b4, bnd_s]
        exact Or.inl ⟨σ4, μ4, rfl, rfl, q, 1, b2.2.2.1, b2.2.2.2, b5, fP3.l b2, fM3.f b6⟩
    · rw [show m_Reader_takesNumber σ1 (0 : Int32) (15 : Int32) = some (0, σ2) from a1, bnd_s, if_pos rfl, vB_0, show m_M_figure μ1 (0 : Int32) (15 : Int32) = some (0, μ2) from a3, bnd_s, m_58t_dead a4]
      exact Or.inl ⟨σ2, up μ2 7 0 0, rfl, rfl, p + 1, k, a2.2.2.1, a2.2.2.2, a4.u (by omega) _ _, (fP.f s3).l a2, ((fM.f u3.to7).f a5).u _ _⟩
  · obtain ⟨σ1, s1, s2⟩ := x2 hc
    obtain ⟨μ1, u1, u2, u3⟩ := m_tk0 hM (by omega) 1
    have e57 : m_M_map_B57 μ = m_M_map_L95 FU (up μ1 7 0 0) := by
      unfold m_M_map_B57 m_M_map_B58
      rw [show m_M_takes μ (0 : Int32) (1 : Int32) = some (0, μ1) from u1, bnd_s, m_figd u2, bnd_s]
      exact m_58t_dead u2 0
    have eR : (if (μ 0 11) = (1 : Int32) then (if (μ 0 12) = (109 : Int32) then m_M_map_B58 μ (1 : Int32) else m_M_map_B57 μ) else m_M_map_B57 μ) = m_M_map_B57 μ := by
      by_cases hl : μ 0 11 = (1 : Int32)
      · have h1 := k4.mp hl
        have h2 := hT.2 p h1.1
        rw [if_pos hl, k6 hl, show (109 : Int32) = nI 109 from rfl, ieq (by omega) (by omega), if_neg (show ¬ c p = 109 from fun z => hc ⟨h1.1, z⟩)]
      · rw [if_neg hl]
    rw [show m_Reader_takes σ (109 : Int32) = some (0, σ1) from s1, bnd_s, if_pos rfl, vB_0, eR, e57]
    exact Or.inl ⟨σ1, up μ1 7 0 0, rfl, rfl, p, 1, s2.2.2.1, s2.2.2.2, u2.u (by omega) _ _, fP.l s2, (fM.f u3).u _ _⟩
theorem r_start (hT : Tp c n) (h1 : σ 13 1 = nI n) (h14 : ∀ i, i < n → σ 14 i = nI (c i)) (hM : MT c n μ) : ∃ σ2 μ2, m_Reader_readInto 28 σ = bnd (m_Reader_readLaw 28 σ2) (fun v4 σ5 => (if v4 = 0 then vB (0 : Int32) (some ((0 : Int32), σ5)) else bnd (m_Reader_readCells 28 σ5) (fun v6 σ7 => (if v6 = 0 then vB (0 : Int32) (some ((0 : Int32), σ7)) else bnd (m_Reader_readPins 28 σ7) (fun v8 σ9 => (if v8 = 0 then vB (0 : Int32) (some ((0 : Int32), σ9)) else vB (1 : Int32) (some ((1 : Int32), σ9)))))))) ∧ m_M_map μ = refL μ2 ∧ Lv c n σ μ B00 0 σ2 μ2 := by
  obtain ⟨σ2, e2, r2, f2⟩ := x_empty (up σ 13 4 0)
  obtain ⟨μ1, e1, f1, g1⟩ := m_clear 64 FU 0 μ (by omega) (fu_lt (by omega))
  have hM2 : MT c n (up (up μ1 0 9 0) 0 8 (-1)) := ⟨by rw [up_n (by omega), up_n (by omega), f1 0 (by omega)]; exact hM.1, fun i hi => by rw [up_o (by omega), up_o (by omega), f1 5 (by omega)]; exact hM.2 i hi⟩
  have h9 : up (up μ1 0 9 0) 0 8 (-1) 0 9 = nI 0 := by rw [up_n (by omega), up_s, li_0]
  have h8 : up (up μ1 0 9 0) 0 8 (-1) 0 8 = -1 := up_s
  have h77 : up (up μ1 0 9 0) 0 8 (-1) 7 = μ1 7 := by rw [up_o (by omega), up_o (by omega)]
  have hfr : FrMr μ (up (up μ1 0 9 0) 0 8 (-1)) := ⟨fun a a0 a7 => by rw [up_o a0, up_o a0, f1 a a7], fun i hi => by rw [up_n (by omega), up_n (by omega), f1 0 (by omega)]⟩
  have h07 : up (up μ1 0 9 0) 0 8 (-1) 0 7 = μ 0 7 := by rw [up_n (by omega), up_n (by omega), f1 0 (by omega)]
  have e21 : m_M_map_B21 μ1 = bnd (m_M_advances (up (up μ1 0 9 0) 0 8 (-1))) (fun _ σ4 => refL σ4) := rfl
  generalize up (up μ1 0 9 0) 0 8 (-1) = μ2 at hM2 h9 h8 h77 hfr h07 e21
  obtain ⟨μ3, e3, tk, f3⟩ := m_adv hT hM2 (Nat.zero_le n) h9
  refine ⟨σ2, μ3, ?_, ?_, ⟨?_, ?_, ?_⟩, ⟨hM2.k f3, by rw [f3.2 8 (by omega)]; exact h8, tk⟩, Nat.zero_le n, r2, ?_, WF_00, ⟨rfl, rfl, rfl⟩, ⟨fun a a13 _ => ?_, ?_⟩, ?_, hfr.f f3.to7, by rw [f3.2 7 (by omega)]; exact h07⟩
  · unfold m_Reader_readInto
    rw [nmS_e, e2, bnd_s]
  · rw [show m_M_map μ = m_M_map_B21 μ1 from e1, e21, e3, bnd_s]
  · rw [f2 13 (by omega), up_n (by omega)]
    exact h1
  · rw [f2 13 (by omega), up_s, li_0]
  · intro i hi
    rw [f2 14 (by omega), up_o (by omega)]
    exact h14 i hi
  · rw [f3.1 7 (by omega), h77]
    have z : ∀ j, j < 64 → μ1 7 j = 0 := fun j hj => by rw [g1 j, if_pos ⟨Nat.zero_le j, hj⟩]
    exact ⟨z 0 (by omega), z 1 (by omega), z 2 (by omega), z 3 (by omega), z 4 (by omega), z 5 (by omega), fun i hi => absurd hi (Nat.not_lt_zero i), fun p hp => absurd hp (Nat.not_lt_zero p)⟩
  · by_cases e : a = 28
    · omega
    · rw [f2 a e, up_o a13]
  · rw [f2 13 (by omega), up_n (by omega)]
  · rw [f2 13 (by omega), up_n (by omega)]
theorem r_read (hT : Tp c n) (h1 : σ 13 1 = nI n) (h14 : ∀ i, i < n → σ 14 i = nI (c i)) (hM : MT c n μ) : (∃ σ' μ', m_Reader_readInto 28 σ = some (0, σ') ∧ m_M_map μ = k190 μ' ∧ Dv σ μ σ' μ') ∨ (∃ σ' μ' B p, m_Reader_readInto 28 σ = some (1, σ') ∧ m_M_map μ = k190 μ' ∧ Lv c n σ μ B p σ' μ' ∧ 4 ≤ B 0 0) := by
  obtain ⟨σ2, μ2, e1, e2, L0⟩ := r_start hT h1 h14 hM
  rw [e1, e2]
  have dead : ∀ μ', (∃ σ', Dv σ μ σ' μ') → m_M_map_L145 FU μ' = k190 μ' := by
    rintro μ' ⟨σ', pl, k, d1, d2, d3, d4, d5⟩
    exact m_145_dead d3 1999
  rcases r_law hT L0 ⟨rfl, rfl⟩ with ⟨σ', μ', a1, a2, a3⟩ | ⟨σ3, μ3, B3, p3, a1, a2, L3, b0, b1⟩
  · rw [a1, a2, bnd_s, if_pos rfl, vB_0]
    refine Or.inl ⟨σ', μ', rfl, ?_, a3⟩
    rw [← dead μ' ⟨σ', a3⟩]
    obtain ⟨pl, k, d1, d2, d3, d4, d5⟩ := a3
    exact m_95_dead d3 1999
  · rw [a1, a2, bnd_s, if_neg (show ¬ (1 : Int32) = 0 by decide), show m_Reader_readCells 28 σ3 = m_Reader_readCells_L2 28 FU σ3 (nI (B3 0 0)) by rw [b0]; rfl]
    rcases r_cells hT 17 FU FU p3 B3 σ3 μ3 L3 b1 (by omega) (fu_lt (by omega)) (fu_lt (by omega)) with ⟨σ', μ', a1, a2, a3⟩ | ⟨σ4, μ4, B4, p4, a1, a2, L4, c0, c1⟩
    · rw [a1, a2, bnd_s, if_pos rfl, vB_0]
      exact Or.inl ⟨σ', μ', rfl, dead μ' ⟨σ', a3⟩, a3⟩
    · rw [a1, a2, bnd_s, if_neg (show ¬ (1 : Int32) = 0 by decide), show m_Reader_readPins 28 σ4 = m_Reader_readPins_L2 28 FU σ4 (nI (B4 0 1)) by rw [c1]; rfl]
      rcases r_pins hT 8 FU FU p4 B4 σ4 μ4 L4 c0 (by omega) (fu_lt (by omega)) (fu_lt (by omega)) with ⟨σ', μ', a1, a2, a3⟩ | ⟨σ5, μ5, B5, p5, a1, a2, L5, c2⟩
      · rw [a1, a2, bnd_s, if_pos rfl, vB_0]
        exact Or.inl ⟨σ', μ', rfl, rfl, a3⟩
      · rw [a1, a2, bnd_s, if_neg (show ¬ (1 : Int32) = 0 by decide), vB_1]
        exact Or.inr ⟨σ5, μ5, B5, p5, rfl, rfl, L5, c2⟩
end LAW
