/-! pure: map; all calls; the beginning -/
theorem RD.fin {r : Nat → Int32} {B : Bt} (h : RD r B) (h5 : B 0 5 = 1) (h3 : B 0 3 = 0) (h4 : B 0 4 = 0) : RM (upd r 4 (nI 1)) B (plc B) := by
  have h1 := (h.rm h3 h4).u4 1
  have e : ub (ub B 0 5 0) 0 5 1 = B := by
    funext a i
    rw [ub_v]
    by_cases hc : a = 0 ∧ i = 5
    · rw [if_pos hc, hc.1, hc.2, h5]
    · rw [if_neg hc, ub_v, if_neg hc]
  rw [e] at h1
  refine h1.cv (fun p hp => ?_)
  unfold plc
  rw [if_neg (fun z => by omega)]
theorem Rel.rd {σ μ σ' μ' : St} (h : Rel σ μ) (fP : FrP σ σ') (fM : FrMr μ μ') (hk : σ' 13 2 = μ' 0 7) : Rel (up σ' 13 1 0) (up μ' 0 6 0) := by
  obtain ⟨h1, h2, h3, h4, h5, h6, h7, h8⟩ := h
  have hx : ∀ a, a ≠ 13 → (a < 28 ∨ 35 ≤ a) → up σ' 13 1 0 a = σ a := fun a h1 h2 => by rw [up_o h1]; exact fP.1 a h1 h2
  have hm : ∀ a, a ≠ 0 → a ≠ 7 → up μ' 0 6 0 a = μ a := fun a h1 h2 => by rw [up_o h1]; exact fM.1 a h1 h2
  have m0 : ∀ i, i ≠ 6 → (i < 7 ∨ 12 < i) → up μ' 0 6 0 0 i = μ 0 i := fun i h1 h2 => by rw [up_n h1]; exact fM.2 i h2
  refine ⟨h1.k (fun a _ _ _ => hx a (by omega) (by omega)) (fun a _ _ => hm a (by omega) (by omega)), ⟨0, by omega, up_s, up_s, fun i hi => absurd hi (Nat.not_lt_zero i)⟩, by rw [up_n (by omega), up_n (by omega)]; exact hk, by rw [hx 0 (by omega) (by omega), m0 4 (by omega) (by omega)]; exact h4, h5.k (by rw [hx 18 (by omega) (by omega)]) (hx 19 (by omega) (by omega)) (m0 24 (by omega) (by omega)) (hm 15 (by omega) (by omega)), h6.k (fun a _ _ => hx a (by omega) (by omega)) (hm 6 (by omega) (by omega)), h7.k (hx 16 (by omega) (by omega)) (fun a _ => hx a (by omega) (by omega)) (m0 17 (by omega) (by omega)) (hm 9 (by omega) (by omega)), h8.k (fun a _ _ => hx a (by omega) (by omega)) (hm 10 (by omega) (by omega)) (hm 11 (by omega) (by omega))⟩
theorem a_map {σ μ : St} (h : Rel σ μ) : Sr Rel (m_P_map σ) (m_M_map μ) := by
  obtain ⟨n, hn, t1, t2, t3⟩ := id h.2.1
  have t4 : ∀ i, i < n → (σ 14 i).toNatClampNeg < 256 ∧ σ 14 i = nI (σ 14 i).toNatClampNeg ∧ μ 5 i = nI (σ 14 i).toNatClampNeg := by
    intro i hi
    obtain ⟨x, x1, x2, x3⟩ := t3 i hi
    rw [x2, x3, cl_n (by omega)]
    exact ⟨x1, rfl, rfl⟩
  have hT : Tp (fun i => (σ 14 i).toNatClampNeg) n := ⟨hn, fun i hi => (t4 i hi).1⟩
  unfold m_P_map m_Reader_clear
  rcases r_read (c := fun i => (σ 14 i).toNatClampNeg) hT t1 (fun i hi => (t4 i hi).2.1) ⟨t2, fun i hi => (t4 i hi).2.2⟩ with ⟨σ', μ', a1, a2, pl, k, d1, d2, d3, fP, fM⟩ | ⟨σ', μ', B, p, a1, a2, L, b0⟩
  · have hd : Dd pl k (up μ' 0 6 0) := ⟨by rw [up_n (by omega)]; exact d3.1, by rw [up_n (by omega)]; exact d3.2.1, d3.2.2⟩
    have hr := h.rd fP fM (d1.trans d3.2.1.symm)
    unfold k190 at a2
    rw [a1, a2, bnd_s, nmS_e, bnd_s, if_pos rfl, nmS_e, m_well0 hd, bnd_s, if_pos rfl, hd.1, up_n (show (3 : Nat) ≠ 1 by omega), d2]
    exact Sr.fin hr
  · obtain ⟨hS, hM, hp, hR, hD, hW, hk, fP, f2, fM, f7⟩ := L
    have hr := h.rd fP fM (by rw [f2, f7]; exact h.2.2.1)
    have hR1 : RB (up σ' 13 1 0) 28 B := hR.kept (fun a _ _ => up_o (by omega))
    have h8 : up μ' 0 6 0 0 8 = -1 := by rw [up_n (by omega)]; exact hM.2.1
    have hD1 : RD (up μ' 0 6 0 7) B := by rw [up_o (by omega)]; exact hD
    unfold k190 at a2
    rw [a1, a2, bnd_s, nmS_e, bnd_s, if_neg (show ¬ (1 : Int32) = 0 by decide), nmS_e, m_well1 h8, bnd_s, if_neg (show ¬ (1 : Int32) = 0 by decide)]
    generalize up σ' 13 1 0 = σ1 at hr hR1 ⊢
    generalize up μ' 0 6 0 = μ1 at hr hD1 ⊢
    obtain ⟨σ2, e1, r1, f1⟩ := x_take (b := 21) hR1 hW (by omega)
    obtain ⟨μ3, e3, f3, g3⟩ := m_copies (w1 := 7) (w2 := 6) (a := 0) (c := 0) (by show 0 + 64 ≤ 64; omega) (by show 0 + 64 ≤ 64; omega) (by decide) (by decide) (by decide) (up μ1 7 4 1)
    have hM3 : RM (μ3 6) B (plc B) := by
      have hfin : RM (up μ1 7 4 1 7) B (plc B) := by
        rw [up_row]
        exact hD1.fin hk.1 hk.2.1 hk.2.2
      exact hfin.cg hW (fun i hi => by rw [g3 i, if_pos (by omega), show 0 + (i - 0) = i by omega])
    have h1 : Rel σ2 μ3 := hr.brd (fun a ha => f1 a (by omega)) (fun a a6 a7 => (f3 a a6).trans (up_o a7)) ⟨B, r1, hM3, hW, by omega⟩
    have hb4 : ∀ t : Rt, bd (4 : Int32) 64 t = t := fun t => bd_n (n := 4) (by omega) (by omega)
    unfold m_Past_forget
    rw [e1, bnd_s, nmS_e, bnd_s, hw7, hb4, nmS_e, show (4 : Int32).toNatClampNeg = 4 from rfl, show m_M_copies 7 6 (up μ1 7 4 1) (0 : Int32) (0 : Int32) = some (0, μ3) from e3, bnd_s, nmS_e, hw6, bd2_64, show (2 : Int32).toNatClampNeg = 2 from rfl, up_o (show (21 : Nat) ≠ 16 by omega), up_o (show (6 : Nat) ≠ 0 by omega), r1.1 1 (by omega), hM3.2.2.1]
    obtain ⟨k, o, a1, a2, a3, a4, a5, a6⟩ := id h1.2.2.2.2.2.2.1
    exact Sr.fin (h1.pasts (fun a ha _ => up_o ha) (fun a a0 _ => up_o a0) (fun i hi => up_n hi) ⟨0, o, by omega, a2, up_s, by rw [up_n (by omega)]; exact a4, up_s, fun j hj => absurd hj (Nat.not_lt_zero j)⟩)
theorem ops_rel : Ops Rel := ⟨fun a b c _ _ h => a_row a b c h, fun a b c _ _ h => a_set a b c h, fun a b c d e _ _ h => a_copy a b c d e h, fun a _ _ h => a_drop a h, fun a _ _ h => a_feed a h, fun _ _ h => a_map h, fun _ _ h => a_fault h, fun a _ _ h => a_times a h, fun a b _ _ h => a_move a b h, fun a b _ _ h => a_swap a b h, fun a b _ _ h => a_work a b h, fun a _ _ h => a_slip a h, fun _ _ h => a_undo h, fun a b _ _ h => a_pin a b h, fun a b _ _ h => a_cell a b h, fun a b _ _ h => a_ahead a b h, fun a _ _ h => a_earned a h, fun a b _ _ h => a_tomsk a b h, fun _ _ h => a_round h, fun a _ _ h => a_right a h, fun a _ _ h => a_best a h, fun a b c d e _ _ h => a_fits a b c d e h, fun a b c _ _ h => a_left a b c h, fun a b c _ _ h => a_drawn a b c h, fun a _ _ h => a_image a h, fun a _ _ h => a_restore a h, fun a _ _ h => a_kind a h, fun a b _ _ h => a_as a b h, fun a b _ _ h => a_ask a b h, fun a _ _ h => a_trace a h, fun a _ _ h => a_count a h, fun _ _ h => a_status h⟩
theorem sX0_z {a i : Nat} (h : a ≠ 2) : sX0 a i = 0 := by rw [sX0_ne h]
theorem sM0_z {a i : Nat} (h : a ≠ 1) : sM0 a i = 0 := by rw [sM0_ne h]
theorem rel0 : Rel sX0 sM0 := by
  refine ⟨fun r hr => ⟨Or.inl ⟨?_, ?_⟩, ⟨0, by omega, sX0_z (by omega), sM0_z (by omega)⟩, fun i hi => ?_⟩, ⟨0, by omega, sX0_z (by omega), sM0_z (by omega), fun i hi => absurd hi (Nat.not_lt_zero i)⟩, ?_, ?_, ⟨0, by omega, sX0_z (by omega), sM0_z (by omega), fun i hi => absurd hi (Nat.not_lt_zero i)⟩, ⟨fun _ _ => 0, ⟨fun j hj => sX0_z (by omega), fun i hi => absurd hi (Nat.not_lt_zero i), fun f h1 h2 p hp => absurd hp (Nat.not_lt_zero p)⟩, ?_, ⟨Nat.zero_le _, Nat.zero_le _, Nat.zero_le _, Nat.zero_le _, Nat.zero_le _, fun i hi => absurd hi (Nat.not_lt_zero i), fun p hp => absurd hp (Nat.not_lt_zero p)⟩, Nat.zero_le _⟩, ⟨0, 0, by omega, by omega, sX0_z (by omega), sX0_z (by omega), sM0_z (by omega), fun j hj => absurd hj (Nat.not_lt_zero j)⟩, fun k hk => Or.inl ⟨sX0_z (by unfold gImg; omega), sM0_z (by omega)⟩⟩
  · show (if 2 = 2 ∧ r < 8 then (-1 : Int32) else 0) = -1
    rw [if_pos ⟨rfl, hr⟩]
  · show (if 1 = 1 ∧ r < 8 then (-1000000 : Int32) else 0) = -1000000
    rw [if_pos ⟨rfl, hr⟩]
  · rw [sX0_z (by unfold gIt; omega), sM0_z (by omega)]
  · rw [sX0_z (by omega), sM0_z (by omega)]
  · rw [sX0_z (by omega), sM0_z (by omega)]
  · refine ⟨sM0_z (by omega), sM0_z (by omega), sM0_z (by omega), sM0_z (by omega), sM0_z (by omega), sM0_z (by omega), fun i hi => absurd hi (Nat.not_lt_zero i), fun p hp => absurd hp (Nat.not_lt_zero p)⟩
