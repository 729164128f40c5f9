/-! pure: acts and images -/
theorem RM.cg {r r' : Nat → Int32} {B : Bt} {v : Nat → Int32} (h : RM r B v) (hW : WF B) (e : ∀ i, i < 64 → r' i = r i) : RM r' B v := by
  obtain ⟨h0, h1, h2, h3, h4, h5, h6, h7⟩ := h
  have w0 := hW.1
  have w1 := hW.2.1
  refine ⟨by rw [e _ (by omega)]; exact h0, by rw [e _ (by omega)]; exact h1, by rw [e _ (by omega)]; exact h2, by rw [e _ (by omega)]; exact h3, by rw [e _ (by omega)]; exact h4, by rw [e _ (by omega)]; exact h5, fun i hi => by rw [e _ (by omega)]; exact h6 i hi, fun p hp => ?_⟩
  rw [e _ (by omega), e _ (by omega), e _ (by omega), e _ (by omega), e _ (by omega), e _ (by omega)]
  exact h7 p hp
theorem Rel.pasts {σ μ σ' μ' : St} (h : Rel σ μ) (hx : ∀ a, a ≠ 16 → a < 49 → σ' a = σ a) (hm : ∀ a, a ≠ 0 → a ≠ 9 → μ' a = μ a) (m0 : ∀ i, i ≠ 17 → μ' 0 i = μ 0 i) (hp : RPast σ' μ') : Rel σ' μ' := by
  obtain ⟨h1, h2, h3, h4, h5, h6, h7, h8⟩ := h
  refine ⟨h1.k (fun a _ _ _ => hx a (by omega) (by omega)) (fun a _ _ => hm a (by omega) (by omega)), h2.k (by rw [hx 13 (by omega) (by omega)]) (hx 14 (by omega) (by omega)) (m0 6 (by omega)) (hm 5 (by omega) (by omega)), by rw [hx 13 (by omega) (by omega), m0 7 (by omega)]; exact h3, by rw [hx 0 (by omega) (by omega), m0 4 (by omega)]; exact h4, h5.k (by rw [hx 18 (by omega) (by omega)]) (hx 19 (by omega) (by omega)) (m0 24 (by omega)) (hm 15 (by omega) (by omega)), h6.k (fun a _ _ => hx a (by omega) (by omega)) (hm 6 (by omega) (by omega)), hp, h8.k (fun a _ _ => hx a (by omega) (by omega)) (hm 10 (by omega) (by omega)) (hm 11 (by omega) (by omega))⟩
theorem Rel.brd {σ μ σ' μ' : St} (h : Rel σ μ) (hx : ∀ a, (a < 21 ∨ 35 ≤ a) → σ' a = σ a) (hm : ∀ a, a ≠ 6 → a ≠ 7 → μ' a = μ a) (hp : RMap σ' 21 (μ' 6)) : Rel σ' μ' := by
  obtain ⟨h1, h2, h3, h4, h5, h6, h7, h8⟩ := h
  have m0 := hm 0 (by omega) (by omega)
  have x0 := hx 0 (by omega)
  have x13 := hx 13 (by omega)
  refine ⟨h1.k (fun a _ _ _ => hx a (by omega)) (fun a _ _ => hm a (by omega) (by omega)), h2.k (by rw [x13]) (hx 14 (by omega)) (by rw [m0]) (hm 5 (by omega) (by omega)), by rw [x13, m0]; exact h3, by rw [x0, m0]; exact h4, h5.k (by rw [hx 18 (by omega)]) (hx 19 (by omega)) (by rw [m0]) (hm 15 (by omega) (by omega)), hp, h7.k (hx 16 (by omega)) (fun a _ => hx a (by omega)) (by rw [m0]) (hm 9 (by omega) (by omega)), h8.k (fun a _ _ => hx a (by omega)) (hm 10 (by omega) (by omega)) (hm 11 (by omega) (by omega))⟩
theorem m_shift (μ0 : St) : ∀ (m n i : Nat) (μ : St), i + m = 1472 → m < n → FrM 9 μ0 μ → (∀ j, μ 9 j = if j < i then μ0 9 (j + 64) else μ0 9 j) → ∃ μ', m_M_notes_L11 n μ (nI i) = m_M_notes_B39 μ' ∧ FrM 9 μ0 μ' ∧ ∀ j, μ' 9 j = if j < 1472 then μ0 9 (j + 64) else μ0 9 j := by
  intro m
  induction m with
  | zero =>
    intro n i μ hi hn hf hs
    obtain ⟨n, rfl⟩ : ∃ k, n = k + 1 := ⟨n - 1, by omega⟩
    refine ⟨μ, ?_, hf, ?_⟩
    · show m_M_notes_B11 (m_M_notes_L11 n) μ _ = _
      unfold m_M_notes_B11
      rw [li_1472, ile (by omega) (by omega), if_pos (by omega)]
    · rw [show (1472 : Nat) = i by omega]
      exact hs
  | succ m ih =>
    intro n i μ hi hn hf hs
    obtain ⟨n, rfl⟩ : ∃ k, n = k + 1 := ⟨n - 1, by omega⟩
    show ∃ μ', m_M_notes_B11 (m_M_notes_L11 n) μ _ = _ ∧ _
    unfold m_M_notes_B11
    rw [li_1472, ile (by omega) (by omega), if_neg (by omega), li_64, ad_n, show lenM 9 = 1536 from rfl, bd_n (by omega) (by omega), bd_n (by omega) (by omega), nmS_e, cl_n (by omega), cl_n (by omega), ad_1]
    refine ih n (i + 1) _ (by omega) (by omega) (hf.tr (frM 9 μ _ _)) (fun j => ?_)
    rw [up_v]
    by_cases e : j = i
    · rw [if_pos ⟨rfl, e⟩, if_pos (by omega), hs (i + 64), if_neg (by omega), e]
    · rw [if_neg (fun z => e z.2), hs j]
      by_cases hc : j < i
      · rw [if_pos hc, if_pos (by omega)]
      · rw [if_neg hc, if_neg (by omega)]
/-- the end of noting: the map is laid behind the acts -/
theorem m_note49 {μ : St} {k : Nat} (hk : k ≤ 23) (h : μ 0 17 = nI k) : ∃ μ', m_M_notes_B49 μ = some (0, μ') ∧ (∀ a, a ≠ 0 → a ≠ 9 → μ' a = μ a) ∧ (∀ i, i ≠ 17 → μ' 0 i = μ 0 i) ∧ μ' 0 17 = nI (k + 1) ∧ ∀ j, μ' 9 j = if 64 * k ≤ j ∧ j < 64 * k + 64 then μ 6 (j - 64 * k) else μ 9 j := by
  unfold m_M_notes_B49
  rw [h, li_64, mu_n, li_0]
  obtain ⟨μ1, e, f, g⟩ := m_copies (w1 := 6) (w2 := 9) (a := 0) (c := 64 * k) (by show 0 + 64 ≤ 64; omega) (by show 64 * k + 64 ≤ 1536; omega) (by decide) (by decide) (by decide) μ
  rw [e, bnd_s, nmS_e, f 0 (by omega), h, ad_1]
  refine ⟨_, rfl, fun a a0 a9 => by rw [up_o a0, f a a9], fun i hi => by rw [up_n hi, f 0 (by omega)], up_s, fun j => ?_⟩
  rw [up_o (by omega), g j, Nat.zero_add]
theorem li24 : (24 : Int32) = nI 24 := rfl
theorem a_keep {B : Bt} {σ μ : St} (h : RelB B σ μ) (hW : WF B) (hT : B 0 3 ≤ 9999) : Sr (RelB B) (m_Past_keep 21 σ) (m_M_notes μ) := by
  obtain ⟨n, o, a1, a2, a3, a4, a5, a6⟩ := h.1.2.2.2.2.2.2.1
  unfold m_Past_keep m_M_notes
  rw [a3, a4, a5, ad_n, li24, rm_n (by omega) (by omega) (by omega), nz_n (by omega) (by omega), bd_n (by omega) (by omega), cl_n (by omega), ieq (by omega) (by omega)]
  have gp : gPast ((o + n) % 24) = 49 + 7 * ((o + n) % 24) := rfl
  obtain ⟨σ1, e1, r1, f1⟩ := x_take (b := gPast ((o + n) % 24)) h.2.1 hW (by omega)
  have hm : (o + n) % 24 < 24 := Nat.mod_lt _ (by decide)
  rw [e1, bnd_s, f1 16 (by omega), a3, a4, ile (by omega) (by omega)]
  by_cases h24 : n = 24
  · subst h24
    rw [if_pos (by omega), if_pos rfl, nz_n (by omega) (by omega), nmS_e, ad_1, rm_n (by omega) (by omega) (by omega)]
    obtain ⟨μ1, e2, f2, g2⟩ := m_shift μ 1472 FU 0 μ (by omega) (by decide) (FrM.rf 9 μ) (fun j => by rw [if_neg (by omega)])
    rw [li_0, e2]
    unfold m_M_notes_B39
    rw [nmS_e, f2 0 (by omega), a5, li_1, sb_n (by omega)]
    obtain ⟨μ2, e3, f3, g3, k3, c3⟩ := m_note49 (μ := up μ1 0 17 (nI (24 - 1))) (k := 23) (by omega) up_s
    rw [e3]
    refine ⟨_, _, _, rfl, rfl, ?_⟩
    have hx : ∀ a, a ≠ 16 → a < 49 → up σ1 16 1 (nI ((o + 1) % 24)) a = σ a := fun a ha hb => by rw [up_o ha, f1 a (by omega)]
    have h9 : ∀ j, μ2 9 j = if 1472 ≤ j ∧ j < 1536 then μ 6 (j - 1472) else if j < 1472 then μ 9 (j + 64) else μ 9 j := fun j => by
      rw [c3 j, up_o (by omega), up_o (by omega), f2 6 (by omega), g2 j]
    have hm6 : ∀ a, a ≠ 0 → a ≠ 9 → μ2 a = μ a := fun a h0 h9 => by rw [f3 a h0 h9, up_o h0, f2 a h9]
    refine h.k (h.1.pasts hx hm6 (fun i hi => by rw [g3 i hi, up_n hi, f2 0 (by omega)]) ⟨24, (o + 1) % 24, by omega, Nat.mod_lt _ (by decide), by rw [up_n (by omega), f1 16 (by omega)]; exact a3, up_s, k3, fun j hj => ?_⟩) (fun a ha hb => hx a (by omega) (by omega)) (hm6 6 (by omega) (by omega))
    by_cases e : j = 23
    · subst e
      have ei : ((o + 1) % 24 + 23) % 24 = (o + 24) % 24 := by omega
      rw [ei]
      refine ⟨B, r1.kept (fun a ha hb => up_o (by omega)), (h.2.2).cg hW (fun i hi => ?_), hW, hT⟩
      rw [h9, if_pos (by omega)]
      exact congrArg (μ 6) (by omega)
    · have ei : ((o + 1) % 24 + j) % 24 = (o + (j + 1)) % 24 := by omega
      have gq : gPast ((o + (j + 1)) % 24) = 49 + 7 * ((o + (j + 1)) % 24) := rfl
      rw [ei]
      have en : (o + (j + 1)) % 24 ≠ (o + 24) % 24 := by omega
      obtain ⟨B', q1, q2, q3, q4⟩ := a6 (j + 1) (by omega)
      refine ⟨B', q1.kept (fun a ha hb => by rw [up_o (by omega), f1 a (by omega)]), q2.cg q3 (fun i hi => ?_), q3, q4⟩
      rw [h9, if_neg (by omega), if_pos (by omega)]
      exact congrArg (μ 9) (by omega)
  · rw [if_neg (by omega), if_neg h24, nmS_e, ad_1]
    obtain ⟨μ2, e3, f3, g3, k3, c3⟩ := m_note49 (k := n) (by omega) a5
    rw [e3]
    refine ⟨_, _, _, rfl, rfl, ?_⟩
    have hx : ∀ a, a ≠ 16 → a < 49 → up σ1 16 0 (nI (n + 1)) a = σ a := fun a ha hb => by rw [up_o ha, f1 a (by omega)]
    refine h.k (h.1.pasts hx f3 g3 ⟨n + 1, o, by omega, a2, up_s, by rw [up_n (by omega), f1 16 (by omega)]; exact a4, k3, fun j hj => ?_⟩) (fun a ha hb => hx a (by omega) (by omega)) (f3 6 (by omega) (by omega))
    by_cases e : j = n
    · subst e
      refine ⟨B, r1.kept (fun a ha hb => up_o (by omega)), (h.2.2).cg hW (fun i hi => ?_), hW, hT⟩
      rw [c3, if_pos (by omega)]
      congr 1
      omega
    · have gq : gPast ((o + j) % 24) = 49 + 7 * ((o + j) % 24) := rfl
      have en : (o + j) % 24 ≠ (o + n) % 24 := by omega
      obtain ⟨B', q1, q2, q3, q4⟩ := a6 j (by omega)
      refine ⟨B', q1.kept (fun a ha hb => by rw [up_o (by omega), f1 a (by omega)]), q2.cg q3 (fun i hi => ?_), q3, q4⟩
      rw [c3, if_neg (by omega)]
theorem a_work (x y : Int32) {σ μ : St} (h : Rel σ μ) : Sr Rel (m_P_work σ x y) (m_M_work μ x y) := by
  obtain ⟨B, hR, hM, hW, hT⟩ := id h.2.2.2.2.2.1
  unfold m_P_work m_M_work
  rw [x_hasCell hR hW, bnd_s, m_isCell hM hW, bnd_s]
  refine sr_if (fun _ => Sr.fin h) (fun hp => ?_)
  obtain ⟨c, hc, rfl⟩ := hp
  rw [within_n, in_n, bnd_s, bnd_s]
  refine sr_if (fun _ => Sr.fin h) (fun hq => ?_)
  rw [li_9, le_iff (by omega)] at hq
  obtain ⟨q, hq, rfl⟩ := hq
  have w0 := hW.1
  refine (a_keep ⟨h, hR, hM⟩ hW hT).bnd (fun _ σ μ h => ?_)
  rw [li_6, ad_n, hw6]
  have hb : ∀ t : Rt, bd (nI c) 16 t = t := fun t => bd_n (by omega) (by omega)
  have hb2 : ∀ t : Rt, bd (nI (6 + c)) 64 t = t := fun t => bd_n (by omega) (by omega)
  simp only [nm_i, nmS_e, hb, hb2]
  rw [cl_n (by omega), cl_n (by omega)]
  rw [h.2.1.2.1 c hc, h.2.2.2.2.2.2.2.2.1 c hc]
  refine Sr.fin (h.1.brd (fun a ha => up_o (by omega)) (fun a a6 _ => up_o a6) ⟨ub B 1 c q, h.2.1.upW c q, ?_, ?_, hT⟩)
  · rw [up_row]
    exact h.2.2.uW (by omega) q
  · obtain ⟨w0, w1, w2, w4, w5, w6, w7⟩ := hW
    refine ⟨w0, w1, w2, w4, w5, fun i hi => ?_, w7⟩
    rw [ub_v]
    split
    · omega
    · exact w6 i hi
theorem a_slip (x : Int32) {σ μ : St} (h : Rel σ μ) : Sr Rel (m_P_slip σ x) (m_M_slip μ x) := by
  obtain ⟨B, hR, hM, hW, hT⟩ := id h.2.2.2.2.2.1
  unfold m_P_slip m_M_slip
  rw [x_stands hR hW, bnd_s, m_isMap hM hW, bnd_s]
  refine sr_if (fun _ => Sr.fin h) (fun hp => ?_)
  rw [within_n, in_n, bnd_s, bnd_s]
  refine sr_if (fun _ => Sr.fin h) (fun hq => ?_)
  rw [li_15, le_iff (by omega)] at hq
  obtain ⟨q, hq, rfl⟩ := hq
  refine (a_keep ⟨h, hR, hM⟩ hW hT).bnd (fun _ σ μ h => ?_)
  have hb : ∀ t : Rt, bd (nI 0) 64 t = t := fun t => bd_n (by omega) (by omega)
  rw [li_0, hw6]
  simp only [nm_i, nmS_e, hb]
  rw [h.2.1.1 2 (by omega), cl_n (by omega), h.2.2.1]
  refine Sr.fin (h.1.brd (fun a ha => up_o (by omega)) (fun a a6 _ => up_o a6) ⟨ub B 0 2 q, h.2.1.up0 2 q (by omega), ?_, ?_, hT⟩)
  · rw [up_row]
    exact h.2.2.u0 q
  · obtain ⟨w0, w1, w2, w4, w5, w6, w7⟩ := hW
    exact ⟨w0, w1, hq, w4, w5, w6, w7⟩
theorem a_move (x y : Int32) {σ μ : St} (h : Rel σ μ) : Sr Rel (m_P_move σ x y) (m_M_move μ x y) := by
  obtain ⟨B, hR, hM, hW, hT⟩ := id h.2.2.2.2.2.1
  unfold m_P_move m_M_move
  rw [x_hasPin hR hW, bnd_s, m_isPin hM hW, bnd_s]
  refine sr_if (fun _ => Sr.fin h) (fun hp => ?_)
  obtain ⟨p, hp, rfl⟩ := hp
  rw [x_hasCell hR hW, bnd_s, m_isCell hM hW, bnd_s]
  refine sr_if (fun _ => Sr.fin h) (fun hq => ?_)
  obtain ⟨c, hc, rfl⟩ := hq
  have w0 := hW.1
  have w1 := hW.2.1
  have w5 := hW.2.2.2.2.1
  have hl := hW.last hp
  have hb : ∀ t : Rt, bd (nI p) 7 t = t := fun t => bd_n (by omega) (by omega)
  have i4 : (22 : Int32) + (6 : Int32) * nI p + (4 : Int32) = nI (22 + 6 * p + 4) := by rw [ix0, li_4, ad_n]
  rw [i4, hw6]
  have hb2 : ∀ t : Rt, bd (nI (22 + 6 * p + 4)) 64 t = t := fun t => bd_n (by omega) (by omega)
  simp only [hb, hb2, nm_i, nmS_e]
  rw [show (4 : Int32) = nI 4 from rfl, bd_n (by omega) (by omega), cl_n (by omega), cl_n (by omega), cl_n (by omega), hM.2.2.2.2.1, hR.1 5 (by omega), (hM.2.2.2.2.2.2.2 p hp).2.2.2.2.1, hR.2.2 6 (by omega) (by omega) p hp]
  refine sr_ite (fun _ => Sr.fin h) (fun hd => ?_)
  have hd1 : B 0 5 = 1 := by
    rcases (show B 0 5 = 0 ∨ B 0 5 = 1 by omega) with e | e
    · rw [e] at hd
      exact absurd rfl hd
    · exact e
  rw [plc_day hd1]
  refine sr_ite (fun _ => Sr.fin h) (fun _ => ?_)
  refine (a_keep ⟨h, hR, hM⟩ hW hT).bnd (fun _ σ μ h => ?_)
  rw [h.2.1.2.2 6 (by omega) (by omega) p hp]
  obtain ⟨μ', e, r, f⟩ := m_lays hw6 h.2.2 hW hp (c := c)
  rw [e, bnd_s]
  refine Sr.fin (h.1.brd (fun a ha => up_o (by omega)) (fun a a6 _ => f a a6) ⟨ub B 6 p c, h.2.1.upA 6 p c (by omega) (by omega), r.cv (fun q hq => ?_), hW.ub6 (fun _ => hc), hT⟩)
  rw [plc_day (show ub B 6 p c 0 5 = 1 from hd1), ub_v, plc_day hd1]
  by_cases e : q = p
  · rw [if_pos ⟨rfl, e⟩, if_pos e]
  · rw [if_neg (fun z => e z.2), if_neg e]
theorem a_swap (x y : Int32) {σ μ : St} (h : Rel σ μ) : Sr Rel (m_P_swap σ x y) (m_M_swap μ x y) := by
  obtain ⟨B, hR, hM, hW, hT⟩ := id h.2.2.2.2.2.1
  unfold m_P_swap m_M_swap
  rw [x_hasPin hR hW, bnd_s, m_isPin hM hW, bnd_s]
  refine sr_if (fun _ => Sr.fin h) (fun hp => ?_)
  obtain ⟨p, hp, rfl⟩ := hp
  rw [x_hasPin hR hW, bnd_s, m_isPin hM hW, bnd_s]
  refine sr_if (fun _ => Sr.fin h) (fun hq => ?_)
  obtain ⟨q, hq, rfl⟩ := hq
  have w0 := hW.1
  have w1 := hW.2.1
  have w5 := hW.2.2.2.2.1
  refine sr_ite (fun _ => Sr.fin h) (fun hne => ?_)
  rw [eq_n (by omega) (by omega)] at hne
  have hlp := hW.last hp
  have hlq := hW.last hq
  have i4 : ∀ p, (22 : Int32) + (6 : Int32) * nI p + (4 : Int32) = nI (22 + 6 * p + 4) := fun p => by rw [ix0, li_4, ad_n]
  rw [i4, i4, hw6]
  have hb2 : ∀ t : Rt, bd (nI (22 + 6 * p + 4)) 64 t = t := fun t => bd_n (by omega) (by omega)
  have hb3 : ∀ t : Rt, bd (nI (22 + 6 * q + 4)) 64 t = t := fun t => bd_n (by omega) (by omega)
  simp only [hb2, hb3, nm_i, nmS_e]
  rw [show (4 : Int32) = nI 4 from rfl, bd_n (by omega) (by omega), cl_n (by omega), cl_n (by omega), cl_n (by omega), hM.2.2.2.2.1, hR.1 5 (by omega)]
  refine sr_ite (fun _ => Sr.fin h) (fun hd => ?_)
  have hd1 : B 0 5 = 1 := by
    rcases (show B 0 5 = 0 ∨ B 0 5 = 1 by omega) with e | e
    · rw [e] at hd
      exact absurd rfl hd
    · exact e
  refine (a_keep ⟨h, hR, hM⟩ hW hT).bnd (fun _ σ μ h => ?_)
  obtain ⟨σ', e0, r0, f0⟩ := x_change h.2.1 hW hp hq
  rw [e0, bnd_s, bd_n (by omega) (by omega), cl_n (by omega), (h.2.2.2.2.2.2.2.2.2 q hq).2.2.2.2.1, (h.2.2.2.2.2.2.2.2.2 p hp).2.2.2.2.1, plc_day hd1, plc_day hd1]
  obtain ⟨μ1, e1, r1, f1⟩ := m_lays hw6 h.2.2 hW hp (c := B 6 q)
  rw [e1, bnd_s]
  obtain ⟨μ2, e2, r2, f2⟩ := m_lays hw6 r1 (hW.ub6 (fun _ => hlq)) (p := q) (c := B 6 p) hq
  have hs6 : swp B p q 6 p = B 6 q := by
    unfold swp
    rw [ub_v, if_neg (fun z => hne z.2), ub_v, if_pos ⟨rfl, rfl⟩]
  have r3 : RM (μ2 6) (swp B p q) (plc (swp B p q)) := by
    refine r2.cv (fun u hu => ?_)
    rw [plc_day (show swp B p q 0 5 = 1 from hd1)]
    unfold swp
    rw [ub_v, ub_v, plc_day hd1]
    by_cases e : u = q
    · rw [if_pos ⟨rfl, e⟩, if_pos e]
    · rw [if_neg (fun z => e z.2), if_neg e]
      by_cases e' : u = p
      · rw [if_pos ⟨rfl, e'⟩, if_pos e']
      · rw [if_neg (fun z => e' z.2), if_neg e']
  rw [e2, bnd_s, r0.2.2 6 (by omega) (by omega) p hp, (r3.2.2.2.2.2.2.2 p hp).2.2.2.2.1, plc_day (show swp B p q 0 5 = 1 from hd1)]
  exact Sr.fin (h.1.brd (fun a ha => f0 a (by omega)) (fun a a6 _ => by rw [f2 a a6, f1 a a6]) ⟨swp B p q, r0, r3, hW.swp hp hq, hT⟩)
theorem trn_time (B : Bt) : trn B 0 3 = B 0 3 + 1 := by
  unfold trn
  split
  · rw [ub_v, if_pos ⟨rfl, rfl⟩]
  · rw [ub_v, if_pos ⟨rfl, rfl⟩]
theorem a_times_l {N : Nat} (hN : N ≤ 24) : ∀ (m n k : Nat) (B : Bt) (σ μ : St), k + m = N → m < n → RelB B σ μ → WF B → B 0 3 + m ≤ 9999 → Sr Rel (m_P_times_L46 n σ (nI N) (nI k)) (m_M_times_L42 n μ (nI N) (nI k)) := by
  intro m
  induction m with
  | zero =>
    intro n k B σ μ hk hn h hW hT
    have w5 := hW.2.2.2.2.1
    obtain ⟨n, rfl⟩ : ∃ k, n = k + 1 := ⟨n - 1, by omega⟩
    show Sr Rel (m_P_times_B46 (m_P_times_L46 n) σ _ _) (m_M_times_B42 (m_M_times_L42 n) μ _ _)
    unfold m_P_times_B46 m_M_times_B42 m_P_times_B75
    rw [ile (by omega) (by omega), ile (by omega) (by omega), if_pos (show N ≤ k by omega), if_pos (show N ≤ k by omega), li_4, hw6, bd_n (by omega) (by omega), cl_n (by omega), h.2.2.2.2.2.2.1, h.2.1.1 5 (by omega)]
    rcases (show B 0 5 = 0 ∨ B 0 5 = 1 by omega) with e | e
    · rw [e]
      exact Sr.fin h.1
    · rw [e]
      exact Sr.fin h.1
  | succ m ih =>
    intro n k B σ μ hk hn h hW hT
    obtain ⟨n, rfl⟩ : ∃ k, n = k + 1 := ⟨n - 1, by omega⟩
    show Sr Rel (m_P_times_B46 (m_P_times_L46 n) σ _ _) (m_M_times_B42 (m_M_times_L42 n) μ _ _)
    unfold m_P_times_B46 m_M_times_B42
    rw [ile (by omega) (by omega), ile (by omega) (by omega), if_neg (by omega), if_neg (by omega), ad_1]
    refine (a_keep h hW (by omega)).bnd (fun _ σ μ h => ?_)
    obtain ⟨σ', e1, r1, f1⟩ := x_turn h.2.1 hW
    obtain ⟨μ', e2, r2, f2⟩ := m_passes hw6 h.2.2 hW
    rw [e1, e2, bnd_s, bnd_s]
    have ht := trn_time B
    exact ih n (k + 1) (trn B) σ' μ' (by omega) (by omega) ⟨h.1.brd (fun a ha => f1 a (by omega)) (fun a a6 _ => f2 a a6) ⟨trn B, r1, r2, hW.trn, by omega⟩, r1, r2⟩ hW.trn (by omega)
theorem a_times (x : Int32) {σ μ : St} (h : Rel σ μ) : Sr Rel (m_P_times σ x) (m_M_times μ x) := by
  obtain ⟨B, hR, hM, hW, hT⟩ := id h.2.2.2.2.2.1
  unfold m_P_times m_M_times
  rw [x_stands hR hW, bnd_s, m_isMap hM hW, bnd_s]
  refine sr_if (fun _ => Sr.fin h) (fun hp => ?_)
  rw [within_n, in_n, bnd_s, bnd_s]
  refine sr_if (fun _ => Sr.fin h) (fun hq => ?_)
  have h0 : (0 : Int32) ≤ x ∧ x ≤ nI 24 := by
    have z1 := Int32.le_iff_toInt_le.mp hq.1
    rw [show (1 : Int32).toInt = 1 from rfl] at z1
    refine ⟨Int32.le_iff_toInt_le.mpr ?_, hq.2⟩
    rw [show (0 : Int32).toInt = 0 from rfl]
    omega
  obtain ⟨N, hN, rfl⟩ := (le_iff (by omega)).mp h0
  rw [li_3, hw6, bd_n (by omega) (by omega), cl_n (by omega), hM.2.2.2.1, hR.1 3 (by omega), ad_n, li_9999, ile (by omega) (by omega), ile (by omega) (by omega), li_0]
  refine sr_ite (fun hc => ?_) (fun _ => Sr.fin h)
  exact a_times_l hN N FU 0 B σ μ (by omega) (fu_lt (by omega)) ⟨h, hR, hM⟩ hW (by omega)
theorem a_undo {σ μ : St} (h : Rel σ μ) : Sr Rel (m_P_undo σ) (m_M_undo μ) := by
  obtain ⟨n, o, a1, a2, a3, a4, a5, a6⟩ := id h.2.2.2.2.2.2.1
  unfold m_P_undo m_M_undo m_Past_giveBack
  rw [a3, a5, li_1, li_0, ile (by omega) (by omega), ile (by omega) (by omega), ieq (by omega) (by omega)]
  by_cases hn : n = 0
  · rw [if_neg (by omega), if_pos hn]
    exact Sr.fin h
  · obtain ⟨k, rfl⟩ : ∃ k, n = k + 1 := ⟨n - 1, by omega⟩
    rw [if_pos (by omega), if_neg hn, if_neg (by omega), sb_n (by omega), Nat.add_sub_cancel]
    simp only [nmS_e]
    rw [up_n (i := 0) (j := 1) (by omega), up_s, up_s, a4, ad_n, li24, rm_n (by omega) (by omega) (by omega), nz_n (by omega) (by omega), bd_n (by omega) (by omega), cl_n (by omega)]
    have gq : gPast ((o + k) % 24) = 49 + 7 * ((o + k) % 24) := rfl
    obtain ⟨B', q1, q2, q3, q4⟩ := a6 k (by omega)
    have q1' : RB (up σ 16 0 (nI k)) (gPast ((o + k) % 24)) B' := q1.kept (fun a ha hb => up_o (by omega))
    obtain ⟨σ', e1, r1, f1⟩ := x_take (b := 21) q1' q3 (by omega)
    rw [e1, bnd_s, bnd_s, li_64, mu_n]
    obtain ⟨μ1, e, f, g⟩ := m_copies (w1 := 9) (w2 := 6) (a := 64 * k) (c := 0) (by show 64 * k + 64 ≤ 1536; omega) (by show 0 + 64 ≤ 64; omega) (by decide) (by decide) (by decide) (up μ 0 17 (nI k))
    rw [e, bnd_s, f 0 (by omega), up_s, f1 16 (by omega), up_s]
    have h1 : Rel (up σ 16 0 (nI k)) (up μ 0 17 (nI k)) := h.pasts (fun a ha _ => up_o ha) (fun a a0 _ => up_o a0) (fun i hi => up_n hi) ⟨k, o, by omega, a2, up_s, by rw [up_n (by omega)]; exact a4, up_s, fun j hj => (a6 j (by omega)).k (fun a ha hb => up_o (by unfold gPast at ha; omega)) (by rw [up_o (by omega)])⟩
    refine Sr.fin (h1.brd (fun a ha => f1 a (by omega)) (fun a a6 _ => f a a6) ⟨B', r1, q2.cg q3 (fun i hi => ?_), q3, q4⟩)
    rw [g i, if_pos (by omega), up_o (by omega)]
    rfl
theorem bit_iff {x : Int32} : ((0 : Int32) ≤ x ∧ x ≤ 1) ↔ ∃ r, r ≤ 1 ∧ x = nI r := le_iff (n := 1) (by omega)
theorem Rel.imgs {σ μ σ' μ' : St} (h : Rel σ μ) (hx : ∀ a, (a < 35 ∨ 49 ≤ a) → σ' a = σ a) (hm : ∀ a, a ≠ 10 → a ≠ 11 → μ' a = μ a) (hp : RImg σ' μ') : Rel σ' μ' := by
  obtain ⟨h1, h2, h3, h4, h5, h6, h7, h8⟩ := h
  have m0 := hm 0 (by omega) (by omega)
  have x0 := hx 0 (by omega)
  have x13 := hx 13 (by omega)
  refine ⟨h1.k (fun a _ _ _ => hx a (by omega)) (fun a _ _ => hm a (by omega) (by omega)), h2.k (by rw [x13]) (hx 14 (by omega)) (by rw [m0]) (hm 5 (by omega) (by omega)), by rw [x13, m0]; exact h3, by rw [x0, m0]; exact h4, h5.k (by rw [hx 18 (by omega)]) (hx 19 (by omega)) (by rw [m0]) (hm 15 (by omega) (by omega)), h6.k (fun a _ _ => hx a (by omega)) (hm 6 (by omega) (by omega)), h7.k (hx 16 (by omega)) (fun a _ => hx a (by omega)) (by rw [m0]) (hm 9 (by omega) (by omega)), hp⟩
theorem a_image (x : Int32) {σ μ : St} (h : Rel σ μ) : Sr Rel (m_P_image σ x) (m_M_image μ x) := by
  obtain ⟨B, hR, hM, hW, hT⟩ := id h.2.2.2.2.2.1
  unfold m_P_image m_M_image
  rw [within_n, in_n, bnd_s, bnd_s]
  refine sr_if (fun _ => Sr.fin h) (fun hq => ?_)
  obtain ⟨k, hk, rfl⟩ := bit_iff.mp hq
  rw [x_stands hR hW, bnd_s, m_isMap hM hW, bnd_s]
  refine sr_if (fun _ => Sr.fin h) (fun hp => ?_)
  have gk : gImg k = 35 + 7 * k := rfl
  rw [bd_n (by omega) (by omega), cl_n (by omega)]
  obtain ⟨σ', e1, r1, f1⟩ := x_take (b := gImg k) hR hW (by omega)
  obtain ⟨μ1, e, f, g⟩ := m_copies (w1 := 6) (w2 := 10) (a := 0) (c := 64 * k) (by show 0 + 64 ≤ 64; omega) (by show 64 * k + 64 ≤ 128; omega) (by decide) (by decide) (by decide) μ
  rw [e1, bnd_s, li_64, mu_n, li_0, e, bnd_s, bd_n (by omega) (by omega), vB_1, nmS_e]
  refine Sr.fin (h.imgs (fun a ha => f1 a (by omega)) (fun a h0 h1 => by rw [up_o h1, f a h0]) (fun j hj => ?_))
  have gj : gImg j = 35 + 7 * j := rfl
  rw [up_o (a' := 10) (by omega), up_v]
  by_cases ej : j = k
  · subst ej
    rw [if_pos ⟨rfl, rfl⟩]
    refine Or.inr ⟨rfl, B, r1, hM.cg hW (fun i hi => ?_), hW, hT, hp⟩
    rw [g, if_pos (by omega)]
    congr 1
    omega
  · rw [if_neg (fun z => ej z.2), f1 (gImg j) (by omega), f 11 (by omega)]
    rcases h.2.2.2.2.2.2.2 j hj with z | ⟨z, B', z1, z2, z3, z4⟩
    · exact Or.inl z
    · refine Or.inr ⟨z, B', z1.kept (fun a ha hb => f1 a (by omega)), z2.cg z3 (fun i hi => ?_), z3, z4⟩
      rw [g, if_neg (by omega)]
theorem a_restore (x : Int32) {σ μ : St} (h : Rel σ μ) : Sr Rel (m_P_restore σ x) (m_M_restore μ x) := by
  unfold m_P_restore m_M_restore m_Past_forget
  rw [within_n, in_n, bnd_s, bnd_s]
  refine sr_if (fun _ => Sr.fin h) (fun hq => ?_)
  obtain ⟨k, hk, rfl⟩ := bit_iff.mp hq
  have gk : gImg k = 35 + 7 * k := rfl
  have hb : ∀ t : Rt, bd (nI k) 2 t = t := fun t => bd_n (by omega) (by omega)
  simp only [hb]
  rw [cl_n (by omega)]
  rcases h.2.2.2.2.2.2.2 k (by omega) with ⟨z1, z2⟩ | ⟨z, B, z1, z2, z3, z4, z5⟩
  · have es : m_Board_stands (gImg k) σ = some (0, σ) := by
      unfold m_Board_stands
      rw [z1, if_pos (by decide), vB_0]
    rw [es, bnd_s, if_pos rfl, z2, if_pos rfl]
    exact Sr.fin h
  · rw [x_stands z1 z3, bnd_s, if1 z5, z, if_neg (by decide)]
    obtain ⟨σ', e1, r1, f1⟩ := x_take (b := 21) z1 z3 (by omega)
    obtain ⟨μ1, e, f, g⟩ := m_copies (w1 := 10) (w2 := 6) (a := 64 * k) (c := 0) (by show 64 * k + 64 ≤ 128; omega) (by show 0 + 64 ≤ 64; omega) (by decide) (by decide) (by decide) μ
    rw [e1, bnd_s, li_64, mu_n, li_0, e, bnd_s, nmS_e, nmS_e, bnd_s]
    have h1 : Rel σ' μ1 := h.brd (fun a ha => f1 a (by omega)) (fun a a6 _ => f a a6) ⟨B, r1, z2.cg z3 (fun i hi => by rw [g i, if_pos (by omega)]; rfl), z3, z4⟩
    obtain ⟨n, o, a1, a2, a3, a4, a5, a6⟩ := id h1.2.2.2.2.2.2.1
    exact Sr.fin (h1.pasts (fun a ha _ => up_o ha) (fun a a0 _ => up_o a0) (fun i hi => up_n hi) ⟨0, o, by omega, a2, up_s, by rw [up_n (by omega)]; exact a4, up_s, fun j hj => absurd hj (by omega)⟩)
