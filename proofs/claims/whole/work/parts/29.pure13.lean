/-! pure: fits, drawn, right by day and night -/
theorem a_fits_l {A : Bt} (hWA : WF A) {p r i N w T : Nat} (hp : p < A 0 1) (hr : r < 8) (hN : N ≤ 12) (hi : i + N ≤ 40) (hw : w ≤ 3) (hT : T = if w = 0 then 5 else if w = 1 then 15 else A 0 0 - 1) : ∀ (m n v : Nat) (s : Int32) (σ μ : St), RelB A σ μ → (w = 0 → 1 ≤ v) → v + m = T + 1 → m < n → ∃ (b : Int32) (σ' μ' : St), m_Fore_fitting_L21 (gIt r) n σ (nI p) (nI w) (nI i) (nI N) s (nI T) (nI v) = some (b, σ') ∧ m_M_fits_L85 n μ (nI p) (nI r) (nI i) (nI N) (nI w) s (nI v) = m_M_fits_B162 μ' b ∧ RelB A σ' μ' := by
  have w0 := hWA.1
  have w1 := hWA.2.1
  have hc1 := hWA.home hp
  have hT15 : T ≤ 15 := by
    rw [hT]
    split
    · omega
    · split <;> omega
  have e85 : ∀ (n : Nat) (s : Int32) (v : Nat) (μ : St) (σ : St), RelB A σ μ → m_M_fits_L85 (n + 1) μ (nI p) (nI r) (nI i) (nI N) (nI w) s (nI v) = m_M_fits_B115 (m_M_fits_L85 n) μ (nI p) (nI r) (nI i) (nI N) (nI w) s (nI v) (nI T) (nI v) := by
    intro n s v μ σ h
    show m_M_fits_B85 (m_M_fits_L85 n) μ _ _ _ _ _ _ _ = _
    unfold m_M_fits_B85
    rw [hT, li_0, li_1, ieq (by omega) (by omega), ieq (by omega) (by omega)]
    by_cases h0 : w = 0
    · rw [if_pos h0, if_pos h0]
      rfl
    · rw [if_neg h0, if_neg h0]
      by_cases h1 : w = 1
      · rw [if_pos h1, if_pos h1]
        rfl
      · rw [if_neg h1, if_neg h1, hw6, bd_n (by omega) (by omega), cl_n (by omega), h.2.2.2.1, sb_n (by omega)]
  intro m
  induction m with
  | zero =>
    intro n v s σ μ h hv1 hv hn
    obtain ⟨n, rfl⟩ : ∃ k, n = k + 1 := ⟨n - 1, by omega⟩
    refine ⟨s, σ, μ, ?_, ?_, h⟩
    · show m_Fore_fitting_B21 (gIt r) (m_Fore_fitting_L21 (gIt r) n) σ _ _ _ _ _ _ _ = _
      unfold m_Fore_fitting_B21
      rw [ilt (by omega) (by omega), if_pos (by omega)]
    · rw [e85 n s v μ σ h]
      unfold m_M_fits_B115
      rw [ilt (by omega) (by omega), if_pos (by omega)]
  | succ m ih =>
    intro n v s σ μ h hv1 hv hn
    obtain ⟨n, rfl⟩ : ∃ k, n = k + 1 := ⟨n - 1, by omega⟩
    rw [e85 n s v μ σ h]
    show ∃ b σ' μ', m_Fore_fitting_B21 (gIt r) (m_Fore_fitting_L21 (gIt r) n) σ _ _ _ _ _ _ _ = _ ∧ _
    unfold m_M_fits_B115 m_Fore_fitting_B21 m_Fore_fitting_B69 m_M_fits_B153
    have hvT : ¬ T < v := by omega
    rw [ilt (by omega) (by omega), if_neg hvT, ilt (by omega) (by omega), if_neg hvT]
    have hv0 : w = 0 → 1 ≤ v ∧ v ≤ 5 := fun e => ⟨hv1 e, by rw [e, if_pos rfl] at hT; omega⟩
    have hv2 : 2 ≤ w → v < A 0 0 := fun e => by rw [if_neg (by omega), if_neg (by omega)] at hT; omega
    obtain ⟨x, σ1, μ1, e1, e2, B, hB, c1⟩ := a_try hWA hp hw hv0 (fun _ => by omega) hv2 h
    rw [← bnd_bnd, e1, e2, bnd_s, bnd_s]
    unfold m_Fore_tells m_M_isSeen
    have eq40 : (40 : Int32) * nI r + nI i = nI (40 * r + i) := by rw [li_40, mu_n, ad_n]
    obtain ⟨y, σ2, μ2, e3, e4, hB2⟩ := a_seen hp hr hN hi N FU 0 B B σ1 μ1 ⟨hB.1, hB.2.1, hB.2.2.1, hB.2.2.2, hB.2.2.2, Dq.rf B⟩ c1 (by omega) (fu_lt (by omega))
    rw [eq40, li_0, e3, e4, bnd_s, bnd_s, ad_1, ← li_0]
    simp only [nm_i]
    by_cases hy : y = 0
    · rw [if_pos hy, if_pos hy, or_0]
      exact ih n (v + 1) s σ2 μ2 hB2 (fun e => by omega) (by omega) (by omega)
    · rw [if_neg hy, if_neg hy]
      exact ih n (v + 1) _ σ2 μ2 hB2 (fun e => by omega) (by omega) (by omega)
theorem within_1 {x : Int32} {n : Nat} (hn : n < 2147483647) : ((1 : Int32) ≤ x ∧ x ≤ nI n) ↔ ∃ j, 1 ≤ j ∧ j ≤ n ∧ x = nI j := by
  constructor
  · rintro ⟨h1, h2⟩
    have z1 := Int32.le_iff_toInt_le.mp h1
    rw [show (1 : Int32).toInt = 1 from rfl] at z1
    have h0 : (0 : Int32) ≤ x := Int32.le_iff_toInt_le.mpr (by rw [show (0 : Int32).toInt = 0 from rfl]; omega)
    obtain ⟨j, hj, rfl⟩ := (le_iff hn).mp ⟨h0, h2⟩
    rw [nI_toInt (by omega)] at z1
    exact ⟨j, by omega, hj, rfl⟩
  · rintro ⟨j, h1, h2, rfl⟩
    exact ⟨by rw [li_1, le_n (by omega) (by omega)]; exact h1, by rw [le_n (by omega) (by omega)]; exact h2⟩
theorem a_fits (x1 x2 x3 x4 x5 : Int32) {σ μ : St} (h : Rel σ μ) : Sr Rel (m_P_fits σ x1 x2 x3 x4 x5) (m_M_fits μ x1 x2 x3 x4 x5) := by
  obtain ⟨A, hR, hM, hW, hT⟩ := id h.2.2.2.2.2.1
  unfold m_P_fits m_M_fits m_P_fits_B26 m_P_fits_B27
  simp only [if_true]
  rw [x_hasPin hR hW, bnd_s, m_isPin hM hW, bnd_s]
  refine sr_if (fun _ => Sr.fin h) (fun hp => ?_)
  obtain ⟨p, hp, rfl⟩ := hp
  rw [x_isRow, m_isRow, bnd_s, bnd_s]
  refine sr_if (fun _ => Sr.fin h) (fun hr => ?_)
  obtain ⟨r, hr, rfl⟩ := hr
  rw [if_neg (show ¬ (1 : Int32) = 0 by decide), within_n, in_n, bnd_s, bnd_s]
  refine sr_if (fun _ => Sr.fin h) (fun hq => ?_)
  rw [li_12, within_1 (by omega)] at hq
  obtain ⟨N, hN1, hN, rfl⟩ := hq
  rw [within_n, in_n, bnd_s, bnd_s]
  refine sr_if (fun _ => Sr.fin h) (fun hq => ?_)
  rw [li_3, le_iff (by omega)] at hq
  obtain ⟨w, hw, rfl⟩ := hq
  obtain ⟨t, ht, e1, e2, hl⟩ := a_missing h hr
  rw [e1, e2, bnd_s, bnd_s]
  refine sr_ite (fun h0 => ?_) (fun _ => sr_find h 1)
  obtain ⟨_, ⟨n, hn, s3, m2⟩, hit⟩ := h.1 r hr
  rw [x_places hr s3 hn, m_part hr m2 hn, bnd_s, bnd_s]
  refine sr_if (fun _ => sr_find h 2) (fun hpl => ?_)
  obtain ⟨i, k, hik, rfl, hk⟩ := hpl
  have hkb : k < 2147483648 := by omega
  rw [eq_n (by omega) hkb] at hk
  subst hk
  rw [bd_n (by omega) (by omega), cl_n (by omega)]
  unfold m_Fore_fitting m_Fore_mostSupposed m_Fore_fitting_B19 m_M_fits_B83
  have w0 := hW.1
  have hc1 := hW.home hp
  have em : (if nI w = (0 : Int32) then some ((5 : Int32), σ) else (if nI w = (1 : Int32) then some ((15 : Int32), σ) else some ((σ 21 0) - (1 : Int32), σ))) = some (nI (if w = 0 then 5 else if w = 1 then 15 else A 0 0 - 1), σ) := by
    rw [li_0, li_1, ieq (by omega) (by omega), ieq (by omega) (by omega)]
    by_cases h0 : w = 0
    · rw [if_pos h0, if_pos h0]
      rfl
    · rw [if_neg h0, if_neg h0]
      by_cases h1 : w = 1
      · rw [if_pos h1, if_pos h1]
        rfl
      · rw [if_neg h1, if_neg h1, hR.1 0 (by omega), sb_n (by omega)]
  rw [em, bnd_s]
  have go : ∀ v : Nat, (w = 0 → 1 ≤ v) → v ≤ 1 → (w ≠ 0 → v = 0) → Sr Rel (bnd (m_Fore_fitting_L21 (gIt r) FU σ (nI p) (nI w) (nI i) (nI N) (0 : Int32) (nI (if w = 0 then 5 else if w = 1 then 15 else A 0 0 - 1)) (nI v)) (fun v9 σ10 => bnd (m_P_foundNothing σ10 v9) (fun v11 σ12 => some (v11, σ12)))) (m_M_fits_L85 FU μ (nI p) (nI r) (nI i) (nI N) (nI w) (0 : Int32) (nI v)) := by
    intro v hv1 hv hv0
    have hT : v ≤ (if w = 0 then 5 else if w = 1 then 15 else A 0 0 - 1) + 1 := by omega
    have hT2 : (if w = 0 then 5 else if w = 1 then 15 else A 0 0 - 1) ≤ 15 := by
      split
      · omega
      · split <;> omega
    obtain ⟨b, σ', μ', q1, q2, q3⟩ := a_fits_l hW hp hr hN (show i + N ≤ 40 by omega) hw rfl ((if w = 0 then 5 else if w = 1 then 15 else A 0 0 - 1) + 1 - v) FU v 0 σ μ ⟨h, hR, hM⟩ hv1 (by omega) (fu_lt (by omega))
    rw [q1, q2, bnd_s]
    exact sr_well q3.1 b
  by_cases h0 : w = 0
  · rw [if_pos (show nI w = 0 by rw [h0]; rfl), if_pos (show nI w = 0 by rw [h0]; rfl)]
    exact go 1 (fun _ => by omega) (by omega) (fun z => absurd h0 z)
  · have hn0 : ¬ nI w = 0 := by
      rw [li_0, eq_n (by omega) (by omega)]
      exact h0
    rw [if_neg hn0, if_neg hn0]
    exact go 0 (fun z => absurd z h0) (by omega) (fun _ => rfl)
theorem i64_n {n : Nat} (h : n < 2147483648) : (nI n).toInt64 = lN n := nI_l h
theorem a_drawn_l {A : Bt} {N : Nat} (hN : N ≤ 30) (x3 : Int32) : ∀ (m n k y : Nat) (B B' : Bt) (σ μ : St), RelD A B B' σ μ → B 0 1 = A 0 1 → B 0 0 = A 0 0 → B' 0 5 = B 0 5 → B' 0 4 = B 0 4 → y < 2147483647 → k + m = N → m < n → ∃ (B B' : Bt) (σ' μ' : St), m_Fore_drawYears_L25 n σ (nI N) (lN y) (nI k) = some (0, σ') ∧ m_M_drawn_L69 n μ (nI N) x3 (lN y) (nI k) = m_M_drawn_B158 μ' x3 ∧ RelD A B B' σ' μ' ∧ B 0 1 = A 0 1 ∧ B' 0 5 = B 0 5 ∧ B' 0 4 = B 0 4 := by
  intro m
  induction m with
  | zero =>
    intro n k y B B' σ μ h c1 c0 d5 d4 hy hk hn
    obtain ⟨n, rfl⟩ : ∃ k, n = k + 1 := ⟨n - 1, by omega⟩
    refine ⟨B, B', σ, μ, ?_, ?_, h, c1, d5, d4⟩
    · show m_Fore_drawYears_B25 (m_Fore_drawYears_L25 n) σ _ _ _ = _
      unfold m_Fore_drawYears_B25
      rw [ile (by omega) (by omega), if_pos (by omega)]
    · show m_M_drawn_B69 (m_M_drawn_L69 n) μ _ _ _ _ = _
      unfold m_M_drawn_B69
      rw [ile (by omega) (by omega), if_pos (by omega)]
  | succ m ih =>
    intro n k y B B' σ μ h c1 c0 d5 d4 hy hk hn
    obtain ⟨n, rfl⟩ : ∃ k, n = k + 1 := ⟨n - 1, by omega⟩
    obtain ⟨hB, hR, hM, hW, hW', hD⟩ := h
    have w0 := hW.1
    have w1 := hW.2.1
    have w5 := hW.2.2.2.2.1
    show ∃ B B' σ' μ', m_Fore_drawYears_B25 (m_Fore_drawYears_L25 n) σ _ _ _ = _ ∧ m_M_drawn_B69 (m_M_drawn_L69 n) μ _ _ _ _ = _ ∧ _
    unfold m_Fore_drawYears_B25 m_M_drawn_B69 m_Fore_drawYears_B114 m_M_drawn_B148
    rw [ile (by omega) (by omega), if_neg (show ¬ N ≤ k by omega), ile (by omega) (by omega), if_neg (show ¬ N ≤ k by omega)]
    have nzl_n : ∀ (b : Nat) (t : Rt), 0 < b → b < 2 ^ 63 → nzl (lN b) t = t := fun b t h0 h1 => by
      unfold nzl
      rw [if_neg]
      intro z
      have := (pk_lEQ (b := 0) h1 (by omega)).mp z
      omega
    have l1 : (2147483647 : Int64) = lN 2147483647 := rfl
    have l2 : (16807 : Int64) = lN 16807 := rfl
    have l3 : (16 : Int64) = lN 16 := rfl
    rw [l1, l2, l3]
    have b1 : y * 16807 < 2 ^ 63 := Nat.lt_of_lt_of_le (Nat.mul_lt_mul_of_pos_right hy (by decide)) (by decide)
    simp only [lN_mul, pk_lRem b1 (show 0 < 2147483647 by decide) (show 2147483647 < 2 ^ 63 by decide), nzl_n 2147483647 _ (by decide) (by decide), nzl_n 16 _ (by decide) (by decide), nml_e]
    have hY : y * 16807 % 2147483647 < 2147483647 := Nat.mod_lt _ (by decide)
    generalize y * 16807 % 2147483647 = Y at hY ⊢
    have h16 : Y % 16 < 16 := Nat.mod_lt _ (by decide)
    rw [pk_lRem (show Y < 2 ^ 63 by omega) (by decide) (by decide), lN_i]
    have hb0 : ∀ t : Rt, bd (0 : Int32) 64 t = t := fun t => bd_n (n := 0) (by omega) (by omega)
    have hb1 : ∀ t : Rt, bd (1 : Int32) 64 t = t := fun t => bd_n (n := 1) (by omega) (by omega)
    have hb2 : ∀ t : Rt, bd (2 : Int32) 64 t = t := fun t => bd_n (n := 2) (by omega) (by omega)
    have hb4 : ∀ t : Rt, bd (4 : Int32) 64 t = t := fun t => bd_n (n := 4) (by omega) (by omega)
    have q0 : (0 : Int32).toNatClampNeg = 0 := rfl
    have q1 : (1 : Int32).toNatClampNeg = 1 := rfl
    have q2 : (2 : Int32).toNatClampNeg = 2 := rfl
    have q4 : (4 : Int32).toNatClampNeg = 4 := rfl
    rw [hw6, hw8]
    simp only [hb0, hb1, hb2, hb4, nmS_e, q0, q1, q2, q4]
    have hR1 := hR.up0 2 (Y % 16) (by omega)
    have hM1 : RM ((up μ 8 0 (nI (Y % 16))) 8) (ub B' 0 2 (Y % 16)) (plc B') := by
      rw [up_row]
      exact hM.u0 _
    have hW1 := hW.slp (show Y % 16 ≤ 15 by omega)
    have hW1' := hW'.slp (show Y % 16 ≤ 15 by omega)
    have hD1 : Dq (ub B 0 2 (Y % 16)) (ub B' 0 2 (Y % 16)) := hD.both 0 2 _
    have hB1 : RelB A (up σ 28 2 (nI (Y % 16))) (up μ 8 0 (nI (Y % 16))) := hB.t8 (fr0 σ 28 2 _) (frM 8 μ _ _)
    have hM1 : RM ((up μ 8 0 (nI (Y % 16))) 8) (ub B' 0 2 (Y % 16)) (plc (ub B' 0 2 (Y % 16))) := hM1
    have c1' : ub B 0 2 (Y % 16) 0 1 = A 0 1 := c1
    have c0' : ub B 0 2 (Y % 16) 0 0 = A 0 0 := c0
    have d5' : ub B' 0 2 (Y % 16) 0 5 = ub B 0 2 (Y % 16) 0 5 := d5
    have d4' : ub B' 0 2 (Y % 16) 0 4 = ub B 0 2 (Y % 16) 0 4 := d4
    generalize up σ 28 2 (nI (Y % 16)) = σ1 at hR1 hB1 ⊢
    generalize up μ 8 0 (nI (Y % 16)) = μ1 at hM1 hB1 ⊢
    generalize ub B 0 2 (Y % 16) = B1 at hR1 hW1 hD1 c1' c0' d5' d4'
    generalize ub B' 0 2 (Y % 16) = B1' at hM1 hW1' hD1 d5' d4'
    have w0 := hW1.1
    have w1 := hW1.2.1
    have w5 := hW1.2.2.2.2.1
    have go : ∀ (B B' : Bt) (σ μ : St), RelD A B B' σ μ → B 0 1 = A 0 1 → B 0 0 = A 0 0 → B' 0 5 = B 0 5 → B' 0 4 = B 0 4 → ∃ (B B' : Bt) (σ' μ' : St), (bnd (m_Board_openAndWork 28 σ) (fun v1 σ2 => m_Fore_drawYears_L25 n σ2 (nI N) (lN Y) (nI k + (1 : Int32)))) = some (0, σ') ∧ (bnd (m_M_toOpening μ) (fun v1 σ2 => m_M_drawn_L69 n σ2 (nI N) x3 (lN Y) (nI k + (1 : Int32)))) = m_M_drawn_B158 μ' x3 ∧ RelD A B B' σ' μ' ∧ B 0 1 = A 0 1 ∧ B' 0 5 = B 0 5 ∧ B' 0 4 = B 0 4 := by
      intro B B' σ μ h c1 c0 d5 d4
      obtain ⟨hB, hR, hM, hW, hW', hD⟩ := h
      obtain ⟨σ1, e1, r1, f1⟩ := x_work hR hW
      obtain ⟨μ1, e2, r2, f2⟩ := m_toOp hM hW'
      obtain ⟨t1, t2, t3, t4⟩ := tOp_D hW'
      rw [e1, e2, bnd_s, bnd_s, ad_1]
      have ho : ∀ j, j ≤ 1 → wrkB B 0 j = B 0 j := fun j hj => by
        unfold wrkB
        rw [ub_v, if_neg (by omega), opn_dim B 0 j (by omega)]
      exact ih n (k + 1) Y (wrkB B) (tOp B') σ1 μ1 ⟨hB.t8 f1 f2, r1, r2, hW.wrk, t4, (wrk_D hD).tr t1⟩ (by rw [ho 1 (by omega)]; exact c1) (by rw [ho 0 (by omega)]; exact c0) (by rw [t3, wrk_5]) (by rw [t2, wrk_4 hD d4]) hY (by omega) (by omega)
    rw [hR1.1 5 (by omega), hM1.2.2.2.2.1, d5', hR1.1 1 (by omega), hR1.1 0 (by omega), hB1.2.2.2.2.1, hB1.2.2.2.1, c1', c0', li_0, li_1, ieq (by omega) (by omega), ieq (by omega) (by omega), ile (by omega) (by omega), ile (by omega) (by omega), ile (by omega) (by omega)]
    by_cases hd : B1 0 5 = 0
    · rw [if_pos hd, if_neg (show ¬ B1 0 5 = 1 by omega)]
      exact go B1 B1' σ1 μ1 ⟨hB1, hR1, hM1, hW1, hW1', hD1⟩ c1' c0' d5' d4'
    · rw [if_neg hd, if_pos (show B1 0 5 = 1 by omega)]
      by_cases hp : A 0 1 ≤ 0
      · rw [if_pos hp, if_pos hp]
        exact go B1 B1' σ1 μ1 ⟨hB1, hR1, hM1, hW1, hW1', hD1⟩ c1' c0' d5' d4'
      · rw [if_neg hp, if_neg hp]
        have hc := hW1.last (p := 0) (by omega)
        rw [if_neg (by omega), i64_n (by omega), i64_n (by omega), nzl_n _ _ (by omega) (by omega), nzl_n _ _ (by omega) (by omega), nzl_n _ _ (by omega) (by omega), nzl_n _ _ (by omega) (by omega), pk_lRem (by omega) (by omega) (by omega), pk_lRem (by omega) (by omega) (by omega), lN_i, lN_i]
        have hp' : Y % A 0 1 < A 0 1 := Nat.mod_lt _ (by omega)
        have hc' : Y % A 0 0 < A 0 0 := Nat.mod_lt _ (by omega)
        rw [bd_n (by omega) (by omega), cl_n (by omega)]
        obtain ⟨μ2, e, r, f⟩ := m_lays hw8 hM1 hW1' (p := Y % A 0 1) (c := Y % A 0 0) (by rw [hD1.d1]; omega)
        rw [e, bnd_s]
        have d5'' : B1' 0 5 = 1 := by omega
        refine go (ub B1 6 (Y % A 0 1) (Y % A 0 0)) (ub B1' 6 (Y % A 0 1) (Y % A 0 0)) _ _ ⟨hB1.t8 (frA σ1 28 6 _ _ (by omega)) f, hR1.upA 6 _ _ (by omega) (by omega), r.cv (fun q hq => ?_), hW1.ub6 (fun _ => by omega), hW1'.ub6 (fun _ => by rw [hD1 0 0 (by omega)]; omega), hD1.both 6 _ _⟩ c1' c0' d5' d4'
        rw [plc_day (show ub B1' 6 (Y % A 0 1) (Y % A 0 0) 0 5 = 1 from d5''), ub_v, plc_day d5'']
        by_cases e : q = Y % A 0 1
        · rw [if_pos ⟨rfl, e⟩, if_pos e]
        · rw [if_neg (fun z => e z.2), if_neg e]
theorem home_D {B B' : Bt} (hD : Dq B B') (h5 : B' 0 5 = B 0 5) : bset (fun q => decide (plc B' q = nI (B' 2 q))) (B' 0 1) = bset (fun q => decide (plc B q = nI (B 2 q))) (B 0 1) := by
  rw [hD.d1]
  refine bset_congr (fun q hq => ?_)
  unfold plc
  rw [h5, hD 5 q (by omega), hD 6 q (by omega), hD 2 q (by omega)]
theorem a_drawn (x1 x2 x3 : Int32) {σ μ : St} (h : Rel σ μ) : Sr Rel (m_P_drawn σ x1 x2 x3) (m_M_drawn μ x1 x2 x3) := by
  obtain ⟨A, hR, hM, hW, hT⟩ := id h.2.2.2.2.2.1
  unfold m_P_drawn m_M_drawn m_Fore_drawYears
  rw [x_stands hR hW, bnd_s, m_isMap hM hW, bnd_s]
  refine sr_if (fun _ => Sr.fin h) (fun hs => ?_)
  rw [within_n, in_n, bnd_s, bnd_s]
  refine sr_if (fun _ => Sr.fin h) (fun hq => ?_)
  rw [li_30, le_iff (by omega)] at hq
  obtain ⟨N, hN, rfl⟩ := hq
  rw [within_n, in_n, bnd_s, bnd_s]
  refine sr_if (fun _ => Sr.fin h) (fun hq => ?_)
  rw [li_999999, within_1 (by omega)] at hq
  obtain ⟨y, hy1, hy, rfl⟩ := hq
  rw [within_n, in_n, bnd_s, bnd_s]
  refine sr_if (fun _ => Sr.fin h) (fun hq => ?_)
  rw [bnd_bnd]
  refine (a_take ⟨h, hR, hM⟩ hW).bnd (fun _ σ μ h => ?_)
  have hb5 : ∀ t : Rt, bd (5 : Int32) 64 t = t := fun t => bd_n (n := 5) (by omega) (by omega)
  rw [hw8]
  simp only [hb5, nmS_e, nml_e]
  rw [i64_n (by omega), show (5 : Int32).toNatClampNeg = 5 from rfl, show (0 : Int32) = nI 0 from rfl]
  have hWe : WF (ub A 0 4 0) := by
    obtain ⟨w0, w1, w2, w4, w5, w6, w7⟩ := hW
    exact ⟨w0, w1, w2, Nat.zero_le _, w5, w6, w7⟩
  have hMe : RM ((up μ 8 5 (nI 0)) 8) (ub A 0 4 0) (plc (ub A 0 4 0)) := by
    rw [up_row]
    exact h.2.2.1.u5 0
  obtain ⟨B, B', σ', μ', e1, e2, hD, c1, d5, d4⟩ := a_drawn_l (A := A) hN x3 N FU 0 y (ub A 0 4 0) (ub A 0 4 0) (up σ 28 4 (nI 0)) (up μ 8 5 (nI 0)) ⟨h.1.t8 (fr0 σ 28 4 _) (frM 8 μ _ _), h.2.1.up0 4 0 (by omega), hMe, hWe, hWe, Dq.rf _⟩ rfl rfl rfl rfl (by omega) (by omega) (fu_lt (by omega))
  rw [e1, e2]
  unfold m_M_drawn_B158
  obtain ⟨hB, hR2, hM2, hW2, hW2', hDD⟩ := hD
  rw [← li_0, li_0, bnd_s, ← li_0]
  refine sr_ite (fun _ => ?_) (fun _ => ?_)
  · rw [hw8, hb5, show (5 : Int32).toNatClampNeg = 5 from rfl, hM2.2.2.2.2.2.1, hR2.1 4 (by omega), d4]
    exact Sr.fin hB.1
  · rw [x_home hR2 hW2, m_rights hw8 hM2 hW2', home_D hDD d5, bnd_s, bnd_s, bc_eq, bc_n _ (bset_7 _ hW2.2.1), m_ones μ' (bset_7 _ hW2.2.1), bnd_s, bnd_s]
    exact Sr.fin hB.1
