/-! pure: as, count, ask -/
theorem as_60 (σ : St) (x : Int32) : ∀ k, 1 ≤ k → k ≤ 5 → ∀ q, q ≤ 5 → (if nI q = 0 then m_M_as_B55 σ x else (if nI q = nI k then m_M_as_B55 σ x else (if nI q = (1 : Int32) then (if nI k < (4 : Int32) then m_M_as_B55 σ x else m_M_as_B45 σ x (nI q) (nI k)) else m_M_as_B45 σ x (nI q) (nI k)))) = m_M_as_B60 σ x (if nI q = 0 ∨ nI q = nI k ∨ (nI q = 1 ∧ (nI k = 2 ∨ nI k = 3)) ∨ (nI q = 4 ∧ nI k = 5) then 1 else 0) := by
  intro k h1 h2 q h3
  rcases (show k = 1 ∨ k = 2 ∨ k = 3 ∨ k = 4 ∨ k = 5 by omega) with rfl | rfl | rfl | rfl | rfl
  all_goals rcases (show q = 0 ∨ q = 1 ∨ q = 2 ∨ q = 3 ∨ q = 4 ∨ q = 5 by omega) with rfl | rfl | rfl | rfl | rfl | rfl
  all_goals simp (decide := true) [m_M_as_B55, m_M_as_B59, m_M_as_B45]
theorem a_as (x y : Int32) {σ μ : St} (h : Rel σ μ) : Sr Rel (m_P_as σ x y) (m_M_as μ x y) := by
  obtain ⟨B, hR, hM, hW, hT⟩ := id h.2.2.2.2.2.1
  unfold m_P_as m_M_as
  rw [x_hasPin hR hW, bnd_s, m_isPin hM hW, bnd_s]
  refine sr_if (fun _ => Sr.fin h) (fun hp => ?_)
  obtain ⟨p, hp, rfl⟩ := hp
  rw [within_n, in_n, bnd_s, bnd_s]
  refine sr_if (fun _ => Sr.fin h) (fun hq => ?_)
  rw [li_5, le_iff (by omega)] at hq
  obtain ⟨q, hq, rfl⟩ := hq
  have w1 := hW.2.1
  obtain ⟨v1, v2, v3, v4, v5, v6, v7⟩ := hW.2.2.2.2.2.2 p hp
  unfold m_M_kindIn
  rw [bd_n (by omega) (by omega), cl_n (by omega), hR.2.2 5 (by omega) (by omega) p hp, ix0, hw6, bd_n (by omega) (by omega), cl_n (by omega), bnd_s, (hM.2.2.2.2.2.2.2 p hp).1, isA_n, bnd_s, as_60 _ _ _ v5 v6 _ hq]
  unfold m_M_as_B60
  exact sr_if (fun _ => sr_find h 3) (fun _ => sr_well h _)
theorem a_missing {σ μ : St} (h : Rel σ μ) {r : Nat} (hr : r < 8) : ∃ t : Int32, (t = 0 ∨ t = 1) ∧ m_Rows_isMissing σ (nI r) = some (t, σ) ∧ m_M_isMissing μ (nI r) = some (t, μ) ∧ (t = 0 → ∃ l, l < 3 ∧ σ 2 r = nI l ∧ μ 1 r = nI l) := by
  have hh := (h.1 r hr).1
  unfold m_Rows_isMissing m_M_isMissing
  rw [bd_n (by omega) (by omega), show lenM 1 = 8 from rfl, bd_n (by omega) (by omega), cl_n (by omega)]
  rcases hh with ⟨a, b⟩ | ⟨l, hl, a, b⟩
  · refine ⟨1, Or.inr rfl, ?_, ?_, fun z => absurd z (by decide)⟩
    · rw [if_pos a, vB_1]
    · rw [if_pos b, vB_1]
  · refine ⟨0, Or.inl rfl, ?_, ?_, fun _ => ⟨l, hl, a, b⟩⟩
    · rw [a, if_neg, vB_0]
      intro z
      have := congrArg Int32.toInt z
      rw [nI_toInt (by omega), show (-1 : Int32).toInt = -1 from rfl] at this
      omega
    · rw [b, if_neg (neg_n (by omega)), vB_0]
theorem a_present {σ μ : St} (h : Rel σ μ) : ∀ (m n r : Nat) (a : Int32), r + m = 8 → m < n → Sr Rel (m_Rows_present_L4 n σ a (nI r)) (m_M_count_L58 n μ a (nI r)) := by
  intro m
  induction m with
  | zero =>
    intro n r a hr hn
    obtain ⟨n, rfl⟩ : ∃ k, n = k + 1 := ⟨n - 1, by omega⟩
    show Sr Rel (m_Rows_present_B4 (m_Rows_present_L4 n) σ a (nI r)) (m_M_count_B58 (m_M_count_L58 n) μ a (nI r))
    unfold m_Rows_present_B4 m_M_count_B58
    rw [li_8, ile (by omega) (by omega), ile (by omega) (by omega), if_pos (by omega), if_pos (by omega)]
    exact Sr.fin h
  | succ m ih =>
    intro n r a hr hn
    obtain ⟨n, rfl⟩ : ∃ k, n = k + 1 := ⟨n - 1, by omega⟩
    show Sr Rel (m_Rows_present_B4 (m_Rows_present_L4 n) σ a (nI r)) (m_M_count_B58 (m_M_count_L58 n) μ a (nI r))
    unfold m_Rows_present_B4 m_M_count_B58 m_Rows_present_B24 m_M_count_B78
    obtain ⟨t, ht, e1, e2, _⟩ := a_missing h (show r < 8 by omega)
    rw [li_8, ile (by omega) (by omega), ile (by omega) (by omega), if_neg (by omega), if_neg (by omega), e1, e2, bnd_s, bnd_s]
    simp only [nm_i]
    rw [li_1, ad_n]
    exact sr_ite (fun _ => ih n (r + 1) _ (by omega) (by omega)) (fun _ => ih n (r + 1) _ (by omega) (by omega))
theorem a_count (x : Int32) {σ μ : St} (h : Rel σ μ) : Sr Rel (m_P_count σ x) (m_M_count μ x) := by
  obtain ⟨B, hR, hM, hW, hT⟩ := id h.2.2.2.2.2.1
  obtain ⟨m0, m1, m2, m3, m4, m5, m6, m7⟩ := hM
  obtain ⟨n, _, t1, t2, _⟩ := id h.2.1
  obtain ⟨g, o, _, _, p1, _, p2, _⟩ := id h.2.2.2.2.2.2.1
  have w5 := hW.2.2.2.2.1
  unfold m_P_count m_M_count
  refine sr_ite (fun _ => ?_) (fun _ => ?_)
  · rw [bnd_id]
    exact a_present h 8 FU 0 0 (by omega) (fu_lt (by omega))
  refine sr_ite (fun _ => ?_) (fun _ => ?_)
  · rw [li_1, hw6, bd_n (by omega) (by omega), cl_n (by omega), m1, hR.1 0 (by omega)]
    exact Sr.fin h
  refine sr_ite (fun _ => ?_) (fun _ => ?_)
  · rw [li_2, hw6, bd_n (by omega) (by omega), cl_n (by omega), m2, hR.1 1 (by omega)]
    exact Sr.fin h
  refine sr_ite (fun _ => ?_) (fun _ => ?_)
  · rw [li_3, hw6, bd_n (by omega) (by omega), cl_n (by omega), m3, hR.1 3 (by omega)]
    exact Sr.fin h
  refine sr_ite (fun _ => ?_) (fun _ => ?_)
  · rw [li_4, hw6, bd_n (by omega) (by omega), cl_n (by omega), m4, hR.1 5 (by omega)]
    rcases (show B 0 5 = 0 ∨ B 0 5 = 1 by omega) with e | e
    · rw [e]
      exact Sr.fin h
    · rw [e]
      exact Sr.fin h
  refine sr_ite (fun _ => ?_) (fun _ => ?_)
  · rw [li_0, hw6, bd_n (by omega) (by omega), cl_n (by omega), m0, hR.1 2 (by omega)]
    exact Sr.fin h
  refine sr_ite (fun _ => ?_) (fun _ => ?_)
  · rw [li_5, hw6, bd_n (by omega) (by omega), cl_n (by omega), m5, hR.1 4 (by omega)]
    exact Sr.fin h
  refine sr_ite (fun _ => ?_) (fun _ => ?_)
  · rw [x_tray hR hW, m_inTray hw6 ⟨m0, m1, m2, m3, m4, m5, m6, m7⟩ hW, bnd_s, bnd_s]
    exact Sr.fin h
  refine sr_ite (fun _ => ?_) (fun _ => ?_)
  · rw [p1, p2]
    exact Sr.fin h
  refine sr_ite (fun _ => ?_) (fun _ => Sr.fin h)
  rw [t1, t2]
  exact Sr.fin h
/-- and the board is B -/
def RelB (B : Bt) (σ μ : St) : Prop := Rel σ μ ∧ RB σ 21 B ∧ RM (μ 6) B (plc B)
theorem RelB.k {B : Bt} {σ μ σ' μ' : St} (h : RelB B σ μ) (h1 : Rel σ' μ') (h2 : ∀ a, 21 ≤ a → a < 28 → σ' a = σ a) (h3 : μ' 6 = μ 6) : RelB B σ' μ' := ⟨h1, h.2.1.kept (fun a x y => h2 a x (by omega)), by rw [h3]; exact h.2.2⟩
theorem a_begin {B : Bt} {σ μ : St} (h : RelB B σ μ) : RelB B (up σ 18 1 0) (up μ 0 24 0) := by
  obtain ⟨h1, h2, h3, h4, h5, h6, h7, h8⟩ := h.1
  refine h.k ⟨h1.k (fun a _ _ _ => up_o (by omega)) (fun a _ _ => up_o (by omega)), h2.k (by rw [up_o (by omega)]) (up_o (by omega)) (up_n (by omega)) (up_o (by omega)), by rw [up_o (by omega), up_n (by omega)]; exact h3, by rw [up_o (by omega), up_n (by omega)]; exact h4, ⟨0, by omega, by rw [up_s]; rfl, by rw [up_s]; rfl, fun i hi => absurd hi (by omega)⟩, h6.k (fun a _ _ => up_o (by omega)) (up_o (by omega)), h7.k (up_o (by omega)) (fun a _ => up_o (by omega)) (up_n (by omega)) (up_o (by omega)), h8.k (fun a _ _ => up_o (by omega)) (up_o (by omega)) (up_o (by omega))⟩ (fun a _ _ => up_o (by omega)) (up_o (by omega))
theorem a_leave {B : Bt} {σ μ : St} (h : RelB B σ μ) (v : Int32) : Sr (RelB B) (m_Asks_leave σ v) (m_M_begins μ v) := by
  obtain ⟨h1, h2, h3, h4, h5, h6, h7, h8⟩ := id h.1
  obtain ⟨n, a1, a2, a3, a4⟩ := h5
  unfold m_Asks_leave m_M_begins
  rw [a2, a3, li_16, ile (by omega) (by omega), ile (by omega) (by omega)]
  by_cases hn : 16 ≤ n
  · rw [if_pos hn, if_pos hn]
    exact Sr.fin h
  · rw [if_neg hn, if_neg hn, bd_n (by omega) (by omega), show lenM 15 = 16 from rfl, bd_n (by omega) (by omega), cl_n (by omega)]
    simp only [nmS_e]
    rw [up_o (by omega), up_o (by omega), a2, a3, li_1, ad_n]
    refine Sr.fin (h.k ⟨h1.k (fun a _ _ _ => by rw [up_o (by omega), up_o (by omega)]) (fun a _ _ => by rw [up_o (by omega), up_o (by omega)]), h2.k (by rw [up_o (by omega), up_o (by omega)]) (by rw [up_o (by omega), up_o (by omega)]) (by rw [up_n (by omega), up_o (by omega)]) (by rw [up_o (by omega), up_o (by omega)]), ?_, ?_, ⟨n + 1, by omega, up_s, up_s, fun i hi => ?_⟩, h6.k (fun a _ _ => by rw [up_o (by omega), up_o (by omega)]) (by rw [up_o (by omega), up_o (by omega)]), h7.k (by rw [up_o (by omega), up_o (by omega)]) (fun a _ => by rw [up_o (by omega), up_o (by omega)]) (by rw [up_n (by omega), up_o (by omega)]) (by rw [up_o (by omega), up_o (by omega)]), h8.k (fun a _ _ => by rw [up_o (by omega), up_o (by omega)]) (by rw [up_o (by omega), up_o (by omega)]) (by rw [up_o (by omega), up_o (by omega)])⟩ (fun a _ _ => by rw [up_o (by omega), up_o (by omega)]) (by rw [up_o (by omega), up_o (by omega)]))
    · rw [up_o (by omega), up_o (by omega), up_n (by omega), up_o (by omega)]
      exact h3
    · rw [up_o (by omega), up_o (by omega), up_n (by omega), up_o (by omega)]
      exact h4
    · rw [up_o (a := 18) (by omega), up_o (a := 0) (by omega), up_v, up_v]
      by_cases e : i = n
      · rw [if_pos ⟨rfl, e⟩, if_pos ⟨rfl, e⟩]
      · rw [if_neg (fun z => e z.2), if_neg (fun z => e z.2)]
        exact a4 i (by omega)
theorem sr_leave {B : Bt} {R : St → St → Prop} {σ μ : St} {v : Int32} {k l : Int32 → St → Rt} (h : RelB B σ μ) (hk : ∀ r σ μ, RelB B σ μ → Sr R (k r σ) (l r μ)) : Sr R (bnd (m_Asks_leave σ v) k) (bnd (m_M_begins μ v) l) := (a_leave h v).bnd hk
section ASK
variable {B : Bt} {p : Nat}
theorem a_mark (hW : WF B) (hp : p < B 0 1) (h3 : B 5 p ≤ 3) {σ μ : St} (h : RelB B σ μ) : Sr (RelB B) (m_Asks_markOfAgent σ (nI p)) (m_M_agentMark μ (nI p)) := by
  have w1 := hW.2.1
  obtain ⟨v1, v2, v3, v4, v5, v6, v7⟩ := hW.2.2.2.2.2.2 p hp
  unfold m_Asks_markOfAgent m_M_agentMark m_M_agentMark_B24 m_M_agentMark_B27 m_M_kindIn m_Asks_body21 m_Asks_body20
  have hb : ∀ t : Rt, bd (nI p) 7 t = t := fun t => bd_n (by omega) (by omega)
  simp only [hb, bnd_bnd]
  rw [ix0, hw6, bd_n (by omega) (by omega), cl_n (by omega), cl_n (by omega), (h.2.2.2.2.2.2.2.2.2 p hp).1, h.2.1.2.2 5 (by omega) (by omega) p hp, bnd_s, li_5, ad_n]
  have hb2 : ∀ t : Rt, bd (nI (22 + 6 * p + 5)) 64 t = t := fun t => bd_n (by omega) (by omega)
  simp only [hb2, nm_i]
  rw [cl_n (by omega)]
  have e5 : ∀ {σ μ : St}, RelB B σ μ → nI p + σ (21 + 6) p = nI p + μ 6 (22 + 6 * p + 5) := fun h => by rw [h.2.1.2.2 6 (by omega) (by omega) p hp, (h.2.2.2.2.2.2.2.2.2 p hp).2.2.2.2.2]
  rcases (show B 5 p = 1 ∨ B 5 p = 2 ∨ B 5 p = 3 by omega) with e | e | e
  · rw [e, if_neg (by decide), if_neg (by decide), if_pos (by decide)]
    simp only [show ((nI 1 : Int32) = 2) = False from eq_false (by decide), show ((nI 1 : Int32) = 3) = False from eq_false (by decide), if_false]
    refine sr_leave h (fun _ σ μ h => sr_leave h (fun _ σ μ h => ?_))
    rw [bnd_s, bnd_s, e5 h]
    exact Sr.fin h
  · rw [e, if_pos (by decide), if_neg (by decide), if_pos (by decide)]
    simp only [show ((nI 2 : Int32) = 2) = True from eq_true (by decide), if_true]
    refine sr_leave h (fun _ σ μ h => sr_leave h (fun _ σ μ h => sr_leave h (fun _ σ μ h => ?_)))
    rw [bnd_s, bnd_s, e5 h]
    exact Sr.fin h
  · rw [e, if_neg (by decide), if_pos (by decide), if_neg (by decide), if_neg (by decide)]
    simp only [show ((nI 3 : Int32) = 2) = False from eq_false (by decide), show ((nI 3 : Int32) = 3) = True from eq_true (by decide), if_true, if_false]
    refine sr_leave h (fun _ σ μ h => sr_leave h (fun _ σ μ h => sr_leave h (fun _ σ μ h => ?_)))
    rw [bnd_s, bnd_s, e5 h]
    exact Sr.fin h
theorem a_oldsize (hW : WF B) (hp : p < B 0 1) {σ μ : St} (h : RelB B σ μ) : Sr (RelB B) (m_Asks_sizeOfOldOne σ (nI p)) (m_M_oldSize μ (nI p)) := by
  have w1 := hW.2.1
  obtain ⟨v1, v2, v3, v4, v5, v6, v7⟩ := hW.2.2.2.2.2.2 p hp
  unfold m_Asks_sizeOfOldOne m_M_oldSize m_M_oldSize_B14 m_M_oldSize_B25 m_M_kindIn m_Asks_body13 m_Asks_body10
  have hb : ∀ t : Rt, bd (nI p) 7 t = t := fun t => bd_n (by omega) (by omega)
  simp only [hb, bnd_bnd]
  rw [ix0, hw6, bd_n (by omega) (by omega), cl_n (by omega), cl_n (by omega), (h.2.2.2.2.2.2.2.2.2 p hp).1, h.2.1.2.2 5 (by omega) (by omega) p hp, bnd_s, li_5, ieq (by omega) (by omega), ieq (by omega) (by omega)]
  have ix2 : nI (22 + 6 * p) + (2 : Int32) = nI (22 + 6 * p + 2) := by rw [li_2, ad_n]
  have hb2 : ∀ t : Rt, bd (nI (22 + 6 * p + 2)) 64 t = t := fun t => bd_n (by omega) (by omega)
  simp only [ix2, hb2, nm_i]
  rw [cl_n (by omega)]
  have e5 : ∀ {σ μ : St}, RelB B σ μ → σ (21 + 3) p - (100 : Int32) = μ 6 (22 + 6 * p + 2) - 100 := fun h => by rw [h.2.1.2.2 3 (by omega) (by omega) p hp, (h.2.2.2.2.2.2.2.2.2 p hp).2.2.1]
  by_cases e : B 5 p = 5
  · rw [if_pos e, if_pos e, if_neg (by decide)]
    refine sr_leave h (fun _ σ μ h => sr_leave h (fun _ σ μ h => sr_leave h (fun _ σ μ h => ?_)))
    rw [bnd_s, bnd_s, e5 h, if_neg (by decide)]
    exact Sr.fin h
  · rw [if_neg e, if_neg e]
    simp only [if_true]
    refine sr_leave h (fun _ σ μ h => sr_leave h (fun _ σ μ h => ?_))
    rw [bnd_s, bnd_s, e5 h]
    exact Sr.fin h
theorem a_agsize (hW : WF B) (hp : p < B 0 1) (h3 : B 5 p ≤ 3) {σ μ : St} (h : RelB B σ μ) : Sr (RelB B) (if σ (21 + 5) p = (2 : Int32) then bnd (m_Asks_leave σ (12 : Int32)) (fun v3 σ4 => bnd (m_Asks_body11 σ4 (nI p)) (fun v5 σ6 => some (-v5, σ6))) else bnd (m_Asks_body11 σ (nI p)) (fun v7 σ8 => some (v7, σ8))) (m_M_agentSize μ (nI p)) := by
  have w1 := hW.2.1
  obtain ⟨v1, v2, v3', v4, v5, v6, v7⟩ := hW.2.2.2.2.2.2 p hp
  unfold m_M_agentSize m_M_agentSize_B14 m_M_agentSize_B25 m_M_kindIn m_Asks_body11 m_Asks_body10
  have hb : ∀ t : Rt, bd (nI p) 7 t = t := fun t => bd_n (by omega) (by omega)
  simp only [hb, bnd_bnd]
  rw [ix0, hw6, bd_n (by omega) (by omega), cl_n (by omega), cl_n (by omega), (h.2.2.2.2.2.2.2.2.2 p hp).1, h.2.1.2.2 5 (by omega) (by omega) p hp, bnd_s]
  have ix2 : nI (22 + 6 * p) + (2 : Int32) = nI (22 + 6 * p + 2) := by rw [li_2, ad_n]
  have hb2 : ∀ t : Rt, bd (nI (22 + 6 * p + 2)) 64 t = t := fun t => bd_n (by omega) (by omega)
  simp only [ix2, hb2, nm_i]
  rw [cl_n (by omega)]
  have e5 : ∀ {σ μ : St}, RelB B σ μ → σ (21 + 3) p = μ 6 (22 + 6 * p + 2) := fun h => by rw [h.2.1.2.2 3 (by omega) (by omega) p hp, (h.2.2.2.2.2.2.2.2.2 p hp).2.2.1]
  rw [li_2, ieq (by omega) (by omega), ieq (by omega) (by omega)]
  by_cases e : B 5 p = 2
  · rw [if_pos e, if_pos e, if_neg (by decide)]
    simp only [show ((1 : Int32) = 0) = False from eq_false (by decide), if_false]
    refine sr_leave h (fun _ σ μ h => sr_leave h (fun _ σ μ h => sr_leave h (fun _ σ μ h => ?_)))
    rw [bnd_s, e5 h]
    exact (a_mark hW hp h3 h).bnd (fun r σ μ h => by rw [bnd_s]; exact Sr.fin h)
  · rw [if_neg e, if_neg e]
    simp only [if_true]
    refine sr_leave h (fun _ σ μ h => sr_leave h (fun _ σ μ h => ?_))
    rw [bnd_s, e5 h]
    exact (a_mark hW hp h3 h).bnd (fun r σ μ h => by rw [bnd_s]; exact Sr.fin h)
theorem a_oldmark (hW : WF B) (hp : p < B 0 1) {σ μ : St} (h : RelB B σ μ) : Sr (RelB B) (m_Asks_body23 σ (nI p)) (m_M_oldMark μ (nI p)) := by
  unfold m_Asks_body23 m_M_oldMark m_Asks_body20
  simp only [bnd_bnd]
  refine sr_leave h (fun _ σ μ h => sr_leave h (fun _ σ μ h => ?_))
  rw [bnd_s]
  exact (a_oldsize hW hp h).bnd (fun r σ μ h => Sr.fin h)
end ASK
theorem a_ask (x y : Int32) {σ μ : St} (h : Rel σ μ) : Sr Rel (m_P_ask σ x y) (m_M_ask μ x y) := by
  obtain ⟨B, hR, hM, hW, hT⟩ := id h.2.2.2.2.2.1
  unfold m_P_ask m_M_ask
  rw [x_hasPin hR hW, bnd_s, m_isPin hM hW, bnd_s]
  refine sr_if (fun _ => Sr.fin h) (fun hp => ?_)
  obtain ⟨p, hp, rfl⟩ := hp
  rw [within_n, in_n, bnd_s, bnd_s]
  refine sr_if (fun _ => Sr.fin h) (fun _ => ?_)
  have h0 : RelB B (up σ 18 1 0) (up μ 0 24 0) := a_begin ⟨h, hR, hM⟩
  rw [show m_Asks_begin σ = some (0, up σ 18 1 0) from rfl, bnd_s, nmS_e]
  generalize up σ 18 1 0 = σ1 at h0 ⊢
  generalize up μ 0 24 0 = μ1 at h0 ⊢
  have w1 := hW.2.1
  obtain ⟨v1, v2, v3, v4, v5, v6, v7⟩ := hW.2.2.2.2.2.2 p hp
  unfold m_M_kindIn m_M_ask_B39 m_Asks_sizeOf m_Asks_markOf
  have hb : ∀ t : Rt, bd (nI p) 7 t = t := fun t => bd_n (by omega) (by omega)
  simp only [hb]
  rw [ix0, hw6, bd_n (by omega) (by omega), cl_n (by omega), cl_n (by omega), (h0.2.2.2.2.2.2.2.2.2 p hp).1, bnd_s, h0.2.1.2.2 5 (by omega) (by omega) p hp, isA_n, bnd_s, bnd_s, li_4, ilt (by omega) (by omega)]
  have hi : (nI 4 = 0 ∨ nI 4 = nI (B 5 p) ∨ (nI 4 = 1 ∧ (nI (B 5 p) = 2 ∨ nI (B 5 p) = 3)) ∨ (nI 4 = nI 4 ∧ nI (B 5 p) = 5)) ↔ ¬ B 5 p < 4 := by
    rcases (show B 5 p = 1 ∨ B 5 p = 2 ∨ B 5 p = 3 ∨ B 5 p = 4 ∨ B 5 p = 5 by omega) with e | e | e | e | e
    all_goals rw [e]
    all_goals decide
  have im : ∀ σ μ, RelB B σ μ → Rel σ μ := fun _ _ h => h.1
  by_cases hk : B 5 p < 4
  · rw [if_pos hk, if0 (fun z => hi.mp z hk), if0 (fun z => hi.mp z hk)]
    simp only [if_true]
    refine sr_ite (fun _ => ?_) (fun _ => ?_)
    · have e9 := a_agsize hW hp (by omega) h0
      rw [h0.2.1.2.2 5 (by omega) (by omega) p hp] at e9
      have e8 := e9.im im
      rw [h0.2.1.2.2 5 (by omega) (by omega) p hp]
      simp only [bnd_id] at e8 ⊢
      exact e8
    · rw [bnd_id, bnd_id, bnd_id]
      exact (a_mark hW hp (by omega) h0).im im
  · rw [if_neg hk, if1 (hi.mpr hk), if1 (hi.mpr hk)]
    simp only [show ((1 : Int32) = 0) = False from eq_false (by decide), if_false]
    refine sr_ite (fun _ => ?_) (fun _ => ?_)
    · rw [bnd_id, bnd_id, bnd_id]
      exact (a_oldsize hW hp h0).im im
    · rw [bnd_id, bnd_id, bnd_id]
      exact (a_oldmark hW hp h0).im im
