/-! pure: what is foretold by turns -/
/-- the board is A, and what is tried is B -/
def RelT (A B : Bt) (σ μ : St) : Prop := RelB A σ μ ∧ RB σ 28 B ∧ RM (μ 8) B (plc B) ∧ WF B
theorem RelT.k {A B B' : Bt} {σ μ σ' μ' : St} (h : RelT A B σ μ) (hx : Fr 28 σ σ') (hm : FrM 8 μ μ') (h1 : RB σ' 28 B') (h2 : RM (μ' 8) B' (plc B')) (h3 : WF B') : RelT A B' σ' μ' := by
  refine ⟨h.1.k (h.1.1.k (fun a ha => hx a (by omega)) (fun a _ _ h8 _ _ _ => hm a h8)) (fun a h1 h2 => hx a (by omega)) (hm 6 (by omega)), h1, h2, h3⟩
theorem a_take {A : Bt} {σ μ : St} (h : RelB A σ μ) (hW : WF A) : Sr (RelT A A) (m_Board_takeFrom 28 21 σ) (m_M_copies 6 8 μ 0 0) := by
  obtain ⟨σ', e1, r1, f1⟩ := x_take (b := 28) h.2.1 hW (by omega)
  obtain ⟨μ1, e, f, g⟩ := m_copies (w1 := 6) (w2 := 8) (a := 0) (c := 0) (by show 0 + 64 ≤ 64; omega) (by show 0 + 64 ≤ 64; omega) (by decide) (by decide) (by decide) μ
  rw [e1, li_0, e]
  refine Sr.fin ⟨h.k (h.1.k (fun a ha => f1 a (by omega)) (fun a _ _ h8 _ _ _ => f a h8)) (fun a h1 h2 => f1 a (by omega)) (f 6 (by omega)), r1, h.2.2.cg hW (fun i hi => ?_), hW⟩
  rw [g i, if_pos (by omega)]
  exact congrArg (μ 6) (by omega)
theorem a_turn {A B : Bt} {σ μ : St} (h : RelT A B σ μ) : Sr (RelT A (trn B)) (m_Board_turn 28 σ) (m_M_passes 8 μ) := by
  obtain ⟨σ', e1, r1, f1⟩ := x_turn h.2.1 h.2.2.2
  obtain ⟨μ', e2, r2, f2⟩ := m_passes hw8 h.2.2.1 h.2.2.2
  rw [e1, e2]
  exact Sr.fin (h.k f1 f2 r1 r2 h.2.2.2.trn)
theorem trn_dim (B : Bt) (j : Nat) (hj : j ≤ 2) : trn B 0 j = B 0 j := by
  unfold trn
  split
  · rw [ub_v, if_neg (by omega)]
    unfold wrkB
    rw [ub_v, if_neg (by omega), opn_dim B 0 j (by omega)]
  · rw [ub_v, if_neg (by omega), ub_v, if_neg (by omega)]
def RelG (A : Bt) (σ μ : St) : Prop := ∃ B, RelT A B σ μ ∧ B 0 0 = A 0 0 ∧ B 0 1 = A 0 1
theorem a_goon_l {A : Bt} {N : Nat} (hN : N ≤ 60) : ∀ (m n k : Nat) (B : Bt) (σ μ : St), k + m = N → m < n → RelT A B σ μ → B 0 0 = A 0 0 → B 0 1 = A 0 1 → Sr (RelG A) (m_Fore_goOn_L13 n σ (nI N) (nI k)) (m_M_goesOn_L2 n μ (nI N) (nI k)) := by
  intro m
  induction m with
  | zero =>
    intro n k B σ μ hk hn h c0 c1
    obtain ⟨n, rfl⟩ : ∃ k, n = k + 1 := ⟨n - 1, by omega⟩
    show Sr (RelG A) (m_Fore_goOn_B13 (m_Fore_goOn_L13 n) σ _ _) (m_M_goesOn_B2 (m_M_goesOn_L2 n) μ _ _)
    unfold m_Fore_goOn_B13 m_M_goesOn_B2
    rw [ile (by omega) (by omega), ile (by omega) (by omega), if_pos (by omega), if_pos (by omega)]
    exact Sr.fin ⟨B, h, c0, c1⟩
  | succ m ih =>
    intro n k B σ μ hk hn h c0 c1
    obtain ⟨n, rfl⟩ : ∃ k, n = k + 1 := ⟨n - 1, by omega⟩
    show Sr (RelG A) (m_Fore_goOn_B13 (m_Fore_goOn_L13 n) σ _ _) (m_M_goesOn_B2 (m_M_goesOn_L2 n) μ _ _)
    unfold m_Fore_goOn_B13 m_M_goesOn_B2
    rw [ile (by omega) (by omega), ile (by omega) (by omega), if_neg (by omega), if_neg (by omega), ad_1]
    exact (a_turn h).bnd (fun _ σ μ h => ih n (k + 1) _ σ μ (by omega) (by omega) h (by rw [trn_dim B 0 (by omega)]; exact c0) (by rw [trn_dim B 1 (by omega)]; exact c1))
theorem a_goon {A : Bt} {N : Nat} (hN : N ≤ 60) {σ μ : St} (h : RelT A A σ μ) : Sr (RelG A) (m_Fore_goOn_L13 FU σ (nI N) 0) (m_M_goesOn μ (nI N)) := a_goon_l hN N FU 0 A σ μ (by omega) (fu_lt (by omega)) h rfl rfl
theorem a_ahead (x y : Int32) {σ μ : St} (h : Rel σ μ) : Sr Rel (m_P_ahead σ x y) (m_M_ahead μ x y) := by
  obtain ⟨A, hR, hM, hW, hT⟩ := id h.2.2.2.2.2.1
  unfold m_P_ahead m_M_ahead m_Fore_goOn
  rw [x_hasPin hR hW, bnd_s, m_isPin hM hW, bnd_s]
  refine sr_if (fun _ => Sr.fin h) (fun hp => ?_)
  obtain ⟨p, hp, rfl⟩ := hp
  rw [within_n, in_n, bnd_s, bnd_s]
  refine sr_if (fun _ => Sr.fin h) (fun hq => ?_)
  rw [li_60, le_iff (by omega)] at hq
  obtain ⟨N, hN, rfl⟩ := hq
  have w1 := hW.2.1
  rw [bnd_bnd]
  refine (a_take ⟨h, hR, hM⟩ hW).bnd (fun _ σ μ h => (a_goon hN h).bnd (fun _ σ μ h => ?_))
  obtain ⟨B, h, c0, c1⟩ := h
  rw [x_place h.2.1 h.2.2.2 (by omega), bnd_s, ix0, li_4, ad_n, hw8, bd_n (by omega) (by omega), cl_n (by omega), (h.2.2.1.2.2.2.2.2.2.2 p (by omega)).2.2.2.2.1]
  exact Sr.fin h.1.1
theorem a_earned (x : Int32) {σ μ : St} (h : Rel σ μ) : Sr Rel (m_P_earned σ x) (m_M_earned μ x) := by
  obtain ⟨A, hR, hM, hW, hT⟩ := id h.2.2.2.2.2.1
  unfold m_P_earned m_M_earned m_Fore_goOn
  rw [x_stands hR hW, bnd_s, m_isMap hM hW, bnd_s]
  refine sr_if (fun _ => Sr.fin h) (fun _ => ?_)
  rw [within_n, in_n, bnd_s, bnd_s]
  refine sr_if (fun _ => Sr.fin h) (fun hq => ?_)
  rw [li_60, le_iff (by omega)] at hq
  obtain ⟨N, hN, rfl⟩ := hq
  rw [bnd_bnd]
  refine (a_take ⟨h, hR, hM⟩ hW).bnd (fun _ σ μ h => (a_goon hN h).bnd (fun _ σ μ h => ?_))
  obtain ⟨B, h, c0, c1⟩ := h
  rw [h.2.1.1 4 (by omega), li_5, hw8, bd_n (by omega) (by omega), cl_n (by omega), h.2.2.1.2.2.2.2.2.1]
  exact Sr.fin h.1.1
theorem a_tomsk_l {A : Bt} {p : Nat} {c : Int32} (hp : p < A 0 1) (hA : A 0 1 ≤ 7) : ∀ (m n k : Nat) (B : Bt) (σ μ : St), k + m = 61 → m < n → RelT A B σ μ → B 0 1 = A 0 1 → Sr Rel (m_Fore_turnsTillIn_L13 n σ (nI p) c (nI k)) (m_M_tomsk_L34 n μ (nI p) c (nI k)) := by
  intro m
  induction m with
  | zero =>
    intro n k B σ μ hk hn h c1
    obtain ⟨n, rfl⟩ : ∃ k, n = k + 1 := ⟨n - 1, by omega⟩
    show Sr Rel (m_Fore_turnsTillIn_B13 (m_Fore_turnsTillIn_L13 n) σ _ _ _) (m_M_tomsk_B34 (m_M_tomsk_L34 n) μ _ _ _)
    unfold m_Fore_turnsTillIn_B13 m_M_tomsk_B34
    rw [li_60, li_61, ilt (by omega) (by omega), ile (by omega) (by omega), if_pos (show 60 < k by omega), if_pos (show 61 ≤ k by omega)]
    exact Sr.fin h.1.1
  | succ m ih =>
    intro n k B σ μ hk hn h c1
    obtain ⟨n, rfl⟩ : ∃ k, n = k + 1 := ⟨n - 1, by omega⟩
    show Sr Rel (m_Fore_turnsTillIn_B13 (m_Fore_turnsTillIn_L13 n) σ _ _ _) (m_M_tomsk_B34 (m_M_tomsk_L34 n) μ _ _ _)
    unfold m_Fore_turnsTillIn_B13 m_M_tomsk_B34
    rw [li_60, li_61, ilt (by omega) (by omega), ile (by omega) (by omega), if_neg (show ¬ 60 < k by omega), if_neg (show ¬ 61 ≤ k by omega), x_place h.2.1 h.2.2.2 (by omega), bnd_s, ix0, li_4, ad_n, hw8, bd_n (by omega) (by omega), cl_n (by omega), (h.2.2.1.2.2.2.2.2.2.2 p (by omega)).2.2.2.2.1, ad_1]
    refine sr_ite (fun _ => Sr.fin h.1.1) (fun _ => ?_)
    exact (a_turn h).bnd (fun _ σ μ h => ih n (k + 1) _ σ μ (by omega) (by omega) h (by rw [trn_dim B 1 (by omega)]; exact c1))
theorem a_tomsk (x y : Int32) {σ μ : St} (h : Rel σ μ) : Sr Rel (m_P_tomsk σ x y) (m_M_tomsk μ x y) := by
  obtain ⟨A, hR, hM, hW, hT⟩ := id h.2.2.2.2.2.1
  unfold m_P_tomsk m_M_tomsk m_Fore_turnsTillIn
  rw [x_hasPin hR hW, bnd_s, m_isPin hM hW, bnd_s]
  refine sr_if (fun _ => Sr.fin h) (fun hp => ?_)
  obtain ⟨p, hp, rfl⟩ := hp
  rw [x_hasCell hR hW, bnd_s, m_isCell hM hW, bnd_s]
  refine sr_if (fun _ => Sr.fin h) (fun hq => ?_)
  rw [bnd_id]
  refine (a_take ⟨h, hR, hM⟩ hW).bnd (fun _ σ μ h => ?_)
  exact a_tomsk_l hp hW.2.1 61 FU 0 A σ μ (by omega) (fu_lt (by omega)) h rfl
/-- all pins from one on are where they were -/
def same (A B : Bt) (p : Nat) : Prop := ∀ q, p ≤ q → q < A 0 1 → plc B q = plc A q
theorem same_e {A B : Bt} {p : Nat} (h : A 0 1 ≤ p) : same A B p := fun q h1 h2 => absurd h2 (by omega)
theorem same_s {A B : Bt} {p : Nat} (e : plc B p = plc A p) (hs : same A B (p + 1)) : same A B p := fun q h1 h2 => by
  by_cases hq : q = p
  · rw [hq]
    exact e
  · exact hs q (by omega) h2
theorem same_t {A B : Bt} {p : Nat} (h : same A B p) : same A B (p + 1) := fun q h1 h2 => h q (by omega) h2
theorem x_same_l {A B : Bt} {σ : St} (hA : RB σ 21 A) (hWA : WF A) (hB : RB σ 28 B) (hWB : WF B) (c1 : B 0 1 = A 0 1) : ∀ (m n p : Nat), p + m = A 0 1 → m < n → m_Fore_isSamePlaces_L2 n σ (nI p) = some (@ite Int32 (same A B p) (Classical.propDecidable _) 1 0, σ) := by
  have w1 := hWA.2.1
  intro m
  induction m with
  | zero =>
    intro n p hp hn
    obtain ⟨n, rfl⟩ : ∃ k, n = k + 1 := ⟨n - 1, by omega⟩
    show m_Fore_isSamePlaces_B2 (m_Fore_isSamePlaces_L2 n) σ _ = _
    unfold m_Fore_isSamePlaces_B2
    rw [hA.1 1 (by omega), ile (by omega) (by omega), if_pos (by omega), vB_1, if_pos (same_e (by omega))]
  | succ m ih =>
    intro n p hp hn
    obtain ⟨n, rfl⟩ : ∃ k, n = k + 1 := ⟨n - 1, by omega⟩
    show m_Fore_isSamePlaces_B2 (m_Fore_isSamePlaces_L2 n) σ _ = _
    unfold m_Fore_isSamePlaces_B2
    rw [hA.1 1 (by omega), ile (by omega) (by omega), if_neg (by omega), x_place hB hWB (by omega), bnd_s, x_place hA hWA (by omega), bnd_s, ad_1]
    by_cases e : plc B p = plc A p
    · rw [if_pos e, ih n (p + 1) (by omega) (by omega)]
      by_cases hs : same A B (p + 1)
      · rw [if_pos hs, if_pos (same_s e hs)]
      · rw [if_neg hs, if_neg (fun z => hs (same_t z))]
    · rw [if_neg e, vB_0, if_neg (fun z => e (z p (by omega) (by omega)))]
theorem m_same_l {A B : Bt} {μ : St} (hA : RM (μ 6) A (plc A)) (hWA : WF A) (hB : RM (μ 8) B (plc B)) (c1 : B 0 1 = A 0 1) (r : St → Int32 → Rt) (x : Int32) : ∀ (m n p : Nat) (s : Int32), p + m = A 0 1 → m < n → s = 0 ∨ s = 1 → m_M_round_L43 r n μ x s (nI p) = m_M_round_B100 r μ x (@ite Int32 (s = 1 ∧ same A B p) (Classical.propDecidable _) 1 0) := by
  have w1 := hWA.2.1
  intro m
  induction m with
  | zero =>
    intro n p s hp hn hs
    obtain ⟨n, rfl⟩ : ∃ k, n = k + 1 := ⟨n - 1, by omega⟩
    show m_M_round_B43 r (m_M_round_L43 r n) μ _ _ _ = _
    unfold m_M_round_B43
    rw [li_2, hw6, bd_n (by omega) (by omega), cl_n (by omega), hA.2.2.1, ile (by omega) (by omega), if_pos (by omega)]
    rcases hs with rfl | rfl
    · rw [if_neg (fun z => absurd z.1 (by decide))]
    · rw [if_pos ⟨rfl, same_e (by omega)⟩]
  | succ m ih =>
    intro n p s hp hn hs
    obtain ⟨n, rfl⟩ : ∃ k, n = k + 1 := ⟨n - 1, by omega⟩
    show m_M_round_B43 r (m_M_round_L43 r n) μ _ _ _ = _
    unfold m_M_round_B43 m_M_round_B92 m_M_round_B93
    rw [li_2, hw6, bd_n (by omega) (by omega), cl_n (by omega), hA.2.2.1, ile (by omega) (by omega), if_neg (by omega), ix0, li_4, ad_n, hw8, bd_n (by omega) (by omega), bd_n (by omega) (by omega), cl_n (by omega), (hA.2.2.2.2.2.2.2 p (by omega)).2.2.2.2.1, (hB.2.2.2.2.2.2.2 p (by omega)).2.2.2.2.1, ad_1]
    rcases hs with rfl | rfl
    · rw [if_pos rfl, ih n (p + 1) 0 (by omega) (by omega) (Or.inl rfl), if_neg (fun z => absurd z.1 (by decide)), if_neg (fun z => absurd z.1 (by decide))]
    · rw [if_neg (by decide)]
      by_cases e : plc B p = plc A p
      · rw [if_pos e, ih n (p + 1) 1 (by omega) (by omega) (Or.inr rfl)]
        by_cases hs : same A B (p + 1)
        · rw [if_pos ⟨rfl, hs⟩, if_pos ⟨rfl, same_s e hs⟩]
        · rw [if_neg (fun z => hs z.2), if_neg (fun z => hs (same_t z.2))]
      · rw [if_neg e, ih n (p + 1) 0 (by omega) (by omega) (Or.inl rfl), if_neg (fun z => absurd z.1 (by decide)), if_neg (fun z => e (z.2 p (by omega) (by omega)))]
theorem a_round_l {A : Bt} (hWA : WF A) : ∀ (m n k : Nat) (B : Bt) (σ μ : St), k + m = 201 → m < n → RelT A B σ μ → B 0 1 = A 0 1 → Sr Rel (m_Fore_turnsTillSame_L13 n σ (nI k)) (m_M_round_L25 n μ (nI k)) := by
  have w1 := hWA.2.1
  intro m
  induction m with
  | zero =>
    intro n k B σ μ hk hn h c1
    obtain ⟨n, rfl⟩ : ∃ k, n = k + 1 := ⟨n - 1, by omega⟩
    show Sr Rel (m_Fore_turnsTillSame_B13 (m_Fore_turnsTillSame_L13 n) σ _) (m_M_round_B25 (m_M_round_L25 n) μ _)
    unfold m_Fore_turnsTillSame_B13 m_M_round_B25
    rw [li_200, li_201, ilt (by omega) (by omega), ile (by omega) (by omega), if_pos (by omega), if_pos (by omega)]
    exact Sr.fin h.1.1
  | succ m ih =>
    intro n k B σ μ hk hn h c1
    obtain ⟨n, rfl⟩ : ∃ k, n = k + 1 := ⟨n - 1, by omega⟩
    show Sr Rel (m_Fore_turnsTillSame_B13 (m_Fore_turnsTillSame_L13 n) σ _) (m_M_round_B25 (m_M_round_L25 n) μ _)
    unfold m_Fore_turnsTillSame_B13 m_M_round_B25 m_Fore_isSamePlaces
    rw [li_200, li_201, ilt (by omega) (by omega), ile (by omega) (by omega), if_neg (by omega), if_neg (by omega)]
    refine (a_turn h).bnd (fun _ σ μ h => ?_)
    have c2 : trn B 0 1 = A 0 1 := by rw [trn_dim B 1 (by omega)]; exact c1
    rw [li_0, x_same_l h.1.2.1 hWA h.2.1 h.2.2.2 c2 (A 0 1) FU 0 (by omega) (fu_lt (by omega)), bnd_s, m_same_l h.1.2.2 hWA h.2.2.1 c2 _ _ (A 0 1) FU 0 1 (by omega) (fu_lt (by omega)) (Or.inr rfl), ← li_0]
    unfold m_M_round_B100
    rw [ad_1]
    by_cases hs : same A (trn B) 0
    · rw [if1 hs, if1 ⟨rfl, hs⟩]
      exact Sr.fin h.1.1
    · rw [if0 hs, if0 (fun z => hs z.2)]
      exact ih n (k + 1) _ σ μ (by omega) (by omega) h c2
theorem a_round {σ μ : St} (h : Rel σ μ) : Sr Rel (m_P_round σ) (m_M_round μ) := by
  obtain ⟨A, hR, hM, hW, hT⟩ := id h.2.2.2.2.2.1
  unfold m_P_round m_M_round m_Fore_turnsTillSame
  rw [x_stands hR hW, bnd_s, m_isMap hM hW, bnd_s]
  refine sr_if (fun _ => Sr.fin h) (fun _ => ?_)
  rw [bnd_id]
  refine (a_take ⟨h, hR, hM⟩ hW).bnd (fun _ σ μ h => ?_)
  exact a_round_l hW 200 FU 1 A σ μ (by omega) (fu_lt (by omega)) h rfl
