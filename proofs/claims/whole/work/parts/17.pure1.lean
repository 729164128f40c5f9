/-! pure: the class's Board -/
theorem fu_lt {n : Nat} (h : n < 2000) : n < FU := h
section XB
variable {σ : St} {b : Nat} {B : Bt}
theorem x_stands (hR : RB σ b B) (hW : WF B) : m_Board_stands b σ = some ((if 0 < B 0 0 then 1 else 0), σ) := by
  obtain ⟨w0, w1, w2, w4, w5, w6, w7⟩ := hW
  unfold m_Board_stands
  rw [hR.1 0 (by omega), show (0 : Int32) = nI 0 from rfl, ile (by omega) (by omega), ← li_0]
  by_cases h : 0 < B 0 0
  · rw [if_neg (by omega), if_pos h, vB_1]
  · rw [if_pos (by omega), if_neg h, vB_0]
theorem x_hasPin (hR : RB σ b B) (hW : WF B) (x : Int32) : m_Board_hasPin b σ x = some ((if ∃ p, p < B 0 1 ∧ x = nI p then 1 else 0), σ) := by
  obtain ⟨w0, w1, w2, w4, w5, w6, w7⟩ := hW
  unfold m_Board_hasPin
  rw [hR.1 1 (by omega), within_n, bnd_s, vB_ite]
  simp only [in_iff (show B 0 1 < 2147483648 by omega)]
theorem x_hasCell (hR : RB σ b B) (hW : WF B) (x : Int32) : m_Board_hasCell b σ x = some ((if ∃ p, p < B 0 0 ∧ x = nI p then 1 else 0), σ) := by
  obtain ⟨w0, w1, w2, w4, w5, w6, w7⟩ := hW
  unfold m_Board_hasCell
  rw [hR.1 0 (by omega), within_n, bnd_s, vB_ite]
  simp only [in_iff (show B 0 0 < 2147483648 by omega)]
theorem x_place (hR : RB σ b B) (hW : WF B) {p : Nat} (hp : p < B 0 1) : m_Board_place b σ (nI p) = some (plc B p, σ) := by
  obtain ⟨w0, w1, w2, w4, w5, w6, w7⟩ := hW
  obtain ⟨v1, v2, v3, v4, v5, v6, v7⟩ := w7 p hp
  unfold m_Board_place m_Board_place_B17 plc
  rw [hR.1 5 (by omega), bd_n (by omega) (by omega), bd_n (by omega) (by omega), cl_n (by omega), hR.2.2 5 (by omega) (by omega) p hp, hR.2.2 6 (by omega) (by omega) p hp, li_0, li_5, ieq (by omega) (by omega), ieq (by omega) (by omega)]
  by_cases h : B 0 5 = 0
  · rw [if_pos h]
    by_cases hk : B 5 p = 5
    · rw [if_pos hk, if_neg (fun z => z.2 hk)]
    · rw [if_neg hk, if_pos ⟨h, hk⟩]
  · rw [if_neg h, if_neg (fun z => h z.1)]
theorem x_pinsIn_l (hR : RB σ b B) (hW : WF B) (c : Int32) : ∀ (m n p : Nat), p + m = B 0 1 → m < n → m_Board_pinsIn_L4 b n σ c (nI (bset (fun p => decide (plc B p = c)) p)) (nI p) = some (nI (bset (fun p => decide (plc B p = c)) (B 0 1)), σ) := by
  have hW' := hW
  obtain ⟨w0, w1, w2, w4, w5, w6, w7⟩ := hW'
  intro m
  induction m with
  | zero =>
    intro n p hp hn
    obtain ⟨n, rfl⟩ : ∃ k, n = k + 1 := ⟨n - 1, by omega⟩
    show m_Board_pinsIn_B4 b (m_Board_pinsIn_L4 b n) σ c _ _ = _
    unfold m_Board_pinsIn_B4
    rw [hR.1 1 (by omega), ile (by omega) (by omega), if_pos (by omega), show p = B 0 1 by omega]
  | succ m ih =>
    intro n p hp hn
    obtain ⟨n, rfl⟩ : ∃ k, n = k + 1 := ⟨n - 1, by omega⟩
    show m_Board_pinsIn_B4 b (m_Board_pinsIn_L4 b n) σ c _ _ = _
    unfold m_Board_pinsIn_B4 m_Board_pinsIn_B29
    rw [hR.1 1 (by omega), ile (by omega) (by omega), if_neg (by omega), x_place hR hW (by omega), bnd_s]
    simp only [nm_i]
    have e := bset_step (f := fun p => decide (plc B p = c)) (p := p) (by omega)
    rw [li_1, ad_n, ← li_1, ← ih n (p + 1) (by omega) (by omega), ← e]
    by_cases h : plc B p = c
    · simp [h]
    · simp [h]
theorem x_pinsIn (hR : RB σ b B) (hW : WF B) (c : Int32) : m_Board_pinsIn b σ c = some (nI (bset (fun p => decide (plc B p = c)) (B 0 1)), σ) := by
  have w1 := hW.2.1
  exact x_pinsIn_l hR hW c (B 0 1) FU 0 (by omega) (fu_lt (by omega))
theorem x_tray_l (hR : RB σ b B) (hW : WF B) : ∀ (m n p : Nat), p + m = B 0 1 → m < n → m_Board_pinsInTray_L4 b n σ (nI (bset (fun p => decide (plc B p = -1000000)) p)) (nI p) = some (nI (bset (fun p => decide (plc B p = -1000000)) (B 0 1)), σ) := by
  have hW' := hW
  obtain ⟨w0, w1, w2, w4, w5, w6, w7⟩ := hW'
  intro m
  induction m with
  | zero =>
    intro n p hp hn
    obtain ⟨n, rfl⟩ : ∃ k, n = k + 1 := ⟨n - 1, by omega⟩
    show m_Board_pinsInTray_B4 b (m_Board_pinsInTray_L4 b n) σ _ _ = _
    unfold m_Board_pinsInTray_B4
    rw [hR.1 1 (by omega), ile (by omega) (by omega), if_pos (by omega), show p = B 0 1 by omega]
  | succ m ih =>
    intro n p hp hn
    obtain ⟨n, rfl⟩ : ∃ k, n = k + 1 := ⟨n - 1, by omega⟩
    show m_Board_pinsInTray_B4 b (m_Board_pinsInTray_L4 b n) σ _ _ = _
    unfold m_Board_pinsInTray_B4 m_Board_pinsInTray_B30
    rw [hR.1 1 (by omega), ile (by omega) (by omega), if_neg (by omega), x_place hR hW (by omega), bnd_s]
    simp only [nm_i]
    have e := bset_step (f := fun p => decide (plc B p = -1000000)) (p := p) (by omega)
    rw [li_1, ad_n, ← li_1, ← ih n (p + 1) (by omega) (by omega), ← e]
    by_cases h : plc B p = -1000000
    · simp [h]
    · simp [h]
theorem x_tray (hR : RB σ b B) (hW : WF B) : m_Board_pinsInTray b σ = some (nI (bset (fun p => decide (plc B p = -1000000)) (B 0 1)), σ) := by
  have w1 := hW.2.1
  exact x_tray_l hR hW (B 0 1) FU 0 (by omega) (fu_lt (by omega))
theorem x_home_l (hR : RB σ b B) (hW : WF B) : ∀ (m n p : Nat), p + m = B 0 1 → m < n → m_Board_pinsAtHome_L4 b n σ (nI (bset (fun p => decide (plc B p = nI (B 2 p))) p)) (nI p) = some (nI (bset (fun p => decide (plc B p = nI (B 2 p))) (B 0 1)), σ) := by
  have hW' := hW
  obtain ⟨w0, w1, w2, w4, w5, w6, w7⟩ := hW'
  intro m
  induction m with
  | zero =>
    intro n p hp hn
    obtain ⟨n, rfl⟩ : ∃ k, n = k + 1 := ⟨n - 1, by omega⟩
    show m_Board_pinsAtHome_B4 b (m_Board_pinsAtHome_L4 b n) σ _ _ = _
    unfold m_Board_pinsAtHome_B4
    rw [hR.1 1 (by omega), ile (by omega) (by omega), if_pos (by omega), show p = B 0 1 by omega]
  | succ m ih =>
    intro n p hp hn
    obtain ⟨n, rfl⟩ : ∃ k, n = k + 1 := ⟨n - 1, by omega⟩
    show m_Board_pinsAtHome_B4 b (m_Board_pinsAtHome_L4 b n) σ _ _ = _
    unfold m_Board_pinsAtHome_B4
    rw [hR.1 1 (by omega), ile (by omega) (by omega), if_neg (by omega), x_place hR hW (by omega), bnd_s, bd_n (by omega) (by omega), cl_n (by omega), hR.2.2 2 (by omega) (by omega) p (by omega)]
    unfold m_Board_pinsAtHome_B34
    simp only [nm_i]
    have e := bset_step (f := fun p => decide (plc B p = nI (B 2 p))) (p := p) (by omega)
    rw [li_1, ad_n, ← li_1, ← ih n (p + 1) (by omega) (by omega), ← e]
    by_cases h : plc B p = nI (B 2 p)
    · simp [h]
    · simp [h]
theorem x_home (hR : RB σ b B) (hW : WF B) : m_Board_pinsAtHome b σ = some (nI (bset (fun p => decide (plc B p = nI (B 2 p))) (B 0 1)), σ) := by
  have w1 := hW.2.1
  exact x_home_l hR hW (B 0 1) FU 0 (by omega) (fu_lt (by omega))
/-- the first pin whose home a cell is -/
def ownr (B : Bt) (c : Int32) : Nat → Nat → Int32
  | 0, _ => -1000000
  | m + 1, p => if nI (B 2 p) = c then nI p else ownr B c m (p + 1)
theorem x_owner_l (hR : RB σ b B) (hW : WF B) (c : Int32) : ∀ (m n p : Nat), p + m = B 0 1 → m < n → m_Board_owner_L2 b n σ c (nI p) = some (ownr B c m p, σ) := by
  obtain ⟨w0, w1, w2, w4, w5, w6, w7⟩ := hW
  intro m
  induction m with
  | zero =>
    intro n p hp hn
    obtain ⟨n, rfl⟩ : ∃ k, n = k + 1 := ⟨n - 1, by omega⟩
    show m_Board_owner_B2 b (m_Board_owner_L2 b n) σ _ _ = _
    unfold m_Board_owner_B2
    rw [hR.1 1 (by omega), ile (by omega) (by omega), if_pos (by omega)]
    rfl
  | succ m ih =>
    intro n p hp hn
    obtain ⟨n, rfl⟩ : ∃ k, n = k + 1 := ⟨n - 1, by omega⟩
    show m_Board_owner_B2 b (m_Board_owner_L2 b n) σ _ _ = _
    unfold m_Board_owner_B2 ownr
    rw [hR.1 1 (by omega), ile (by omega) (by omega), if_neg (by omega), bd_n (by omega) (by omega), cl_n (by omega), hR.2.2 2 (by omega) (by omega) p (by omega), li_1, ad_n, ih n (p + 1) (by omega) (by omega)]
    by_cases h : nI (B 2 p) = c
    · rw [if_pos h, if_pos h]
    · rw [if_neg h, if_neg h]
theorem x_owner (hR : RB σ b B) (hW : WF B) (c : Int32) : m_Board_owner b σ c = some (ownr B c (B 0 1) 0, σ) := by
  have w1 := hW.2.1
  exact x_owner_l hR hW c (B 0 1) FU 0 (by omega) (fu_lt (by omega))
theorem x_worth (hR : RB σ b B) (hW : WF B) {p i : Nat} (hp : p < B 0 1) (hi : i < B 0 0) : m_Board_worth b σ (nI p) (nI i) = some (nI (B 3 p * B 1 i), σ) := by
  obtain ⟨w0, w1, w2, w4, w5, w6, w7⟩ := hW
  unfold m_Board_worth
  rw [hR.1 0 (by omega), within_n, bnd_s, if_pos ((in_iff (by omega)).mpr ⟨i, hi, rfl⟩)]
  rw [if_neg (by decide), bd_n (by omega) (by omega), bd_n (by omega) (by omega), cl_n (by omega), cl_n (by omega), hR.2.2 3 (by omega) (by omega) p hp, hR.2.1 i hi, mu_n]
end XB
