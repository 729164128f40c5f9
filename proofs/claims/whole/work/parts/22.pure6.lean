/-! pure: what the two sides keep alike -/
def RRow (σ μ : St) : Prop := ∀ r, r < 8 → ((σ 2 r = -1 ∧ μ 1 r = -1000000) ∨ ∃ l, l < 3 ∧ σ 2 r = nI l ∧ μ 1 r = nI l) ∧ (∃ n, n ≤ 40 ∧ σ 3 r = nI n ∧ μ 2 r = nI n) ∧ ∀ i, i < 40 → σ (gIt r) i = μ 3 (40 * r + i)
def RTape (σ μ : St) : Prop := ∃ n, n ≤ 130 ∧ σ 13 1 = nI n ∧ μ 0 6 = nI n ∧ ∀ i, i < n → ∃ c, c < 256 ∧ σ 14 i = nI c ∧ μ 5 i = nI c
def RTr (σ μ : St) : Prop := ∃ n, n ≤ 16 ∧ σ 18 1 = nI n ∧ μ 0 24 = nI n ∧ ∀ i, i < n → σ 19 i = μ 15 i
def RMap (σ : St) (b : Nat) (r : Nat → Int32) : Prop := ∃ B, RB σ b B ∧ RM r B (plc B) ∧ WF B ∧ B 0 3 ≤ 9999
def RPast (σ μ : St) : Prop := ∃ h o, h ≤ 24 ∧ o < 24 ∧ σ 16 0 = nI h ∧ σ 16 1 = nI o ∧ μ 0 17 = nI h ∧ ∀ j, j < h → RMap σ (gPast ((o + j) % 24)) (fun i => μ 9 (64 * j + i))
def RImg (σ μ : St) : Prop := ∀ k, k < 2 → (σ (gImg k) 0 = 0 ∧ μ 11 k = 0) ∨ (μ 11 k = 1 ∧ ∃ B, RB σ (gImg k) B ∧ RM (fun i => μ 10 (64 * k + i)) B (plc B) ∧ WF B ∧ B 0 3 ≤ 9999 ∧ 0 < B 0 0)
def Rel (σ μ : St) : Prop := RRow σ μ ∧ RTape σ μ ∧ σ 13 2 = μ 0 7 ∧ σ 0 7 = μ 0 4 ∧ RTr σ μ ∧ RMap σ 21 (μ 6) ∧ RPast σ μ ∧ RImg σ μ
theorem RRow.k {σ μ σ' μ' : St} (h : RRow σ μ) (hx : ∀ a, 2 ≤ a → a < 13 → a ≠ 4 → σ' a = σ a) (hm : ∀ a, 1 ≤ a → a ≤ 3 → μ' a = μ a) : RRow σ' μ' := by
  intro r hr
  have e : σ' (gIt r) = σ (gIt r) := hx _ (by unfold gIt; omega) (by unfold gIt; omega) (by unfold gIt; omega)
  rw [hx 2 (by omega) (by omega) (by omega), hx 3 (by omega) (by omega) (by omega), hm 1 (by omega) (by omega), hm 2 (by omega) (by omega), hm 3 (by omega) (by omega), e]
  exact h r hr
theorem RTape.k {σ μ σ' μ' : St} (h : RTape σ μ) (h1 : σ' 13 1 = σ 13 1) (h2 : σ' 14 = σ 14) (h3 : μ' 0 6 = μ 0 6) (h4 : μ' 5 = μ 5) : RTape σ' μ' := by
  unfold RTape
  rw [h1, h2, h3, h4]
  exact h
theorem RTr.k {σ μ σ' μ' : St} (h : RTr σ μ) (h1 : σ' 18 1 = σ 18 1) (h2 : σ' 19 = σ 19) (h3 : μ' 0 24 = μ 0 24) (h4 : μ' 15 = μ 15) : RTr σ' μ' := by
  unfold RTr
  rw [h1, h2, h3, h4]
  exact h
theorem RMap.k {σ σ' : St} {b : Nat} {r r' : Nat → Int32} (h : RMap σ b r) (h1 : ∀ a, b ≤ a → a < b + 7 → σ' a = σ a) (h2 : r' = r) : RMap σ' b r' := by
  obtain ⟨B, x, y, z⟩ := h
  exact ⟨B, x.kept h1, by rw [h2]; exact y, z⟩
theorem RPast.k {σ μ σ' μ' : St} (h : RPast σ μ) (h1 : σ' 16 = σ 16) (h2 : ∀ a, 49 ≤ a → σ' a = σ a) (h3 : μ' 0 17 = μ 0 17) (h4 : μ' 9 = μ 9) : RPast σ' μ' := by
  obtain ⟨n, o, a1, a2, a3, a4, a5, a6⟩ := h
  refine ⟨n, o, a1, a2, by rw [h1]; exact a3, by rw [h1]; exact a4, by rw [h3]; exact a5, fun j hj => (a6 j hj).k (fun a ha _ => h2 a (by unfold gPast at ha; omega)) (by rw [h4])⟩
theorem RImg.k {σ μ σ' μ' : St} (h : RImg σ μ) (h1 : ∀ a, 35 ≤ a → a < 49 → σ' a = σ a) (h2 : μ' 10 = μ 10) (h3 : μ' 11 = μ 11) : RImg σ' μ' := by
  intro k hk
  rw [h1 (gImg k) (by unfold gImg; omega) (by unfold gImg; omega), h2, h3]
  rcases h k hk with h | ⟨a, B, b, c⟩
  · exact Or.inl h
  · exact Or.inr ⟨a, B, b.kept (fun a h5 h6 => h1 a (by unfold gImg at h5; omega) (by unfold gImg at h6; omega)), c⟩
/-- only what is foretold on may differ -/
theorem Rel.k {σ μ σ' μ' : St} (h : Rel σ μ) (hx : ∀ a, (a < 28 ∨ 35 ≤ a) → σ' a = σ a) (hm : ∀ a, a ≠ 4 → a ≠ 7 → a ≠ 8 → a ≠ 12 → a ≠ 13 → a ≠ 14 → μ' a = μ a) : Rel σ' μ' := by
  obtain ⟨h1, h2, h3, h4, h5, h6, h7, h8⟩ := h
  have m0 := hm 0 (by omega) (by omega) (by omega) (by omega) (by omega) (by omega)
  have x0 := hx 0 (by omega)
  have x13 := hx 13 (by omega)
  refine ⟨h1.k (fun a _ _ _ => hx a (by omega)) (fun a _ _ => hm a (by omega) (by omega) (by omega) (by omega) (by omega) (by omega)), h2.k (by rw [x13]) (hx 14 (by omega)) (by rw [m0]) (hm 5 (by omega) (by omega) (by omega) (by omega) (by omega) (by omega)), by rw [x13, m0]; exact h3, by rw [x0, m0]; exact h4, h5.k (by rw [hx 18 (by omega)]) (hx 19 (by omega)) (by rw [m0]) (hm 15 (by omega) (by omega) (by omega) (by omega) (by omega) (by omega)), h6.k (fun a _ _ => hx a (by omega)) (hm 6 (by omega) (by omega) (by omega) (by omega) (by omega) (by omega)), h7.k (hx 16 (by omega)) (fun a _ => hx a (by omega)) (by rw [m0]) (hm 9 (by omega) (by omega) (by omega) (by omega) (by omega) (by omega)), h8.k (fun a _ _ => hx a (by omega)) (hm 10 (by omega) (by omega) (by omega) (by omega) (by omega) (by omega)) (hm 11 (by omega) (by omega) (by omega) (by omega) (by omega) (by omega))⟩
theorem if1 {c : Prop} {dc : Decidable c} (h : c) {α : Type} {dz : Decidable (@ite Int32 c dc 1 0 = 0)} {t e : α} : @ite α (@ite Int32 c dc 1 0 = 0) dz t e = e := if_neg (by rw [if_pos h]; decide)
theorem if0 {c : Prop} {dc : Decidable c} (h : ¬ c) {α : Type} {dz : Decidable (@ite Int32 c dc 1 0 = 0)} {t e : α} : @ite α (@ite Int32 c dc 1 0 = 0) dz t e = t := if_pos (if_neg h)
theorem ad_1 (a : Nat) : nI a + (1 : Int32) = nI (a + 1) := by rw [li_1, ad_n]
theorem hw6 : lenM 6 = 64 := rfl
theorem hw8 : lenM 8 = 64 := rfl
/-- both go through with one answer, and what is alike stays so -/
def Sr (R : St → St → Prop) (a b : Rt) : Prop := ∃ (r : Int32) (σ' μ' : St), a = some (r, σ') ∧ b = some (r, μ') ∧ R σ' μ'
theorem Sr.fin {R : St → St → Prop} {σ μ : St} {r : Int32} (h : R σ μ) : Sr R (some (r, σ)) (some (r, μ)) := ⟨r, σ, μ, rfl, rfl, h⟩
theorem Sr.im {R R' : St → St → Prop} {a b : Rt} (h : Sr R a b) (hi : ∀ σ μ, R σ μ → R' σ μ) : Sr R' a b := by
  obtain ⟨r, σ', μ', h1, h2, h3⟩ := h
  exact ⟨r, σ', μ', h1, h2, hi _ _ h3⟩
theorem Sr.bnd {R R' : St → St → Prop} {a b : Rt} {k l : Int32 → St → Rt} (h : Sr R a b) (hk : ∀ r σ μ, R σ μ → Sr R' (k r σ) (l r μ)) : Sr R' (bnd a k) (bnd b l) := by
  obtain ⟨r, σ', μ', h1, h2, h3⟩ := h
  rw [h1, h2]
  exact hk r σ' μ' h3
theorem bnd_bnd {a : Rt} {k l : Int32 → St → Rt} : bnd (bnd a k) l = bnd a (fun v s => bnd (k v s) l) := by
  cases a with
  | none => rfl
  | some p => rfl
theorem bnd_id {a : Rt} : bnd a (fun v s => some (v, s)) = a := by
  cases a with
  | none => rfl
  | some p => rfl
theorem sr_if {R : St → St → Prop} {c : Prop} {dc dc' : Decidable c} {dz : Decidable (@ite Int32 c dc 1 0 = 0)} {dz' : Decidable (@ite Int32 c dc' 1 0 = 0)} {a1 a2 b1 b2 : Rt} (h0 : ¬ c → Sr R a1 b1) (h1 : c → Sr R a2 b2) : Sr R (@ite Rt (@ite Int32 c dc 1 0 = 0) dz a1 a2) (@ite Rt (@ite Int32 c dc' 1 0 = 0) dz' b1 b2) := by
  by_cases h : c
  · rw [if1 h, if1 h]
    exact h1 h
  · rw [if0 h, if0 h]
    exact h0 h
theorem sr_ite {R : St → St → Prop} {c : Prop} {dc dc' : Decidable c} {a1 a2 b1 b2 : Rt} (h1 : c → Sr R a1 b1) (h0 : ¬ c → Sr R a2 b2) : Sr R (@ite Rt c dc a1 a2) (@ite Rt c dc' b1 b2) := by
  by_cases h : c
  · rw [if_pos h, if_pos h]
    exact h1 h
  · rw [if_neg h, if_neg h]
    exact h0 h
theorem a_fault {σ μ : St} (h : Rel σ μ) : Sr Rel (m_P_fault σ) (m_M_fault μ) := by
  unfold m_P_fault m_M_fault
  rw [h.2.2.1]
  exact Sr.fin h
theorem a_status {σ μ : St} (h : Rel σ μ) : Sr Rel (m_P_status σ) (m_M_status μ) := by
  unfold m_P_status m_M_status
  rw [h.2.2.2.1]
  exact Sr.fin h
theorem a_kind (x : Int32) {σ μ : St} (h : Rel σ μ) : Sr Rel (m_P_kind σ x) (m_M_kind μ x) := by
  obtain ⟨B, hR, hM, hW, hT⟩ := id h.2.2.2.2.2.1
  unfold m_P_kind m_M_kind m_M_kindIn
  rw [x_hasPin hR hW, bnd_s, m_isPin hM hW, bnd_s]
  by_cases hp : ∃ p, p < B 0 1 ∧ x = nI p
  · rw [if1 hp, if1 hp]
    obtain ⟨p, hp, rfl⟩ := hp
    have w1 := hW.2.1
    rw [bd_n (by omega) (by omega), cl_n (by omega), hR.2.2 5 (by omega) (by omega) p hp, ix0, hw6, bd_n (by omega) (by omega), cl_n (by omega), bnd_s, (hM.2.2.2.2.2.2.2 p hp).1]
    exact ⟨_, σ, μ, rfl, rfl, h⟩
  · rw [if0 hp, if0 hp]
    exact ⟨_, σ, μ, rfl, rfl, h⟩
theorem a_pin (x y : Int32) {σ μ : St} (h : Rel σ μ) : Sr Rel (m_P_pin σ x y) (m_M_pin μ x y) := by
  obtain ⟨B, hR, hM, hW, hT⟩ := id h.2.2.2.2.2.1
  unfold m_P_pin m_M_pin
  rw [x_hasPin hR hW, bnd_s, m_isPin hM hW, bnd_s]
  by_cases hp : ∃ p, p < B 0 1 ∧ x = nI p
  · rw [if1 hp, if1 hp]
    obtain ⟨p, hp, rfl⟩ := hp
    have w1 := hW.2.1
    obtain ⟨g0, g1, g2, g3, g4, g5⟩ := hM.2.2.2.2.2.2.2 p hp
    have hb : ∀ t : Rt, bd (nI p) 7 t = t := fun t => bd_n (by omega) (by omega)
    simp only [hb]
    rw [cl_n (by omega), x_place hR hW hp, bnd_s, in_n, bnd_s, ix0, ad_1, hw6, hR.2.2 2 (by omega) (by omega) p hp, hR.2.2 3 (by omega) (by omega) p hp, hR.2.2 4 (by omega) (by omega) p hp, hR.2.2 6 (by omega) (by omega) p hp]
    by_cases h0 : y = 0
    · subst h0
      rw [if_pos rfl, if1 (by decide), li_0, ad_n, bd_n (by omega) (by omega), cl_n (by omega)]
      exact ⟨_, σ, μ, rfl, by rw [Nat.add_zero, g1], h⟩
    · rw [if_neg h0]
      by_cases h1 : y = 1
      · subst h1
        rw [if_pos rfl, if1 (by decide), li_1, ad_n, bd_n (by omega) (by omega), cl_n (by omega)]
        exact ⟨_, σ, μ, rfl, by rw [Nat.add_assoc, g2], h⟩
      · rw [if_neg h1]
        by_cases h2 : y = 2
        · subst h2
          rw [if_pos rfl, if1 (by decide), li_2, ad_n, bd_n (by omega) (by omega), cl_n (by omega)]
          exact ⟨_, σ, μ, rfl, by rw [Nat.add_assoc, g3], h⟩
        · rw [if_neg h2]
          by_cases h3 : y = 3
          · subst h3
            rw [if_pos rfl, if1 (by decide), li_3, ad_n, bd_n (by omega) (by omega), cl_n (by omega)]
            exact ⟨_, σ, μ, rfl, by rw [Nat.add_assoc, g4], h⟩
          · rw [if_neg h3]
            by_cases h4 : y = 4
            · subst h4
              rw [if_pos rfl, if1 (by decide), li_4, ad_n, bd_n (by omega) (by omega), cl_n (by omega)]
              exact ⟨_, σ, μ, rfl, by rw [Nat.add_assoc, g5], h⟩
            · rw [if_neg h4, if0 (fun z => by
                have z1 := Int32.le_iff_toInt_le.mp z.1
                have z2 := Int32.le_iff_toInt_le.mp z.2
                have q0 := ne_i (z := 0) rfl h0
                have q1 := ne_i (z := 1) rfl h1
                have q2 := ne_i (z := 2) rfl h2
                have q3 := ne_i (z := 3) rfl h3
                have q4 := ne_i (z := 4) rfl h4
                rw [show (0 : Int32).toInt = 0 from rfl] at z1
                rw [show (4 : Int32).toInt = 4 from rfl] at z2
                omega)]
              exact ⟨_, σ, μ, rfl, rfl, h⟩
  · rw [if0 hp, if0 hp]
    exact ⟨_, σ, μ, rfl, rfl, h⟩
theorem a_cell (x y : Int32) {σ μ : St} (h : Rel σ μ) : Sr Rel (m_P_cell σ x y) (m_M_cell μ x y) := by
  obtain ⟨B, hR, hM, hW, hT⟩ := id h.2.2.2.2.2.1
  unfold m_P_cell m_M_cell
  rw [x_hasCell hR hW, bnd_s, m_isCell hM hW, bnd_s]
  by_cases hp : ∃ p, p < B 0 0 ∧ x = nI p
  · rw [if1 hp, if1 hp]
    obtain ⟨p, hp, rfl⟩ := hp
    have w0 := hW.1
    rw [bd_n (by omega) (by omega), cl_n (by omega), hR.2.1 p hp, x_pinsIn hR hW, x_owner hR hW, bnd_s, bnd_s, li_6, ad_n, hw6, bd_n (by omega) (by omega), cl_n (by omega), hM.2.2.2.2.2.2.1 p hp, m_inCell hw6 hM hW, m_homeOf hw6 hM hW, bnd_s, bnd_s]
    by_cases h0 : y = 0
    · rw [if_pos h0, if_pos h0]
      exact ⟨_, σ, μ, rfl, rfl, h⟩
    · rw [if_neg h0, if_neg h0]
      by_cases h1 : y = 1
      · rw [if_pos h1, if_pos h1]
        exact ⟨_, σ, μ, rfl, rfl, h⟩
      · rw [if_neg h1, if_neg h1]
        by_cases h2 : y = 2
        · rw [if_pos h2, if_pos h2]
          exact ⟨_, σ, μ, rfl, rfl, h⟩
        · rw [if_neg h2, if_neg h2]
          exact ⟨_, σ, μ, rfl, rfl, h⟩
  · rw [if0 hp, if0 hp]
    exact ⟨_, σ, μ, rfl, rfl, h⟩
theorem a_trace (x : Int32) {σ μ : St} (h : Rel σ μ) : Sr Rel (m_P_trace σ x) (m_M_trace μ x) := by
  obtain ⟨n, h1, h2, h3, h4⟩ := id h.2.2.2.2.1
  unfold m_P_trace m_M_trace
  rw [h2, h3, within_n, in_n, bnd_s, bnd_s]
  by_cases hp : (0 : Int32) ≤ x ∧ x ≤ nI n - 1
  · rw [if1 hp, if1 hp]
    obtain ⟨j, hj, rfl⟩ := (in_iff (by omega)).mp hp
    rw [bd_n (by omega) (by omega), show lenM 15 = 16 from rfl, bd_n (by omega) (by omega), cl_n (by omega)]
    rw [h4 j hj]
    exact Sr.fin h
  · rw [if0 hp, if0 hp]
    exact ⟨_, σ, μ, rfl, rfl, h⟩
theorem Rel.st {σ μ : St} (h : Rel σ μ) (v : Int32) : Rel (up σ 0 7 v) (up μ 0 4 v) := by
  obtain ⟨h1, h2, h3, h4, h5, h6, h7, h8⟩ := h
  exact ⟨h1.k (fun a _ _ _ => up_o (by omega)) (fun a _ _ => up_o (by omega)), h2.k (by rw [up_o (by omega)]) (up_o (by omega)) (up_n (by omega)) (up_o (by omega)), by rw [up_o (by omega), up_n (by omega)]; exact h3, by rw [up_s, up_s], h5.k (by rw [up_o (by omega)]) (up_o (by omega)) (up_n (by omega)) (up_o (by omega)), h6.k (fun a _ _ => up_o (by omega)) (up_o (by omega)), h7.k (up_o (by omega)) (fun a _ => up_o (by omega)) (up_n (by omega)) (up_o (by omega)), h8.k (fun a _ _ => up_o (by omega)) (up_o (by omega)) (up_o (by omega))⟩
/-- a finding, or none, is kept alike -/
theorem sr_find {σ μ : St} (h : Rel σ μ) (v : Int32) : Sr Rel (bnd (m_P_finding σ v) (fun v s => some (v, s))) (bnd (m_M_found μ v) (fun v s => some (v, s))) := ⟨_, _, _, rfl, rfl, h.st v⟩
theorem sr_well {σ μ : St} (h : Rel σ μ) (v : Int32) : Sr Rel (bnd (m_P_foundNothing σ v) (fun v s => some (v, s))) (bnd (m_M_well μ v) (fun v s => some (v, s))) := ⟨_, _, _, rfl, rfl, h.st 0⟩
/-- from 0 to a most -/
theorem le_iff {x : Int32} {n : Nat} (hn : n < 2147483647) : ((0 : Int32) ≤ x ∧ x ≤ nI n) ↔ ∃ j, j ≤ n ∧ x = nI j := by
  have h := in_iff (x := x) (n := n + 1) (by omega)
  rw [li_1, sb_n (by omega), Nat.add_sub_cancel] at h
  rw [h]
  constructor
  · rintro ⟨j, a, b⟩
    exact ⟨j, by omega, b⟩
  · rintro ⟨j, a, b⟩
    exact ⟨j, by omega, b⟩
theorem isA_n (σ : St) (a b : Int32) : m_P_isA σ a b = some ((if b = 0 ∨ b = a ∨ (b = 1 ∧ (a = 2 ∨ a = 3)) ∨ (b = 4 ∧ a = 5) then 1 else 0), σ) := by
  unfold m_P_isA
  by_cases h0 : b = 0
  · rw [if_pos h0, vB_1, if_pos (Or.inl h0)]
  · rw [if_neg h0]
    by_cases h1 : b = a
    · rw [if_pos h1, vB_1, if_pos (Or.inr (Or.inl h1))]
    · rw [if_neg h1]
      by_cases h2 : b = 1
      · rw [if_pos h2]
        by_cases h3 : a = 2
        · rw [if_pos h3, vB_1, if_pos (Or.inr (Or.inr (Or.inl ⟨h2, Or.inl h3⟩)))]
        · rw [if_neg h3]
          by_cases h4 : a = 3
          · rw [if_pos h4, vB_1, if_pos (Or.inr (Or.inr (Or.inl ⟨h2, Or.inr h4⟩)))]
          · rw [if_neg h4, vB_0, if_neg]
            rintro (z | z | z | z)
            · exact h0 z
            · exact h1 z
            · rcases z.2 with z | z
              · exact h3 z
              · exact h4 z
            · rw [h2] at z
              exact absurd z.1 (by decide)
      · rw [if_neg h2]
        by_cases h3 : b = 4
        · rw [if_pos h3]
          by_cases h4 : a = 5
          · rw [if_pos h4, vB_1, if_pos (Or.inr (Or.inr (Or.inr ⟨h3, h4⟩)))]
          · rw [if_neg h4, vB_0, if_neg]
            rintro (z | z | z | z)
            · exact h0 z
            · exact h1 z
            · exact h2 z.1
            · exact h4 z.2
        · rw [if_neg h3, vB_0, if_neg]
          rintro (z | z | z | z)
          · exact h0 z
          · exact h1 z
          · exact h2 z.1
          · exact h3 z.1
