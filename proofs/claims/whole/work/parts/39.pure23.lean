/-! pure: both read on, step by step -/
def FrP (σ0 σ : St) : Prop := (∀ a, a ≠ 13 → (a < 28 ∨ 35 ≤ a) → σ a = σ0 a) ∧ σ 13 1 = σ0 13 1
def FrMr (μ0 μ : St) : Prop := (∀ a, a ≠ 0 → a ≠ 7 → μ a = μ0 a) ∧ ∀ i, (i < 7 ∨ 12 < i) → μ 0 i = μ0 0 i
theorem FrP.f {σ0 a b : St} (h : FrP σ0 a) (f : F13 a b) : FrP σ0 b := ⟨fun x h1 h2 => (f.1 x h1).trans (h.1 x h1 h2), f.2.1.trans h.2⟩
theorem FrP.l {σ0 a b : St} {pl k : Nat} (h : FrP σ0 a) (f : Flt a b pl k) : FrP σ0 b := ⟨fun x h1 h2 => (f.1 x h1).trans (h.1 x h1 h2), f.2.1.trans h.2⟩
theorem FrP.u {σ0 a : St} (h : FrP σ0 a) {w : Nat} (hw : 28 ≤ w ∧ w < 35) (i : Nat) (v : Int32) : FrP σ0 (up a w i v) := ⟨fun x h1 h2 => (up_o (by omega)).trans (h.1 x h1 h2), by rw [up_o (by omega)]; exact h.2⟩
theorem FrMr.f {μ0 a b : St} (h : FrMr μ0 a) (f : Fm7 a b) : FrMr μ0 b := ⟨fun x h1 h2 => (f.1 x h1).trans (h.1 x h1 h2), fun i hi => (f.2 i hi).trans (h.2 i hi)⟩
theorem FrMr.u {μ0 a : St} (h : FrMr μ0 a) (i : Nat) (v : Int32) : FrMr μ0 (up a 7 i v) := ⟨fun x h1 h2 => (up_o h2).trans (h.1 x h1 h2), fun j hj => by rw [up_o (by omega)]; exact h.2 j hj⟩
section STP
variable {c : Nat → Nat} {n p : Nat} {σ μ : St}
theorem r_num (hT : Tp c n) (hS : PS c n p σ) (hM : MS c n p μ) (hp : p ≤ n) {lo hi : Nat} (hlo : lo < 10000) (hhi : hi < 10000) : (∃ v q σ' μ', numAt c n p v q ∧ lo ≤ v ∧ v ≤ hi ∧ q ≤ n ∧ m_Reader_takesNumber σ (nI lo) (nI hi) = some (1, σ') ∧ PS c n q σ' ∧ σ' 13 5 = nI v ∧ F13 σ σ' ∧ m_M_figure μ (nI lo) (nI hi) = some (nI v, μ') ∧ MS c n q μ' ∧ Fm9 μ μ') ∨ (∃ k σ' μ', m_Reader_takesNumber σ (nI lo) (nI hi) = some (0, σ') ∧ Flt σ σ' p k ∧ m_M_figure μ (nI lo) (nI hi) = some (0, μ') ∧ Dd p k μ' ∧ Fm7 μ μ' ∧ (∀ v q, numAt c n p v q → k = 2 ∧ ¬ (lo ≤ v ∧ v ≤ hi))) := by
  obtain ⟨x1, x2⟩ := x_num hT hS hp hlo hhi
  obtain ⟨y1, y2⟩ := m_fig hT hM hp hlo hhi
  by_cases hn : ∃ v q, numAt c n p v q
  · obtain ⟨v, q, hn⟩ := hn
    obtain ⟨a1, a2⟩ := x1 v q hn
    obtain ⟨b1, b2⟩ := y1 v q hn
    by_cases hr : lo ≤ v ∧ v ≤ hi
    · obtain ⟨σ', s1, s2, s3, s4⟩ := a1 hr
      obtain ⟨μ', t1, t2, t3⟩ := b1 hr
      exact Or.inl ⟨v, q, σ', μ', hn, hr.1, hr.2, (numAt_in hn).2.1, s1, s2, s3, s4, t1, t2, t3⟩
    · obtain ⟨σ', s1, s2⟩ := a2 hr
      obtain ⟨μ', t1, t2, t3⟩ := b2 hr
      exact Or.inr ⟨2, σ', μ', s1, s2, t1, t2, t3, fun v' q' hn' => ⟨rfl, by
        obtain ⟨e, _⟩ := numAt_un hn' hn
        rw [e]
        exact hr⟩⟩
  · obtain ⟨σ', s1, s2⟩ := x2 hn
    obtain ⟨μ', t1, t2, t3⟩ := y2 hn
    exact Or.inr ⟨1, σ', μ', s1, s2, t1, t2, t3, fun v' q' hn' => absurd ⟨v', q', hn'⟩ hn⟩
theorem r_sem (hT : Tp c n) (hS : PS c n p σ) (hM : MS c n p μ) (hp : p ≤ n) : (∃ r σ' μ', p + 1 ≤ n ∧ m_Reader_takes σ (nI 59) = some (1, σ') ∧ PS c n (p + 1) σ' ∧ F13 σ σ' ∧ μ 0 11 = nI 4 ∧ m_M_takes μ 1 (nI 1) = some (r, μ') ∧ MS c n (p + 1) μ' ∧ Fm9 μ μ') ∨ (∃ σ' μ', m_Reader_takes σ (nI 59) = some (0, σ') ∧ Flt σ σ' p 1 ∧ ¬ μ 0 11 = nI 4 ∧ m_M_takes μ 0 (nI 1) = some (0, μ') ∧ Dd p 1 μ' ∧ Fm7 μ μ') := by
  have t1 := hT.1
  obtain ⟨x1, x2⟩ := x_tk hT hS hp (L := 59) (by omega)
  obtain ⟨k1, k2, k3, k4, k5, k6⟩ := tok_kind hT hM
  by_cases h : p < n ∧ c p = 59
  · obtain ⟨σ', s1, s2, s3⟩ := x1 h
    obtain ⟨μ', u1, u2, u3⟩ := m_tk1 hT hM (k5 h.1 (Or.inl h.2)) (by omega) (nI 1)
    exact Or.inl ⟨_, σ', μ', by omega, s1, s2, s3, k2.mpr h, u1, u2, u3⟩
  · obtain ⟨σ', s1, s2⟩ := x2 h
    obtain ⟨μ', u1, u2, u3⟩ := m_tk0 hM (by omega) 1
    exact Or.inr ⟨σ', μ', s1, s2, fun z => h (k2.mp z), u1, u2, u3⟩
theorem r_fol (hT : Tp c n) (hS : PS c n p σ) (hM : MS c n p μ) (hp : p ≤ n) {lo hi : Nat} (hlo : lo < 10000) (hhi : hi < 10000) : (∃ v q σ1 σ2 μ', lo ≤ v ∧ v ≤ hi ∧ q ≤ n ∧ m_Reader_takes σ (nI 44) = some (1, σ1) ∧ m_Reader_takesNumber σ1 (nI lo) (nI hi) = some (1, σ2) ∧ PS c n q σ2 ∧ σ2 13 5 = nI v ∧ F13 σ σ2 ∧ m_M_follows μ (nI lo) (nI hi) = some (nI v, μ') ∧ MS c n q μ' ∧ Fm9 μ μ') ∨ (∃ pl k σ2 μ', (m_Reader_takes σ (nI 44) = some (0, σ2) ∨ ∃ σ1, m_Reader_takes σ (nI 44) = some (1, σ1) ∧ m_Reader_takesNumber σ1 (nI lo) (nI hi) = some (0, σ2)) ∧ Flt σ σ2 pl k ∧ m_M_follows μ (nI lo) (nI hi) = some (0, μ') ∧ Dd pl k μ' ∧ Fm7 μ μ') := by
  have t1 := hT.1
  obtain ⟨x1, x2⟩ := x_tk hT hS hp (L := 44) (by omega)
  obtain ⟨k1, k2, k3, k4, k5, k6⟩ := tok_kind hT hM
  unfold m_M_follows m_M_follows_B14
  by_cases h : p < n ∧ c p = 44
  · obtain ⟨σ1, s1, s2, s3⟩ := x1 h
    obtain ⟨μ1, u1, u2, u3⟩ := m_tk1 hT hM (k5 h.1 (Or.inr (Or.inl h.2))) (by omega) (1 : Int32)
    rw [if_pos (show μ 0 11 = (3 : Int32) from k3.mpr h), u1, bnd_s]
    rcases r_num hT s2 u2 (by omega) hlo hhi with ⟨v, q, σ2, μ2, a1, a2, a3, a4, a5, a6, a7, a8, a9, a10, a11⟩ | ⟨k, σ2, μ2, a1, a2, a3, a4, a5, a6⟩
    · rw [a9, bnd_s]
      exact Or.inl ⟨v, q, σ1, σ2, μ2, a2, a3, a4, s1, a5, a6, a7, s3.tr a8, rfl, a10, u3.tr a11⟩
    · rw [a3, bnd_s]
      exact Or.inr ⟨p + 1, k, σ2, μ2, Or.inr ⟨σ1, s1, a1⟩, a2.of s3, rfl, a4, u3.to7.tr a5⟩
  · obtain ⟨σ1, s1, s2⟩ := x2 h
    obtain ⟨μ1, u1, u2, u3⟩ := m_tk0 hM (by omega) 1
    have u1' : m_M_takes μ (0 : Int32) (1 : Int32) = some (0, μ1) := u1
    rw [if_neg (show ¬ μ 0 11 = (3 : Int32) from fun z => h (k3.mp z)), u1', bnd_s, m_figd u2, bnd_s]
    exact Or.inr ⟨p, 1, σ1, μ1, Or.inl s1, s2, rfl, u2, u3⟩
end STP
def RD (r : Nat → Int32) (B : Bt) : Prop := r 0 = nI (B 0 2) ∧ r 1 = nI (B 0 0) ∧ r 2 = nI (B 0 1) ∧ r 3 = nI 0 ∧ r 4 = nI 0 ∧ r 5 = nI 0 ∧ (∀ i, i < B 0 0 → r (6 + i) = nI (B 1 i)) ∧ ∀ p, p < B 0 1 → r (22 + 6 * p) = nI (B 5 p) ∧ r (22 + 6 * p + 1) = nI (B 2 p) ∧ r (22 + 6 * p + 2) = nI (B 3 p) ∧ r (22 + 6 * p + 3) = nI (B 4 p) ∧ r (22 + 6 * p + 4) = nI (B 6 p) ∧ r (22 + 6 * p + 5) = nI (B 6 p)
theorem RD.rm {r : Nat → Int32} {B : Bt} (h : RD r B) (h3 : B 0 3 = 0) (h4 : B 0 4 = 0) : RM r (ub B 0 5 0) (fun q => nI (B 6 q)) := by
  obtain ⟨a0, a1, a2, a3, a4, a5, a6, a7⟩ := h
  exact ⟨a0, a1, a2, by rw [a3, ub_v, if_neg (by omega), h3], a4, by rw [a5, ub_v, if_neg (by omega), h4], a6, a7⟩
def Lv (c : Nat → Nat) (n : Nat) (σ0 μ0 : St) (B : Bt) (p : Nat) (σ μ : St) : Prop := PS c n p σ ∧ MS c n p μ ∧ p ≤ n ∧ RB σ 28 B ∧ RD (μ 7) B ∧ WF B ∧ (B 0 5 = 1 ∧ B 0 3 = 0 ∧ B 0 4 = 0) ∧ FrP σ0 σ ∧ σ 13 2 = σ0 13 2 ∧ FrMr μ0 μ ∧ μ 0 7 = μ0 0 7
def Dv (σ0 μ0 σ μ : St) : Prop := ∃ pl k, σ 13 2 = nI k ∧ σ 13 3 = nI pl ∧ Dd pl k μ ∧ FrP σ0 σ ∧ FrMr μ0 μ
theorem RB.cell {σ : St} {b : Nat} {B : Bt} (h : RB σ b B) (v : Nat) : RB (up (up σ (b + 1) (B 0 0) (nI v)) b 0 (nI (B 0 0 + 1))) b (ub (ub B 1 (B 0 0) v) 0 0 (B 0 0 + 1)) := by
  have e1 : ub (ub B 1 (B 0 0) v) 0 0 (B 0 0 + 1) 0 1 = B 0 1 := by rw [ub_v, if_neg (by omega), ub_v, if_neg (by omega)]
  have e0 : ub (ub B 1 (B 0 0) v) 0 0 (B 0 0 + 1) 0 0 = B 0 0 + 1 := by rw [ub_v, if_pos ⟨rfl, rfl⟩]
  have eW : ∀ i, ub (ub B 1 (B 0 0) v) 0 0 (B 0 0 + 1) 1 i = if i = B 0 0 then v else B 1 i := fun i => by simp [ub_v]
  refine ⟨fun j hj => ?_, fun i hi => ?_, fun f h1 h2 p hp => ?_⟩
  · rw [up_v, ub_v]
    by_cases e : j = 0
    · rw [if_pos ⟨rfl, e⟩, if_pos ⟨rfl, e⟩]
    · rw [if_neg (fun z => e z.2), if_neg (fun z => e z.2), up_o (by omega), ub_v, if_neg (by omega)]
      exact h.1 j hj
  · rw [e0] at hi
    rw [up_o (by omega), up_v, eW]
    by_cases e : i = B 0 0
    · rw [if_pos ⟨rfl, e⟩, if_pos e]
    · rw [if_neg (fun z => e z.2), if_neg e]
      exact h.2.1 i (by omega)
  · rw [e1] at hp
    rw [up_o (by omega), up_o (by omega), ub_v, if_neg (by omega), ub_v, if_neg (by omega)]
    exact h.2.2 f h1 h2 p hp
theorem RD.cell {r : Nat → Int32} {B : Bt} (h : RD r B) (hc : B 0 0 < 16) (v : Nat) : RD (upd (upd r (6 + B 0 0) (nI v)) 1 (nI (B 0 0 + 1))) (ub (ub B 1 (B 0 0) v) 0 0 (B 0 0 + 1)) := by
  obtain ⟨a0, a1, a2, a3, a4, a5, a6, a7⟩ := h
  have e1 : ub (ub B 1 (B 0 0) v) 0 0 (B 0 0 + 1) 0 1 = B 0 1 := by rw [ub_v, if_neg (by omega), ub_v, if_neg (by omega)]
  have e0 : ub (ub B 1 (B 0 0) v) 0 0 (B 0 0 + 1) 0 0 = B 0 0 + 1 := by rw [ub_v, if_pos ⟨rfl, rfl⟩]
  have eW : ∀ i, ub (ub B 1 (B 0 0) v) 0 0 (B 0 0 + 1) 1 i = if i = B 0 0 then v else B 1 i := fun i => by simp [ub_v]
  have eo : ∀ a i, 2 ≤ a → ub (ub B 1 (B 0 0) v) 0 0 (B 0 0 + 1) a i = B a i := fun a i ha => by rw [ub_v, if_neg (by omega), ub_v, if_neg (by omega)]
  refine ⟨by rw [upd_n (by omega), upd_n (by omega), a0, ub_v, if_neg (by omega), ub_v, if_neg (by omega)], by rw [upd_s, e0], by rw [upd_n (by omega), upd_n (by omega), e1]; exact a2, by rw [upd_n (by omega), upd_n (by omega)]; exact a3, by rw [upd_n (by omega), upd_n (by omega)]; exact a4, by rw [upd_n (by omega), upd_n (by omega)]; exact a5, fun i hi => ?_, fun p hp => ?_⟩
  · rw [e0] at hi
    rw [upd_n (by omega), upd_v, eW]
    by_cases e : i = B 0 0
    · rw [if_pos (by omega), if_pos e]
    · rw [if_neg (by omega), if_neg e]
      exact a6 i (by omega)
  · rw [e1] at hp
    obtain ⟨b0, b1, b2, b3, b4, b5⟩ := a7 p hp
    rw [eo 5 p (by omega), eo 2 p (by omega), eo 3 p (by omega), eo 4 p (by omega), eo 6 p (by omega)]
    refine ⟨by rw [upd_n (by omega), upd_n (by omega)]; exact b0, by rw [upd_n (by omega), upd_n (by omega)]; exact b1, by rw [upd_n (by omega), upd_n (by omega)]; exact b2, by rw [upd_n (by omega), upd_n (by omega)]; exact b3, by rw [upd_n (by omega), upd_n (by omega)]; exact b4, by rw [upd_n (by omega), upd_n (by omega)]; exact b5⟩
section CEL
variable {c : Nat → Nat} {n p : Nat} {σ0 μ0 σ μ : St} {B : Bt}
theorem m_cell_dead {pl k : Nat} {μ : St} (h : Dd pl k μ) (x y z : Int32) : m_M_readsCell_B69 μ x y z = some (0, μ) := by
  unfold m_M_readsCell_B69
  rw [m_tkd h, bnd_s, m_well0 h, bnd_s, if_pos rfl]
theorem m_cell45_dead {pl k : Nat} {μ : St} (h : Dd pl k μ) (x y : Int32) : m_M_readsCell_B45 μ x y = some (0, μ) := by
  unfold m_M_readsCell_B45
  rw [nm_i, m_figd h, bnd_s, m_cell_dead h, m_cell_dead h]
  split <;> rfl
theorem hw7 : lenM 7 = 64 := rfl
theorem PS.u {c : Nat → Nat} {n p : Nat} {σ : St} (h : PS c n p σ) {w : Nat} (hw : 28 ≤ w) (i : Nat) (v : Int32) : PS c n p (up σ w i v) := ⟨by rw [up_o (by omega)]; exact h.1, by rw [up_o (by omega)]; exact h.2.1, fun j hj => by rw [up_o (by omega)]; exact h.2.2 j hj⟩
theorem MS.u {c : Nat → Nat} {n p : Nat} {μ : St} (h : MS c n p μ) (i : Nat) (v : Int32) : MS c n p (up μ 7 i v) := by
  have e0 : up μ 7 i v 0 = μ 0 := up_o (by omega)
  have e5 : up μ 7 i v 5 = μ 5 := up_o (by omega)
  unfold MS MT TokAt
  rw [e0, e5]
  exact h
theorem r_cell (hT : Tp c n) (h : Lv c n σ0 μ0 B p σ μ) (hP : B 0 1 = 0) (hc : p < n ∧ c p = 99) : (∃ σ' μ', m_Reader_readCell 28 σ = some (0, σ') ∧ m_M_readsCell μ = some (0, μ') ∧ Dv σ0 μ0 σ' μ') ∨ (∃ σ' μ' B' p', m_Reader_readCell 28 σ = some (1, σ') ∧ m_M_readsCell μ = some (0, μ') ∧ Lv c n σ0 μ0 B' p' σ' μ' ∧ B' 0 0 = B 0 0 + 1 ∧ B' 0 1 = 0) := by
  have t1 := hT.1
  obtain ⟨hS, hM, hp, hR, hD, hW, hk, fP, f2, fM, f7⟩ := h
  have w0 := hW.1
  obtain ⟨k1, k2, k3, k4, k5, k6⟩ := tok_kind hT hM
  have hb1 : ∀ t : Rt, bd (1 : Int32) 64 t = t := fun t => bd_n (n := 1) (by omega) (by omega)
  unfold m_Reader_readCell m_M_readsCell
  rw [hw7, hb1, show (1 : Int32).toNatClampNeg = 1 from rfl, hD.2.1, hR.1 0 (by omega), li_16, ilt (by omega) (by omega), ile (by omega) (by omega)]
  by_cases h16 : 16 ≤ B 0 0
  · rw [if_neg (show ¬ B 0 0 < 16 by omega), if_pos h16, hS.2.1, li_3]
    obtain ⟨σ', e1, g1⟩ := x_flt σ p 3
    obtain ⟨μ', e2, g2, g3⟩ := m_tk0 hM (by omega) 3
    rw [e1, bnd_s, vB_0]
    unfold m_M_readsCell_B17
    rw [show m_M_takes μ (0 : Int32) (3 : Int32) = some (0, μ') from e2, bnd_s, m_cell45_dead g2, m_cell45_dead g2, hw7, hb1, hb1]
    refine Or.inl ⟨σ', μ', rfl, ?_, p, 3, g1.2.2.1, g1.2.2.2, g2, fP.l g1, fM.f g3⟩
    split <;> rfl
  · rw [if_pos (show B 0 0 < 16 by omega), if_neg h16]
    obtain ⟨x1, _⟩ := x_tk hT hS hp (L := 99) (by omega)
    obtain ⟨σ1, s1, s2, s3⟩ := x1 hc
    obtain ⟨μ1, u1, u2, u3⟩ := m_tk1 hT hM (k5 hc.1 (Or.inr (Or.inr (by omega)))) (by omega) (3 : Int32)
    have hD1 : RD (μ1 7) B := by rw [u3.1 7 (by omega)]; exact hD
    unfold m_M_readsCell_B17
    rw [show (99 : Int32) = nI 99 from rfl, s1, bnd_s, if_neg (show ¬ (1 : Int32) = 0 by decide), u1, bnd_s, hw7, hb1, hb1, show (1 : Int32).toNatClampNeg = 1 from rfl, hD1.2.1, li_16, ile (by omega) (by omega), if_neg h16]
    unfold m_M_readsCell_B45
    rw [nm_i, li_0, li_9]
    rcases r_num hT s2 u2 (by omega) (lo := 0) (hi := 9) (by omega) (by omega) with ⟨v, q, σ2, μ2, a1, a2, a3, a4, a5, a6, a7, a8, a9, a10, a11⟩ | ⟨k, σ2, μ2, a1, a2, a3, a4, a5, a6⟩
    · rw [a5, a9, bnd_s, bnd_s, ← li_0, if_neg (show ¬ (1 : Int32) = 0 by decide)]
      have hR2 : RB σ2 28 B := hR.kept (fun a _ _ => by rw [a8.1 a (by omega), s3.1 a (by omega)])
      have hD2 : RD (μ2 7) B := by rw [a11.1 7 (by omega)]; exact hD1
      rw [hR2.1 0 (by omega), bd_n (by omega) (by omega), cl_n (by omega), a7, nmS_e, nmS_e, up_o (by omega), hR2.1 0 (by omega), ad_1]
      have hS3 : PS c n q (up (up σ2 (28 + 1) (B 0 0) (nI v)) 28 0 (nI (B 0 0 + 1))) := (a6.u (by omega) _ _).u (by omega) _ _
      have hR3 := hR2.cell v
      have fP3 : FrP σ0 (up (up σ2 (28 + 1) (B 0 0) (nI v)) 28 0 (nI (B 0 0 + 1))) := (((fP.f s3).f a8).u (by omega) _ _).u (by omega) _ _
      have f23 : up (up σ2 (28 + 1) (B 0 0) (nI v)) 28 0 (nI (B 0 0 + 1)) 13 2 = σ0 13 2 := by rw [up_o (by omega), up_o (by omega), a8.2.2, s3.2.2]; exact f2
      have fM2 : FrMr μ0 μ2 := (fM.f u3.to7).f a11.to7
      have f72 : μ2 0 7 = μ0 0 7 := by rw [a11.2 7 (by omega), u3.2 7 (by omega)]; exact f7
      generalize up (up σ2 (28 + 1) (B 0 0) (nI v)) 28 0 (nI (B 0 0 + 1)) = σ3 at hS3 hR3 fP3 f23 ⊢
      rw [li_6, ad_n]
      unfold m_M_readsCell_B69
      rw [show (59 : Int32) = nI 59 from rfl, show (4 : Int32) = nI 4 from rfl]
      rcases r_sem hT hS3 a10 a4 with ⟨r, σ4, μ4, b1, b2, b3, b4, b5, b6, b7, b8⟩ | ⟨σ4, μ4, b1, b2, b3, b4, b5, b6⟩
      · rw [b2, bnd_s, vB_1, if_pos b5, show (1 : Int32) = nI 1 from rfl]
        rw [show m_M_takes μ2 (nI 1) (nI 1) = some (r, μ4) from b6, bnd_s, m_well1 b7.2.1, bnd_s, if_neg (show ¬ (1 : Int32) = 0 by decide), hw7, bd_n (by omega) (by omega), cl_n (by omega), nmS_e]
        have hb1' : ∀ t : Rt, bd (nI 1) 64 t = t := fun t => bd_n (n := 1) (by omega) (by omega)
        have hD4 : RD (μ4 7) B := by rw [b8.1 7 (by omega)]; exact hD2
        have e71 : up μ4 7 (6 + B 0 0) (nI v) 7 1 = nI (B 0 0) := by rw [up_n (by omega)]; exact hD4.2.1
        rw [hb1', hb1', cl_n (by omega), e71, nmS_e, ad_n]
        refine Or.inr ⟨σ4, _, ub (ub B 1 (B 0 0) v) 0 0 (B 0 0 + 1), q + 1, rfl, rfl, ⟨b3, (b7.u _ _).u _ _, b1, hR3.kept (fun a _ _ => b4.1 a (by omega)), ?_, ?_, hk, fP3.f b4, by rw [b4.2.2]; exact f23, ((fM2.f b8.to7).u _ _).u _ _, ?_⟩, rfl, hP⟩
        · rw [up_row, up_row]
          exact hD4.cell (by omega) v
        · obtain ⟨w0, w1, w2, w4, w5, w6, w7⟩ := hW
          refine ⟨?_, w1, w2, w4, w5, fun i hi => ?_, fun p hp => ?_⟩
          · show B 0 0 + 1 ≤ 16
            omega
          · have hi' : i < B 0 0 + 1 := hi
            show ub (ub B 1 (B 0 0) v) 0 0 (B 0 0 + 1) 1 i ≤ 9
            rw [ub_v, if_neg (by omega), ub_v]
            by_cases e : i = B 0 0
            · rw [if_pos ⟨rfl, e⟩]
              exact a3
            · rw [if_neg (fun z => e z.2)]
              exact w6 i (by omega)
          · have hp' : p < B 0 1 := hp
            omega
        · rw [up_o (by omega), up_o (by omega), b8.2 7 (by omega)]
          exact f72
      · rw [b1, bnd_s, vB_0, if_neg b3, li_1, b4, bnd_s, m_well0 b5, bnd_s, if_pos rfl]
        exact Or.inl ⟨σ4, μ4, rfl, rfl, q, 1, b2.2.2.1, b2.2.2.2, b5, fP3.l b2, fM2.f b6⟩
    · rw [a1, a3, bnd_s, bnd_s, ← li_0, if_pos rfl, vB_0, m_cell_dead a4, m_cell_dead a4]
      refine Or.inl ⟨σ2, μ2, rfl, ?_, p + 1, k, a2.2.2.1, a2.2.2.2, a4, (fP.f s3).l a2, (fM.f u3.to7).f a5⟩
      split <;> rfl
end CEL
