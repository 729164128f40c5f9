/-! pure: both read a pin -/
def nb (B : Bt) (K H S C : Nat) : Bt := fun a i => if a = 0 then (if i = 1 then B 0 1 + 1 else B 0 i) else if a = 1 then B 1 i else if i = B 0 1 then (if a = 5 then K else if a = 3 then S else if a = 4 then C else H) else B a i
theorem RB.pin {σ : St} {b : Nat} {B : Bt} {K H S C : Nat} (h : RB σ b B) (g2 : σ (b + 2) (B 0 1) = nI H) (g3 : σ (b + 3) (B 0 1) = nI S) (g4 : σ (b + 4) (B 0 1) = nI C) (g5 : σ (b + 5) (B 0 1) = nI K) (g6 : σ (b + 6) (B 0 1) = nI H) : RB (up σ b 1 (nI (B 0 1 + 1))) b (nb B K H S C) := by
  refine ⟨fun j hj => ?_, fun i hi => ?_, fun f h1 h2 p hp => ?_⟩
  · show up σ b 1 (nI (B 0 1 + 1)) b j = nI (if j = 1 then B 0 1 + 1 else B 0 j)
    rw [up_v]
    by_cases e : j = 1
    · rw [if_pos ⟨rfl, e⟩, if_pos e]
    · rw [if_neg (fun z => e z.2), if_neg e]
      exact h.1 j hj
  · have hi : i < B 0 0 := hi
    show up σ b 1 (nI (B 0 1 + 1)) (b + 1) i = nI (B 1 i)
    rw [up_o (by omega)]
    exact h.2.1 i hi
  · have hp : p < B 0 1 + 1 := hp
    rw [up_o (by omega)]
    by_cases e : p = B 0 1
    · rw [e]
      rcases (show f = 2 ∨ f = 3 ∨ f = 4 ∨ f = 5 ∨ f = 6 by omega) with rfl | rfl | rfl | rfl | rfl
      · show _ = nI (if B 0 1 = B 0 1 then H else B 2 (B 0 1))
        rw [if_pos rfl]
        exact g2
      · show _ = nI (if B 0 1 = B 0 1 then S else B 3 (B 0 1))
        rw [if_pos rfl]
        exact g3
      · show _ = nI (if B 0 1 = B 0 1 then C else B 4 (B 0 1))
        rw [if_pos rfl]
        exact g4
      · show _ = nI (if B 0 1 = B 0 1 then K else B 5 (B 0 1))
        rw [if_pos rfl]
        exact g5
      · show _ = nI (if B 0 1 = B 0 1 then H else B 6 (B 0 1))
        rw [if_pos rfl]
        exact g6
    · have e2 : nb B K H S C f p = B f p := by
        unfold nb
        rw [if_neg (by omega), if_neg (by omega), if_neg e]
      rw [e2]
      exact h.2.2 f h1 h2 p (by omega)
theorem RD.pin {r R : Nat → Int32} {B : Bt} (h : RD r B) (hP : B 0 1 < 7) (h16 : B 0 0 ≤ 16) (K H S C : Nat) (e : R = upd (upd (upd (upd (upd (upd (upd r (22 + 6 * B 0 1) (nI K)) (22 + 6 * B 0 1 + 1) (nI H)) (22 + 6 * B 0 1 + 2) (nI S)) (22 + 6 * B 0 1 + 3) (nI C)) (22 + 6 * B 0 1 + 4) (nI H)) (22 + 6 * B 0 1 + 5) (nI H)) 2 (nI (B 0 1 + 1))) : RD R (nb B K H S C) := by
  have lo : ∀ j, j < 22 + 6 * B 0 1 → j ≠ 2 → R j = r j := fun j h1 h2 => by rw [e, upd_n h2, upd_n (by omega), upd_n (by omega), upd_n (by omega), upd_n (by omega), upd_n (by omega), upd_n (by omega)]
  have f0 : R (22 + 6 * B 0 1) = nI K := by rw [e, upd_n (by omega), upd_n (by omega), upd_n (by omega), upd_n (by omega), upd_n (by omega), upd_n (by omega), upd_s]
  have f1 : R (22 + 6 * B 0 1 + 1) = nI H := by rw [e, upd_n (by omega), upd_n (by omega), upd_n (by omega), upd_n (by omega), upd_n (by omega), upd_s]
  have f2 : R (22 + 6 * B 0 1 + 2) = nI S := by rw [e, upd_n (by omega), upd_n (by omega), upd_n (by omega), upd_n (by omega), upd_s]
  have f3 : R (22 + 6 * B 0 1 + 3) = nI C := by rw [e, upd_n (by omega), upd_n (by omega), upd_n (by omega), upd_s]
  have f4 : R (22 + 6 * B 0 1 + 4) = nI H := by rw [e, upd_n (by omega), upd_n (by omega), upd_s]
  have f5 : R (22 + 6 * B 0 1 + 5) = nI H := by rw [e, upd_n (by omega), upd_s]
  have f6 : R 2 = nI (B 0 1 + 1) := by rw [e, upd_s]
  obtain ⟨a0, a1, a2, a3, a4, a5, a6, a7⟩ := h
  refine ⟨by rw [lo 0 (by omega) (by omega)]; exact a0, by rw [lo 1 (by omega) (by omega)]; exact a1, f6, by rw [lo 3 (by omega) (by omega)]; exact a3, by rw [lo 4 (by omega) (by omega)]; exact a4, by rw [lo 5 (by omega) (by omega)]; exact a5, fun i hi => ?_, fun p hp => ?_⟩
  · have hi : i < B 0 0 := hi
    rw [lo (6 + i) (by omega) (by omega)]
    exact a6 i hi
  · have hp : p < B 0 1 + 1 := hp
    have eq : ∀ f, 2 ≤ f → nb B K H S C f p = if p = B 0 1 then (if f = 5 then K else if f = 3 then S else if f = 4 then C else H) else B f p := fun f hf => by
      unfold nb
      rw [if_neg (by omega), if_neg (by omega)]
    rw [eq 5 (by omega), eq 2 (by omega), eq 3 (by omega), eq 4 (by omega), eq 6 (by omega)]
    by_cases ep : p = B 0 1
    · simp only [if_pos ep]
      rw [ep]
      exact ⟨f0, f1, f2, f3, f4, f5⟩
    · simp only [if_neg ep]
      rw [lo (22 + 6 * p) (by omega) (by omega), lo (22 + 6 * p + 1) (by omega) (by omega), lo (22 + 6 * p + 2) (by omega) (by omega), lo (22 + 6 * p + 3) (by omega) (by omega), lo (22 + 6 * p + 4) (by omega) (by omega), lo (22 + 6 * p + 5) (by omega) (by omega)]
      exact a7 p (by omega)
theorem WF.pin {B : Bt} (h : WF B) {K H S C : Nat} (hP : B 0 1 < 7) (k1 : 1 ≤ K) (k5 : K ≤ 5) (hH : H < B 0 0) (s1 : 1 ≤ S) (s9 : S ≤ 9) (hC : C ≤ 3) : WF (nb B K H S C) := by
  obtain ⟨w0, w1, w2, w4, w5, w6, w7⟩ := h
  refine ⟨w0, hP, w2, w4, w5, w6, fun p hp => ?_⟩
  have hp : p < B 0 1 + 1 := hp
  have eq : ∀ f, 2 ≤ f → nb B K H S C f p = if p = B 0 1 then (if f = 5 then K else if f = 3 then S else if f = 4 then C else H) else B f p := fun f hf => by
    unfold nb
    rw [if_neg (by omega), if_neg (by omega)]
  show nb B K H S C 2 p < B 0 0 ∧ _ ∧ _ ∧ _ ∧ _ ∧ _ ∧ nb B K H S C 6 p < B 0 0
  rw [eq 5 (by omega), eq 2 (by omega), eq 3 (by omega), eq 4 (by omega), eq 6 (by omega)]
  by_cases ep : p = B 0 1
  · simp only [if_pos ep]
    exact ⟨hH, s1, s9, hC, k1, k5, hH⟩
  · simp only [if_neg ep]
    exact w7 p (by omega)
def PnS (c : Nat → Nat) (n q : Nat) (σ0 : St) (B : Bt) (σ : St) : Prop := PS c n q σ ∧ RB σ 28 B ∧ FrP σ0 σ ∧ σ 13 2 = σ0 13 2
def MnS (c : Nat → Nat) (n q : Nat) (μ0 : St) (B : Bt) (μ : St) : Prop := MS c n q μ ∧ RD (μ 7) B ∧ FrMr μ0 μ ∧ μ 0 7 = μ0 0 7
section PNS
variable {c : Nat → Nat} {n p q : Nat} {σ0 μ0 σ μ : St} {B : Bt}
theorem PnS.f {σ' : St} (h : PnS c n p σ0 B σ) (g : PS c n q σ') (f : F13 σ σ') : PnS c n q σ0 B σ' := ⟨g, h.2.1.kept (fun a _ _ => f.1 a (by omega)), h.2.2.1.f f, by rw [f.2.2]; exact h.2.2.2⟩
theorem RB.beyond {σ : St} {b : Nat} {B : Bt} (h : RB σ b B) {f : Nat} (h2 : 2 ≤ f) (v : Int32) : RB (up σ (b + f) (B 0 1) v) b B := by
  refine ⟨fun j hj => ?_, fun i hi => ?_, fun g h3 h4 p hp => ?_⟩
  · rw [up_o (by omega)]
    exact h.1 j hj
  · rw [up_o (by omega)]
    exact h.2.1 i hi
  · rw [up_v, if_neg (by omega)]
    exact h.2.2 g h3 h4 p hp
theorem PnS.u (h : PnS c n p σ0 B σ) {f : Nat} (h2 : 2 ≤ f) (h6 : f ≤ 6) (v : Int32) : PnS c n p σ0 B (up σ (28 + f) (B 0 1) v) := ⟨h.1.u (by omega) _ _, h.2.1.beyond h2 v, h.2.2.1.u (by omega) _ _, by rw [up_o (by omega)]; exact h.2.2.2⟩
theorem MnS.f {μ' : St} (h : MnS c n p μ0 B μ) (g : MS c n q μ') (f : Fm9 μ μ') : MnS c n q μ0 B μ' := ⟨g, by rw [f.1 7 (by omega)]; exact h.2.1, h.2.2.1.f f.to7, by rw [f.2 7 (by omega)]; exact h.2.2.2⟩
theorem m_tk0t (h : MS c n p μ) (hp : p < 2147483648) (k : Nat) : ∃ μ', m_M_takes μ 0 (nI k) = some (0, μ') ∧ Dd p k μ' ∧ Fm7 μ μ' ∧ μ' 0 11 = μ 0 11 := by
  unfold m_M_takes
  rw [m_well1 h.2.1, bnd_s, if_neg (by decide), if_pos rfl, nmS_e, nmS_e, h.2.2.1]
  exact ⟨_, rfl, ⟨by rw [up_n (by omega), up_s], up_s, hp⟩, ⟨fun a ha => by rw [up_o ha, up_o ha], fun i hi => by rw [up_n (by omega), up_n (by omega)]⟩, by rw [up_n (by omega), up_n (by omega)]⟩
theorem m_55_dead {pl k : Nat} (h : Dd pl k μ) (ht : μ 0 11 = nI 1) (x1 s0 : Int32) : m_M_readsPin_B55 μ x1 s0 6 22 = some (0, μ) := by
  unfold m_M_readsPin_B55 m_M_readsPin_B83
  rw [nm_i, if_neg (show ¬ μ 0 11 = (2 : Int32) from fun z => by
    rw [ht, li_2, eq_n (by omega) (by omega)] at z
    omega)]
  exact m_88_dead h _ _ _
/-- the end of a pin: the sign is taken, the pin is laid -/
theorem r_pin_end (hT : Tp c n) {K H S C : Nat} (hX : PnS c n p σ0 B σ) (hY : MnS c n p μ0 B μ) (hp : p ≤ n) (hW : WF B) (hk : B 0 5 = 1 ∧ B 0 3 = 0 ∧ B 0 4 = 0) (hP : B 0 1 < 7) (k1 : 1 ≤ K) (k5 : K ≤ 5) (hH : H < B 0 0) (s1 : 1 ≤ S) (s9 : S ≤ 9) (hC : C ≤ 3) (g2 : σ (28 + 2) (B 0 1) = nI H) (g3 : σ (28 + 3) (B 0 1) = nI S) (g4 : σ (28 + 4) (B 0 1) = nI C) (g5 : σ (28 + 5) (B 0 1) = nI K) (g6 : σ (28 + 6) (B 0 1) = nI H) : (∃ σ' μ', m_Reader_takes (up σ 28 1 (nI (B 0 1 + 1))) (nI 59) = some (0, σ') ∧ (if μ 0 11 = (4 : Int32) then m_M_readsPin_B136 μ (nI K) (nI (22 + 6 * B 0 1)) (nI H) (nI S) (nI C) (1 : Int32) else m_M_readsPin_B136 μ (nI K) (nI (22 + 6 * B 0 1)) (nI H) (nI S) (nI C) (0 : Int32)) = some (0, μ') ∧ Dv σ0 μ0 σ' μ') ∨ (∃ σ' μ' B' p', m_Reader_takes (up σ 28 1 (nI (B 0 1 + 1))) (nI 59) = some (1, σ') ∧ (if μ 0 11 = (4 : Int32) then m_M_readsPin_B136 μ (nI K) (nI (22 + 6 * B 0 1)) (nI H) (nI S) (nI C) (1 : Int32) else m_M_readsPin_B136 μ (nI K) (nI (22 + 6 * B 0 1)) (nI H) (nI S) (nI C) (0 : Int32)) = some (0, μ') ∧ Lv c n σ0 μ0 B' p' σ' μ' ∧ B' 0 0 = B 0 0 ∧ B' 0 1 = B 0 1 + 1) := by
  have w0 := hW.1
  have hS1 : PS c n p (up σ 28 1 (nI (B 0 1 + 1))) := hX.1.u (by omega) _ _
  have hR1 : RB (up σ 28 1 (nI (B 0 1 + 1))) 28 (nb B K H S C) := hX.2.1.pin g2 g3 g4 g5 g6
  have fP1 : FrP σ0 (up σ 28 1 (nI (B 0 1 + 1))) := hX.2.2.1.u (by omega) _ _
  have f21 : up σ 28 1 (nI (B 0 1 + 1)) 13 2 = σ0 13 2 := by rw [up_o (by omega)]; exact hX.2.2.2
  generalize up σ 28 1 (nI (B 0 1 + 1)) = σ1 at hS1 hR1 fP1 f21 ⊢
  rcases r_sem hT hS1 hY.1 hp with ⟨r, σ2, μ2, b1, b2, b3, b4, b5, b6, b7, b8⟩ | ⟨σ2, μ2, b1, b2, b3, b4, b5, b6⟩
  · have hY2 : MnS c n (p + 1) μ0 B μ2 := hY.f b7 b8
    rw [if_pos (show μ 0 11 = (4 : Int32) from b5), b2]
    refine Or.inr ⟨σ2, ?_⟩
    unfold m_M_readsPin_B136
    have q1 : nI (22 + 6 * B 0 1) + (1 : Int32) = nI (22 + 6 * B 0 1 + 1) := ad_1 _
    have q2 : nI (22 + 6 * B 0 1) + (2 : Int32) = nI (22 + 6 * B 0 1 + 2) := by rw [li_2, ad_n]
    have q3 : nI (22 + 6 * B 0 1) + (3 : Int32) = nI (22 + 6 * B 0 1 + 3) := by rw [li_3, ad_n]
    have q4 : nI (22 + 6 * B 0 1) + (4 : Int32) = nI (22 + 6 * B 0 1 + 4) := by rw [li_4, ad_n]
    have q5 : nI (22 + 6 * B 0 1) + (5 : Int32) = nI (22 + 6 * B 0 1 + 5) := by rw [li_5, ad_n]
    rw [show m_M_takes μ (1 : Int32) (1 : Int32) = some (r, μ2) from b6, bnd_s, m_well1 b7.2.1, bnd_s, if_neg (show ¬ (1 : Int32) = 0 by decide), hw7, q1, q2, q3, q4, q5, bd_n (by omega) (by omega), cl_n (by omega), nmS_e, bd_n (by omega) (by omega), cl_n (by omega), nmS_e, bd_n (by omega) (by omega), cl_n (by omega), nmS_e, bd_n (by omega) (by omega), cl_n (by omega), nmS_e, bd_n (by omega) (by omega), cl_n (by omega), nmS_e, bd_n (by omega) (by omega), cl_n (by omega), nmS_e, bd2_64, bd2_64, show (2 : Int32).toNatClampNeg = 2 from rfl, nmS_e, up_n (show 2 ≠ 22 + 6 * B 0 1 + 5 by omega), up_n (show 2 ≠ 22 + 6 * B 0 1 + 4 by omega), up_n (show 2 ≠ 22 + 6 * B 0 1 + 3 by omega), up_n (show 2 ≠ 22 + 6 * B 0 1 + 2 by omega), up_n (show 2 ≠ 22 + 6 * B 0 1 + 1 by omega), up_n (show 2 ≠ 22 + 6 * B 0 1 by omega), hY2.2.1.2.2.1, ad_1]
    refine ⟨_, nb B K H S C, p + 1, rfl, rfl, ⟨b3, ((((((b7.u _ _).u _ _).u _ _).u _ _).u _ _).u _ _).u _ _, b1, hR1.kept (fun a _ _ => b4.1 a (by omega)), ?_, hW.pin hP k1 k5 hH s1 s9 hC, hk, fP1.f b4, by rw [b4.2.2]; exact f21, ((((((hY2.2.2.1.u _ _).u _ _).u _ _).u _ _).u _ _).u _ _).u _ _, ?_⟩, rfl, rfl⟩
    · refine hY2.2.1.pin hP w0 K H S C ?_
      rw [up_row, up_row, up_row, up_row, up_row, up_row, up_row]
    · rw [up_o (by omega), up_o (by omega), up_o (by omega), up_o (by omega), up_o (by omega), up_o (by omega), up_o (by omega)]
      exact hY2.2.2.2
  · rw [if_neg (show ¬ μ 0 11 = (4 : Int32) from b3), b1]
    unfold m_M_readsPin_B136
    rw [show m_M_takes μ (0 : Int32) (1 : Int32) = some (0, μ2) from b4, bnd_s, m_well0 b5, bnd_s, if_pos rfl]
    exact Or.inl ⟨σ2, μ2, rfl, rfl, p, 1, b2.2.2.1, b2.2.2.2, b5, fP1.l b2, hY.2.2.1.f b6⟩
end PNS
