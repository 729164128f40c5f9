/-! pure: boards that differ in time, earnings, day; until the next opening -/
def Dq (B B' : Bt) : Prop := ∀ a i, ¬ (a = 0 ∧ (i = 3 ∨ i = 4 ∨ i = 5)) → B' a i = B a i
theorem Dq.rf (B : Bt) : Dq B B := fun _ _ _ => rfl
theorem Dq.sy {B B' : Bt} (h : Dq B B') : Dq B' B := fun a i hc => (h a i hc).symm
theorem Dq.tr {B1 B2 B3 : Bt} (h1 : Dq B1 B2) (h2 : Dq B2 B3) : Dq B1 B3 := fun a i hc => (h2 a i hc).trans (h1 a i hc)
theorem Dq.both {B B' : Bt} (h : Dq B B') (a i v : Nat) : Dq (ub B a i v) (ub B' a i v) := fun a' i' hc => by
  rw [ub_v, ub_v]
  split
  · rfl
  · exact h a' i' hc
theorem Dq_ub (B : Bt) {j : Nat} (hj : j = 3 ∨ j = 4 ∨ j = 5) (v : Nat) : Dq B (ub B 0 j v) := fun a i hc => by
  rw [ub_v, if_neg]
  rintro ⟨rfl, rfl⟩
  exact hc ⟨rfl, hj⟩
theorem Dq.d1 {B B' : Bt} (h : Dq B B') : B' 0 1 = B 0 1 := h 0 1 (by omega)
theorem mixw_D {B B' : Bt} (h : Dq B B') (p : Nat) : ∀ m q, mixw B' p m q = mixw B p m q
  | 0, _ => rfl
  | m + 1, q => by
    unfold mixw
    rw [h 4 q (by omega), h 4 p (by omega), h 5 q (by omega), mixw_D h p m (q + 1)]
theorem swp_D {B B' : Bt} (h : Dq B B') (p q : Nat) : Dq (swp B p q) (swp B' p q) := by
  unfold swp
  rw [h 6 p (by omega), h 6 q (by omega)]
  exact (h.both _ _ _).both _ _ _
theorem step_D {B B' : Bt} (h : Dq B B') (p : Nat) : Dq (stepB B p) (stepB B' p) := by
  unfold stepB mixB
  rw [h 5 p (by omega), h 6 p (by omega), h 2 p (by omega), h 0 2 (by omega), h 0 0 (by omega), h.d1, mixw_D h]
  split
  · split
    · exact h
    · exact swp_D h p _
  · split
    · exact h.both _ _ _
    · split
      · exact h.both _ _ _
      · exact h
theorem opnL_D (left : Nat) : ∀ (m p : Nat) (B B' : Bt), Dq B B' → Dq (opnL left m p B) (opnL left m p B')
  | 0, _, _, _, h => h
  | m + 1, p, B, B', h => by
    unfold opnL
    split
    · exact opnL_D left m (p + 1) B B' h
    · exact opnL_D left m (p + 1) _ _ (step_D h p)
theorem opn_D {B B' : Bt} (h : Dq B B') (left : Nat) : Dq (opnB B left) (opnB B' left) := by
  unfold opnB
  rw [h.d1]
  exact (opnL_D left _ _ _ _ h).both _ _ _
theorem yldL_D {B B' : Bt} (h : Dq B B') (h1 : B 0 5 = 1) (h2 : B' 0 5 = 1) : ∀ m p, yldL B' m p = yldL B m p
  | 0, _ => rfl
  | m + 1, p => by
    unfold yldL
    rw [yldL_D h h1 h2 m (p + 1)]
    have ep : plc B' = plc B := by
      funext q
      rw [plc_day h1, plc_day h2, h 6 q (by omega)]
    unfold yl1 crw
    rw [ep, h 6 p (by omega), h.d1, h 3 p (by omega), h 1 _ (by omega)]
theorem wrk_D {B B' : Bt} (h : Dq B B') : Dq (wrkB B) (wrkB B') := by
  unfold wrkB
  exact ((Dq_ub _ (Or.inr (Or.inl rfl)) _).sy.tr (opn_D h 0)).tr (Dq_ub _ (Or.inr (Or.inl rfl)) _)
theorem wrk_4 {B B' : Bt} (h : Dq B B') (e : B' 0 4 = B 0 4) : wrkB B' 0 4 = wrkB B 0 4 := by
  unfold wrkB yld
  rw [ub_v, if_pos ⟨rfl, rfl⟩, ub_v, if_pos ⟨rfl, rfl⟩, e, (opn_D h 0).d1, yldL_D (opn_D h 0) (opn_day B 0) (opn_day B' 0)]
theorem wrk_5 (B : Bt) : wrkB B 0 5 = 1 := by
  unfold wrkB
  rw [ub_v, if_neg (by omega), opn_day]
theorem wrk_o (B : Bt) : Dq (opnB B 0) (wrkB B) := Dq_ub _ (Or.inr (Or.inl rfl)) _
def tOp (B : Bt) : Bt := if B 0 5 = 1 then trn (trn B) else trn B
theorem tOp_D {B : Bt} (hW : WF B) : Dq (wrkB B) (tOp B) ∧ tOp B 0 4 = wrkB B 0 4 ∧ tOp B 0 5 = 1 ∧ WF (tOp B) := by
  have w5 := hW.2.2.2.2.1
  have hn : ∀ C : Bt, C 0 5 = 0 → Dq (wrkB C) (trn C) ∧ trn C 0 4 = wrkB C 0 4 ∧ trn C 0 5 = 1 := by
    intro C hC
    unfold trn
    rw [if_pos hC]
    exact ⟨Dq_ub _ (Or.inl rfl) _, by rw [ub_v, if_neg (by omega)], by rw [ub_v, if_neg (by omega), wrk_5]⟩
  unfold tOp
  by_cases h : B 0 5 = 1
  · rw [if_pos h]
    have e5 : trn B 0 5 = 0 := by
      unfold trn
      rw [if_neg (by omega), ub_v, if_neg (by omega), ub_v, if_pos ⟨rfl, rfl⟩]
    have e4 : trn B 0 4 = B 0 4 := by
      unfold trn
      rw [if_neg (by omega), ub_v, if_neg (by omega), ub_v, if_neg (by omega)]
    have d : Dq B (trn B) := by
      unfold trn
      rw [if_neg (by omega)]
      exact (Dq_ub _ (Or.inr (Or.inr rfl)) _).tr (Dq_ub _ (Or.inl rfl) _)
    obtain ⟨a, b, c⟩ := hn (trn B) e5
    exact ⟨(wrk_D d).tr a, by rw [b, wrk_4 d e4], c, hW.trn.trn⟩
  · rw [if_neg h]
    obtain ⟨a, b, c⟩ := hn B (by omega)
    exact ⟨a, b, c, hW.trn⟩
theorem m_toOp {μ : St} {B : Bt} (h : RM (μ 8) B (plc B)) (hW : WF B) : ∃ μ', m_M_toOpening μ = some (0, μ') ∧ RM (μ' 8) (tOp B) (plc (tOp B)) ∧ FrM 8 μ μ' := by
  have w5 := hW.2.2.2.2.1
  unfold m_M_toOpening m_M_toOpening_B17 tOp
  rw [li_4, hw8, bd_n (by omega) (by omega), cl_n (by omega), h.2.2.2.2.1, li_1, ieq (by omega) (by omega)]
  obtain ⟨μ1, e1, r1, f1⟩ := m_passes hw8 h hW
  rw [e1, bnd_s, bnd_s]
  by_cases hd : B 0 5 = 1
  · rw [if_pos hd, if_pos hd]
    obtain ⟨μ2, e2, r2, f2⟩ := m_passes hw8 r1 hW.trn
    rw [e2, bnd_s]
    exact ⟨μ2, rfl, r2, f1.tr f2⟩
  · rw [if_neg hd, if_neg hd]
    exact ⟨μ1, rfl, r1, f1⟩
/-- one side's trial is B, the other's B' -/
def RelD (A B B' : Bt) (σ μ : St) : Prop := RelB A σ μ ∧ RB σ 28 B ∧ RM (μ 8) B' (plc B') ∧ WF B ∧ WF B' ∧ Dq B B'
theorem RelB.t8 {A : Bt} {σ μ σ' μ' : St} (h : RelB A σ μ) (hx : Fr 28 σ σ') (hm : FrM 8 μ μ') : RelB A σ' μ' := h.k (h.1.k (fun a ha => hx a (by omega)) (fun a _ _ h8 _ _ _ => hm a h8)) (fun a h1 h2 => hx a (by omega)) (hm 6 (by omega))
/-- what is seen no more -/
theorem m_seen0 (x1 x2 : Int32) {N : Nat} (hN : N ≤ 12) : ∀ (m n k : Nat) (μ : St) (B : Bt), RM (μ 8) B (plc B) → WF B → k + m = N → m < n → ∃ μ', m_M_isSeen_L6 n μ x1 x2 (nI N) 0 (nI k) = some (0, μ') ∧ FrM 8 μ μ' := by
  intro m
  induction m with
  | zero =>
    intro n k μ B h hW hk hn
    obtain ⟨n, rfl⟩ : ∃ k, n = k + 1 := ⟨n - 1, by omega⟩
    refine ⟨μ, ?_, FrM.rf 8 μ⟩
    show m_M_isSeen_B6 (m_M_isSeen_L6 n) μ _ _ _ _ _ = _
    unfold m_M_isSeen_B6
    rw [ile (by omega) (by omega), if_pos (by omega), vB_0]
  | succ m ih =>
    intro n k μ B h hW hk hn
    obtain ⟨n, rfl⟩ : ∃ k, n = k + 1 := ⟨n - 1, by omega⟩
    show ∃ μ', m_M_isSeen_B6 (m_M_isSeen_L6 n) μ _ _ _ _ _ = _ ∧ _
    unfold m_M_isSeen_B6 m_M_isSeen_B51 m_M_isSeen_B52
    obtain ⟨μ1, e1, r1, f1⟩ := m_toOp h hW
    rw [ile (by omega) (by omega), if_neg (by omega), e1, bnd_s, if_pos rfl, ad_1]
    obtain ⟨μ2, e2, f2⟩ := ih n (k + 1) μ1 (tOp B) r1 (tOp_D hW).2.2.2 (by omega) (by omega)
    exact ⟨μ2, e2, f1.tr f2⟩
theorem a_seen {A : Bt} {p r i N : Nat} (hp : p < A 0 1) (hr : r < 8) (hN : N ≤ 12) (hi : i + N ≤ 40) : ∀ (m n k : Nat) (B B' : Bt) (σ μ : St), RelD A B B' σ μ → B 0 1 = A 0 1 → k + m = N → m < n → Sr (RelB A) (m_Fore_tells_L3 (gIt r) n σ (nI i) (nI N) (nI p) (nI k)) (m_M_isSeen_L6 n μ (nI p) (nI (40 * r + i)) (nI N) 1 (nI k)) := by
  intro m
  induction m with
  | zero =>
    intro n k B B' σ μ h c1 hk hn
    obtain ⟨n, rfl⟩ : ∃ k, n = k + 1 := ⟨n - 1, by omega⟩
    show Sr (RelB A) (m_Fore_tells_B3 (gIt r) (m_Fore_tells_L3 (gIt r) n) σ _ _ _ _) (m_M_isSeen_B6 (m_M_isSeen_L6 n) μ _ _ _ _ _)
    unfold m_M_isSeen_B6 m_Fore_tells_B3
    rw [ile (by omega) (by omega), if_pos (show N ≤ k by omega), vB_1, ile (by omega) (by omega), if_pos (show N ≤ k by omega), vB_1]
    exact Sr.fin h.1
  | succ m ih =>
    intro n k B B' σ μ h c1 hk hn
    obtain ⟨n, rfl⟩ : ∃ k, n = k + 1 := ⟨n - 1, by omega⟩
    obtain ⟨hB, hR, hM, hW, hW', hD⟩ := h
    have w1 := hW.2.1
    have w0 := hW.1
    show Sr (RelB A) (m_Fore_tells_B3 (gIt r) (m_Fore_tells_L3 (gIt r) n) σ _ _ _ _) (m_M_isSeen_B6 (m_M_isSeen_L6 n) μ _ _ _ _ _)
    unfold m_M_isSeen_B6 m_Fore_tells_B3 m_M_isSeen_B51 m_M_isSeen_B52
    obtain ⟨σ1, e1, r1, f1⟩ := x_open hR hW (left := 0) (by decide)
    obtain ⟨μ1, e2, r2, f2⟩ := m_toOp hM hW'
    obtain ⟨t1, t2, t3, t4⟩ := tOp_D hW'
    have hB1 : RelB A σ1 μ1 := hB.t8 f1 f2
    have hDD : Dq (opnB B 0) (tOp B') := ((opn_D hD 0).tr (wrk_o B')).tr t1
    have gr : gIt r = 5 + r := rfl
    have d1 : opnB B 0 0 1 = B 0 1 := opn_dim B 0 1 (by omega)
    have d1' : tOp B' 0 1 = B 0 1 := by rw [hDD.d1, d1]
    have hl := (hW.opn 0).last (p := p) (by omega)
    have d0 : opnB B 0 0 0 = B 0 0 := opn_dim B 0 0 (by omega)
    rw [ile (by omega) (by omega), if_neg (show ¬ N ≤ k by omega), ile (by omega) (by omega), if_neg (show ¬ N ≤ k by omega), ad_n, li_40, ile (by omega) (by omega), if_neg (show ¬ 40 ≤ i + k by omega), li_0, e1, bnd_s, e2, bnd_s, ← li_0, if_neg (show ¬ (1 : Int32) = 0 by decide), bd_n (by omega) (by omega), bd_n (by omega) (by omega), cl_n (by omega), cl_n (by omega), r1.2.2 6 (by omega) (by omega) p (by omega), ix0, li_4, ad_n, ad_n, hw8, bd_n (by omega) (by omega), show lenM 3 = 320 from rfl, bd_n (by omega) (by omega), cl_n (by omega), cl_n (by omega), (r2.2.2.2.2.2.2.2 p (by omega)).2.2.2.2.1, plc_day t3, hDD 6 p (by omega), (hB1.1.1 r hr).2.2 (i + k) (by omega), show 40 * r + (i + k) = 40 * r + i + k by omega, ad_1]
    by_cases e : nI (opnB B 0 6 p) = μ1 3 (40 * r + i + k)
    · rw [if_pos e, if_pos e]
      exact ih n (k + 1) (opnB B 0) (tOp B') σ1 μ1 ⟨hB1, r1, r2, hW.opn 0, t4, hDD⟩ (by omega) (by omega) (by omega)
    · rw [if_neg e, if_neg e, vB_0]
      obtain ⟨μ2, e3, f3⟩ := m_seen0 (nI p) (nI (40 * r + i)) hN m n (k + 1) μ1 (tOp B') r2 t4 (by omega) (by omega)
      rw [e3]
      exact Sr.fin (hB1.t8 (Fr.rf 28 σ1) f3)
section RMK
variable {r : Nat → Int32} {B : Bt} {v : Nat → Int32}
theorem RM.uK (h : RM r B v) (hW : WF B) (p x : Nat) : RM (upd r (22 + 6 * p) (nI x)) (ub B 5 p x) v := by
  obtain ⟨h0, h1, h2, h3, h4, h5, h6, h7⟩ := h
  have w0 := hW.1
  refine ⟨by rw [upd_n (by omega)]; exact h0, by rw [upd_n (by omega)]; exact h1, by rw [upd_n (by omega)]; exact h2, by rw [upd_n (by omega)]; exact h3, by rw [upd_n (by omega)]; exact h4, by rw [upd_n (by omega)]; exact h5, fun i hi => ?_, fun q hq => ?_⟩
  · have hi : i < B 0 0 := hi
    rw [upd_n (by omega)]
    exact h6 i hi
  · obtain ⟨g0, g1, g2, g3, g4, g5⟩ := h7 q hq
    refine ⟨?_, by rw [upd_n (by omega)]; exact g1, by rw [upd_n (by omega)]; exact g2, by rw [upd_n (by omega)]; exact g3, by rw [upd_n (by omega)]; exact g4, by rw [upd_n (by omega)]; exact g5⟩
    by_cases e : q = p
    · subst e
      rw [upd_s, ub_v, if_pos ⟨rfl, rfl⟩]
    · rw [upd_n (by omega), ub_v, if_neg (fun z => e z.2)]
      exact g0
theorem RM.uH (h : RM r B v) (hW : WF B) (p x : Nat) : RM (upd r (22 + 6 * p + 1) (nI x)) (ub B 2 p x) v := by
  obtain ⟨h0, h1, h2, h3, h4, h5, h6, h7⟩ := h
  have w0 := hW.1
  refine ⟨by rw [upd_n (by omega)]; exact h0, by rw [upd_n (by omega)]; exact h1, by rw [upd_n (by omega)]; exact h2, by rw [upd_n (by omega)]; exact h3, by rw [upd_n (by omega)]; exact h4, by rw [upd_n (by omega)]; exact h5, fun i hi => ?_, fun q hq => ?_⟩
  · have hi : i < B 0 0 := hi
    rw [upd_n (by omega)]
    exact h6 i hi
  · obtain ⟨g0, g1, g2, g3, g4, g5⟩ := h7 q hq
    refine ⟨by rw [upd_n (by omega)]; exact g0, ?_, by rw [upd_n (by omega)]; exact g2, by rw [upd_n (by omega)]; exact g3, by rw [upd_n (by omega)]; exact g4, by rw [upd_n (by omega)]; exact g5⟩
    by_cases e : q = p
    · subst e
      rw [upd_s, ub_v, if_pos ⟨rfl, rfl⟩]
    · rw [upd_n (by omega), ub_v, if_neg (fun z => e z.2)]
      exact g1
end RMK
theorem WF.kind {B : Bt} (h : WF B) (p : Nat) {v : Nat} (h1 : 1 ≤ v) (h5 : v ≤ 5) : WF (ub B 5 p v) := by
  obtain ⟨w0, w1, w2, w4, w5, w6, w7⟩ := h
  refine ⟨w0, w1, w2, w4, w5, w6, fun q hq => ?_⟩
  obtain ⟨v1, v2, v3, v4, v5, v6, v7⟩ := w7 q hq
  refine ⟨v1, v2, v3, v4, ?_, ?_, v7⟩
  · rw [ub_v]
    split <;> omega
  · rw [ub_v]
    split <;> omega
theorem WF.hom {B : Bt} (h : WF B) (p : Nat) {v : Nat} (hv : v < B 0 0) : WF (ub B 2 p v) := by
  obtain ⟨w0, w1, w2, w4, w5, w6, w7⟩ := h
  refine ⟨w0, w1, w2, w4, w5, w6, fun q hq => ?_⟩
  obtain ⟨v1, v2, v3, v4, v5, v6, v7⟩ := w7 q hq
  refine ⟨?_, v2, v3, v4, v5, v6, v7⟩
  show ub B 2 p v 2 q < B 0 0
  rw [ub_v]
  split <;> omega
theorem WF.slp {B : Bt} (h : WF B) {v : Nat} (hv : v ≤ 15) : WF (ub B 0 2 v) := by
  obtain ⟨w0, w1, w2, w4, w5, w6, w7⟩ := h
  exact ⟨w0, w1, hv, w4, w5, w6, w7⟩
theorem plc_u5 {A : Bt} {p q v : Nat} (e : ¬ q = p) : plc (ub A 5 p v) q = plc A q := by
  have e1 : ub A 5 p v 5 q = A 5 q := by rw [ub_v, if_neg (fun z => e z.2)]
  have e2 : ub A 5 p v 0 5 = A 0 5 := by rw [ub_v, if_neg (by omega)]
  have e3 : ub A 5 p v 6 q = A 6 q := by rw [ub_v, if_neg (by omega)]
  unfold plc
  rw [e1, e2, e3]
theorem plc_u6 {A : Bt} {p q v : Nat} (e : ¬ q = p) : plc (ub A 6 p v) q = plc A q := by
  have e1 : ub A 6 p v 6 q = A 6 q := by rw [ub_v, if_neg (fun z => e z.2)]
  have e2 : ub A 6 p v 0 5 = A 0 5 := by rw [ub_v, if_neg (by omega)]
  have e3 : ub A 6 p v 5 q = A 5 q := by rw [ub_v, if_neg (by omega)]
  unfold plc
  rw [e1, e2, e3]
def RelH (A : Bt) (σ μ : St) : Prop := ∃ B, RelT A B σ μ ∧ B 0 1 = A 0 1
theorem a_try {A : Bt} {p w v : Nat} (hW : WF A) (hp : p < A 0 1) (hw : w ≤ 3) (hv0 : w = 0 → 1 ≤ v ∧ v ≤ 5) (hv1 : w = 1 → v ≤ 15) (hv2 : 2 ≤ w → v < A 0 0) {σ μ : St} (h : RelB A σ μ) : Sr (RelH A) (bnd (m_Board_takeFrom 28 21 σ) (fun _ s => m_Fore_suppose s (nI p) (nI w) (nI v))) (m_M_triesBy μ (nI p) (nI w) (nI v)) := by
  unfold m_M_triesBy m_Fore_suppose m_M_triesBy_B79
  rw [nm_i, ix0]
  refine (a_take h hW).bnd (fun _ σ μ h => ?_)
  have w0 := hW.1
  have w1 := hW.2.1
  have w5 := hW.2.2.2.2.1
  obtain ⟨hB, hR, hM, _⟩ := id h
  have hl := hW.last hp
  have i1 : nI (22 + 6 * p) + (1 : Int32) = nI (22 + 6 * p + 1) := by rw [li_1, ad_n]
  have i4 : nI (22 + 6 * p) + (4 : Int32) = nI (22 + 6 * p + 4) := by rw [li_4, ad_n]
  have i5 : nI (22 + 6 * p) + (5 : Int32) = nI (22 + 6 * p + 5) := by rw [li_5, ad_n]
  have hb : ∀ t : Rt, bd (nI p) 7 t = t := fun t => bd_n (by omega) (by omega)
  have hb0 : ∀ t : Rt, bd (0 : Int32) 64 t = t := fun t => bd_n (n := 0) (by omega) (by omega)
  have hb4 : ∀ t : Rt, bd (4 : Int32) 64 t = t := fun t => bd_n (n := 4) (by omega) (by omega)
  have hc0 : ∀ t : Rt, bd (nI (22 + 6 * p)) 64 t = t := fun t => bd_n (by omega) (by omega)
  have hc1 : ∀ t : Rt, bd (nI (22 + 6 * p + 1)) 64 t = t := fun t => bd_n (by omega) (by omega)
  have hc4 : ∀ t : Rt, bd (nI (22 + 6 * p + 4)) 64 t = t := fun t => bd_n (by omega) (by omega)
  have hc5 : ∀ t : Rt, bd (nI (22 + 6 * p + 5)) 64 t = t := fun t => bd_n (by omega) (by omega)
  rw [hw8]
  simp only [i1, i4, i5, hb, hb0, hb4, hc0, hc1, hc4, hc5, nmS_e]
  rw [cl_n (n := p) (by omega), cl_n (n := 22 + 6 * p) (by omega), cl_n (n := 22 + 6 * p + 1) (by omega), cl_n (n := 22 + 6 * p + 4) (by omega), cl_n (n := 22 + 6 * p + 5) (by omega), show (4 : Int32).toNatClampNeg = 4 from rfl, show (0 : Int32).toNatClampNeg = 0 from rfl]
  obtain ⟨g0, g1, g2, g3, g4, g5⟩ := hM.2.2.2.2.2.2.2 p hp
  rcases (show w = 0 ∨ w = 1 ∨ w = 2 ∨ w = 3 by omega) with rfl | rfl | rfl | rfl
  · obtain ⟨va, vb⟩ := hv0 rfl
    rw [if_pos (by decide), if_pos (by decide), up_n (by omega), hM.2.2.2.2.1, up_n (j := 22 + 6 * p + 5) (by omega), g5, li_1, li_5, ieq (by omega) (by omega), ieq (by omega) (by omega)]
    have hk : RM ((up μ 8 (22 + 6 * p) (nI v)) 8) (ub A 5 p v) (plc A) := by
      rw [up_row]
      exact hM.uK hW p v
    have hWk := hW.kind p va vb
    have fin : ∀ x : Int32, x = plc (ub A 5 p v) p → Sr (RelH A) (some (0, up σ (28 + 5) p (nI v))) (some (0, up (up μ 8 (22 + 6 * p) (nI v)) 8 (22 + 6 * p + 4) x)) := by
      intro x hx
      refine Sr.fin ⟨ub A 5 p v, h.k (frA σ 28 5 p _ (by omega)) ((frM 8 μ _ _).tr (frM 8 _ _ _)) (hR.upA 5 p v (by omega) (by omega)) ?_ hWk, rfl⟩
      rw [up_row]
      refine (hk.uIS hWk p x).cv (fun q hq => ?_)
      by_cases e : q = p
      · rw [if_pos e, e, hx]
      · rw [if_neg e]
        exact plc_u5 e
    have k5 : ub A 5 p v 5 p = v := by rw [ub_v, if_pos ⟨rfl, rfl⟩]
    by_cases hd : A 0 5 = 1
    · rw [if_pos hd]
      exact fin _ (by rw [plc_day (show ub A 5 p v 0 5 = 1 from hd)]; rfl)
    · rw [if_neg hd]
      by_cases h5 : v = 5
      · rw [if_pos h5]
        exact fin _ (by unfold plc; rw [k5, if_neg (fun z => z.2 h5)]; rfl)
      · rw [if_neg h5]
        exact fin _ (by unfold plc; rw [k5, if_pos ⟨show A 0 5 = 0 by omega, h5⟩])
  · rw [if_neg (by decide), if_pos (by decide), if_neg (by decide), if_pos (by decide)]
    refine Sr.fin ⟨ub A 0 2 v, h.k (fr0 σ 28 2 _) (frM 8 μ _ _) (hR.up0 2 v (by omega)) ?_ (hW.slp (hv1 rfl)), rfl⟩
    rw [up_row]
    exact hM.u0 v
  · rw [if_neg (by decide), if_neg (by decide), if_pos (by decide), if_neg (by decide), if_neg (by decide), if_pos (by decide)]
    refine Sr.fin ⟨ub A 2 p v, h.k (frA σ 28 2 p _ (by omega)) (frM 8 μ _ _) (hR.upA 2 p v (by omega) (by omega)) ?_ (hW.hom p (hv2 (by omega))), rfl⟩
    rw [up_row]
    exact hM.uH hW p v
  · rw [if_neg (by decide), if_neg (by decide), if_neg (by decide), if_neg (by decide), if_neg (by decide), if_neg (by decide), up_n (by omega), g4]
    have hk : RM ((up μ 8 (22 + 6 * p + 5) (nI v)) 8) (ub A 6 p v) (plc A) := by
      rw [up_row]
      exact hM.uLA hW p v
    have hWk : WF (ub A 6 p v) := hW.ub6 (fun _ => hv2 (by omega))
    have fin : ∀ x : Int32, x = plc (ub A 6 p v) p → Sr (RelH A) (some (0, up σ (28 + 6) p (nI v))) (some (0, up (up μ 8 (22 + 6 * p + 5) (nI v)) 8 (22 + 6 * p + 4) x)) := by
      intro x hx
      refine Sr.fin ⟨ub A 6 p v, h.k (frA σ 28 6 p _ (by omega)) ((frM 8 μ _ _).tr (frM 8 _ _ _)) (hR.upA 6 p v (by omega) (by omega)) ?_ hWk, rfl⟩
      rw [up_row]
      refine (hk.uIS hWk p x).cv (fun q hq => ?_)
      by_cases e : q = p
      · rw [if_pos e, e, hx]
      · rw [if_neg e]
        exact plc_u6 e
    unfold plc at fin ⊢
    by_cases hc : A 0 5 = 0 ∧ A 5 p ≠ 5
    · rw [if_pos hc, if_pos rfl]
      refine fin _ ?_
      have hc' : ub A 6 p v 0 5 = 0 ∧ ub A 6 p v 5 p ≠ 5 := hc
      rw [if_pos hc']
    · rw [if_neg hc, if_neg (neg_n (by omega))]
      refine fin _ ?_
      have hc' : ¬ (ub A 6 p v 0 5 = 0 ∧ ub A 6 p v 5 p ≠ 5) := hc
      rw [if_neg hc', ub_v, if_pos ⟨rfl, rfl⟩]
