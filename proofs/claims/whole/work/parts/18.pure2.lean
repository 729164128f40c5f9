/-! pure: a board is put back, works, turns; is copied -/
theorem upR_o {σ : St} {a a' : Nat} {f : Nat → Int32} (h : a' ≠ a) : upR σ a f a' = σ a' := by
  funext j
  simp [upR, h]
theorem upR_s {σ : St} {a : Nat} {f : Nat → Int32} : upR σ a f a = f := by
  funext j
  simp [upR]
theorem bdc_16 {t : Rt} : bdc 0 0 16 16 16 t = t := if_pos (by decide)
theorem bdc_7 {t : Rt} : bdc 0 0 7 7 7 t = t := if_pos (by decide)
theorem cz_0 : (0 : Int32).toNatClampNeg = 0 := by decide
theorem cz_7 : (7 : Int32).toNatClampNeg = 7 := by decide
theorem cz_16 : (16 : Int32).toNatClampNeg = 16 := by decide
theorem cpy0 {f g : Nat → Int32} {n i : Nat} (h : i < n) : va_cpy f g 0 0 n i = f i := by simp [va_cpy, h]
theorem x_take {σ : St} {b o : Nat} {B : Bt} (hR : RB σ o B) (hW : WF B) (hbo : b + 7 ≤ o ∨ o + 7 ≤ b) : ∃ σ', m_Board_takeFrom b o σ = some (0, σ') ∧ RB σ' b B ∧ Fr b σ σ' := by
  obtain ⟨w0, w1, w2, w4, w5, w6, w7⟩ := hW
  unfold m_Board_takeFrom
  simp (disch := omega) only [nmS_e, bdc_16, bdc_7, cz_0, cz_7, cz_16, up_o, upR_o]
  rw [hR.1 5 (by omega), vB_n (by omega)]
  refine ⟨_, rfl, ⟨fun j hj => ?_, fun i hi => ?_, fun f h1 h2 p hp => ?_⟩, fun a ha => ?_⟩
  · rw [upR_o (by omega), upR_o (by omega), upR_o (by omega), upR_o (by omega), upR_o (by omega), upR_o (by omega)]
    rcases (show j = 0 ∨ j = 1 ∨ j = 2 ∨ j = 3 ∨ j = 4 ∨ j = 5 by omega) with rfl | rfl | rfl | rfl | rfl | rfl
    all_goals simp (disch := omega) only [up_s, up_n]
    all_goals exact hR.1 _ (by omega)
  · rw [upR_o (by omega), upR_o (by omega), upR_o (by omega), upR_o (by omega), upR_o (by omega), upR_s, cpy0 (by omega)]
    exact hR.2.1 i hi
  · have e := hR.2.2 f h1 h2 p hp
    rcases (show f = 2 ∨ f = 3 ∨ f = 4 ∨ f = 5 ∨ f = 6 by omega) with rfl | rfl | rfl | rfl | rfl
    all_goals simp (disch := omega) only [upR_s, upR_o, cpy0]
    all_goals exact e
  · simp (disch := omega) only [upR_o, up_o]
/-- the first pin from q on that one is mixed with -/
def mixw (B : Bt) (p : Nat) : Nat → Nat → Option Nat
  | 0, _ => none
  | m + 1, q => if B 4 q = B 4 p ∧ B 5 q ≠ 5 then some q else mixw B p m (q + 1)
theorem mixw_in {B : Bt} {p : Nat} : ∀ {m q r : Nat}, mixw B p m q = some r → q ≤ r ∧ r < q + m
  | 0, _, _, h => by cases h
  | m + 1, q, r, h => by
    unfold mixw at h
    split at h
    · cases h
      omega
    · have := mixw_in h
      omega
def swp (B : Bt) (p q : Nat) : Bt := ub (ub B 6 p (B 6 q)) 6 q (B 6 p)
def mixB (B : Bt) (p : Nat) : Bt := match mixw B p (B 0 1 - (p + 1)) (p + 1) with
  | none => B
  | some q => swp B p q
def stepB (B : Bt) (p : Nat) : Bt := if B 5 p = 2 then mixB B p else if B 5 p = 3 then ub B 6 p ((B 6 p + B 0 2) % B 0 0) else if B 5 p = 4 then ub B 6 p (B 2 p) else B
def opnL (left : Nat) : Nat → Nat → Bt → Bt
  | 0, _, B => B
  | m + 1, p, B => opnL left m (p + 1) (if left.testBit p = true then B else stepB B p)
def opnB (B : Bt) (left : Nat) : Bt := ub (opnL left (B 0 1) 0 B) 0 5 1
/-- only where the pins are may differ -/
def L6 (B B' : Bt) : Prop := ∀ a i, a ≠ 6 → B' a i = B a i
theorem L6.rf (B : Bt) : L6 B B := fun _ _ _ => rfl
theorem L6.tr {B1 B2 B3 : Bt} (h1 : L6 B1 B2) (h2 : L6 B2 B3) : L6 B1 B3 := fun a i h => (h2 a i h).trans (h1 a i h)
theorem L6_ub (B : Bt) (p v : Nat) : L6 B (ub B 6 p v) := fun a i h => by rw [ub_v, if_neg (fun z => h z.1)]
theorem L6_swp (B : Bt) (p q : Nat) : L6 B (swp B p q) := (L6_ub B p _).tr (L6_ub _ q _)
theorem L6_mix (B : Bt) (p : Nat) : L6 B (mixB B p) := by
  unfold mixB
  split
  · exact L6.rf B
  · exact L6_swp B p _
theorem L6_step (B : Bt) (p : Nat) : L6 B (stepB B p) := by
  unfold stepB
  split
  · exact L6_mix B p
  · split
    · exact L6_ub B p _
    · split
      · exact L6_ub B p _
      · exact L6.rf B
theorem L6_opn (left : Nat) : ∀ (m p : Nat) (B : Bt), L6 B (opnL left m p B)
  | 0, _, B => L6.rf B
  | m + 1, p, B => by
    unfold opnL
    split
    · exact L6_opn left m (p + 1) B
    · exact (L6_step B p).tr (L6_opn left m (p + 1) _)
theorem WF.l6 {B B' : Bt} (h : WF B) (hl : L6 B B') (hp : ∀ p, p < B 0 1 → B' 6 p < B 0 0) : WF B' := by
  obtain ⟨w0, w1, w2, w4, w5, w6, w7⟩ := h
  refine ⟨?_, ?_, ?_, ?_, ?_, fun i hi => ?_, fun p hp' => ?_⟩
  · rw [hl 0 0 (by decide)]; exact w0
  · rw [hl 0 1 (by decide)]; exact w1
  · rw [hl 0 2 (by decide)]; exact w2
  · rw [hl 0 4 (by decide)]; exact w4
  · rw [hl 0 5 (by decide)]; exact w5
  · rw [hl 0 0 (by decide)] at hi
    rw [hl 1 i (by decide)]
    exact w6 i hi
  · rw [hl 0 1 (by decide)] at hp'
    rw [hl 0 0 (by decide), hl 2 p (by decide), hl 3 p (by decide), hl 4 p (by decide), hl 5 p (by decide)]
    obtain ⟨v1, v2, v3, v4, v5, v6, v7⟩ := w7 p hp'
    exact ⟨v1, v2, v3, v4, v5, v6, hp p hp'⟩
theorem WF.last {B : Bt} (h : WF B) {p : Nat} (hp : p < B 0 1) : B 6 p < B 0 0 := (h.2.2.2.2.2.2 p hp).2.2.2.2.2.2
theorem WF.home {B : Bt} (h : WF B) {p : Nat} (hp : p < B 0 1) : B 2 p < B 0 0 := (h.2.2.2.2.2.2 p hp).1
theorem WF.ub6 {B : Bt} (h : WF B) {p v : Nat} (hv : p < B 0 1 → v < B 0 0) : WF (ub B 6 p v) := h.l6 (L6_ub B p v) (fun q hq => by
  rw [ub_v]
  by_cases e : q = p
  · subst e
    rw [if_pos ⟨rfl, rfl⟩]
    exact hv hq
  · rw [if_neg (fun z => e z.2)]
    exact h.last hq)
theorem WF.swp {B : Bt} (h : WF B) {p q : Nat} (hp : p < B 0 1) (hq : q < B 0 1) : WF (swp B p q) := by
  have h1 : WF (ub B 6 p (B 6 q)) := h.ub6 (fun _ => h.last hq)
  exact h1.ub6 (fun _ => by
    rw [L6_ub B p _ 0 0 (by decide)]
    exact h.last hp)
theorem WF.mix {B : Bt} (h : WF B) {p : Nat} (hp : p < B 0 1) : WF (mixB B p) := by
  unfold mixB
  split
  · exact h
  · next q e =>
    have := mixw_in e
    exact h.swp hp (by omega)
theorem WF.step {B : Bt} (h : WF B) {p : Nat} (hp : p < B 0 1) : WF (stepB B p) := by
  unfold stepB
  split
  · exact h.mix hp
  · split
    · exact h.ub6 (fun _ => Nat.mod_lt _ (by have := h.last hp; omega))
    · split
      · exact h.ub6 (fun _ => h.home hp)
      · exact h
theorem WF.opnL {left : Nat} : ∀ {m p : Nat} {B : Bt}, WF B → p + m ≤ B 0 1 → WF (opnL left m p B)
  | 0, _, _, h, _ => h
  | m + 1, p, B, h, hp => by
    show WF (_root_.Jvm.Pilot.CPinBoardsLaw_law_r4629_198343.opnL left m (p + 1) _)
    split
    · exact WF.opnL h (by omega)
    · exact WF.opnL (h.step (by omega)) (by rw [L6_step B p 0 1 (by decide)]; omega)
theorem WF.day {B : Bt} (h : WF B) {v : Nat} (hv : v ≤ 1) : WF (ub B 0 5 v) := by
  obtain ⟨w0, w1, w2, w4, w5, w6, w7⟩ := h
  exact ⟨w0, w1, w2, w4, hv, w6, w7⟩
theorem WF.opn {B : Bt} (h : WF B) (left : Nat) : WF (opnB B left) := (WF.opnL h (by omega)).day (by decide)
section XO
variable {σ : St} {b : Nat} {B : Bt}
theorem x_change (hR : RB σ b B) (hW : WF B) {p q : Nat} (hp : p < B 0 1) (hq : q < B 0 1) : ∃ σ', m_Board_change b σ (nI p) (nI q) = some (0, σ') ∧ RB σ' b (swp B p q) ∧ Fr b σ σ' := by
  have w1 := hW.2.1
  unfold m_Board_change
  rw [bd_n (by omega) (by omega), nm_i, bd_n (by omega) (by omega), bd_n (by omega) (by omega), nmS_e, bd_n (by omega) (by omega), nmS_e, cl_n (by omega), cl_n (by omega), hR.2.2 6 (by omega) (by omega) p hp, hR.2.2 6 (by omega) (by omega) q hq]
  exact ⟨_, rfl, (hR.upA 6 p (B 6 q) (by omega) (by omega)).upA 6 q (B 6 p) (by omega) (by omega), (frA _ b 6 p _ (by omega)).tr (frA _ b 6 q _ (by omega))⟩
theorem x_mix_l (hR : RB σ b B) (hW : WF B) {p : Nat} (hp : p < B 0 1) : ∀ (m n q : Nat), q + m = B 0 1 → m < n → ∃ σ', m_Board_mix_L4 b n σ (nI p) (nI q) = some (0, σ') ∧ RB σ' b (match mixw B p m q with | none => B | some r => swp B p r) ∧ Fr b σ σ' := by
  have w1 := hW.2.1
  intro m
  induction m with
  | zero =>
    intro n q hq hn
    obtain ⟨n, rfl⟩ : ∃ k, n = k + 1 := ⟨n - 1, by omega⟩
    refine ⟨σ, ?_, hR, Fr.rf b σ⟩
    show m_Board_mix_B4 b (m_Board_mix_L4 b n) σ _ _ = _
    unfold m_Board_mix_B4
    rw [hR.1 1 (by omega), ile (by omega) (by omega), if_pos (by omega)]
  | succ m ih =>
    intro n q hq hn
    obtain ⟨n, rfl⟩ : ∃ k, n = k + 1 := ⟨n - 1, by omega⟩
    have k4q := (hW.2.2.2.2.2.2 q (by omega)).2.2.2.1
    have k4p := (hW.2.2.2.2.2.2 p hp).2.2.2.1
    have k5q := (hW.2.2.2.2.2.2 q (by omega)).2.2.2.2.2.1
    show ∃ σ', m_Board_mix_B4 b (m_Board_mix_L4 b n) σ _ _ = _ ∧ _
    unfold m_Board_mix_B4 m_Board_mix_B44 m_Board_mix_B37
    rw [hR.1 1 (by omega), ile (by omega) (by omega), if_neg (by omega), bd_n (by omega) (by omega), bd_n (by omega) (by omega), bd_n (by omega) (by omega), cl_n (by omega), cl_n (by omega), hR.2.2 4 (by omega) (by omega) p hp, hR.2.2 4 (by omega) (by omega) q (by omega), hR.2.2 5 (by omega) (by omega) q (by omega), li_5, ieq (by omega) (by omega), ieq (by omega) (by omega), li_1, ad_n]
    unfold mixw
    by_cases h1 : B 4 q = B 4 p
    · rw [if_pos h1]
      by_cases h2 : B 5 q = 5
      · rw [if_pos h2, if_neg (fun z => z.2 h2)]
        exact ih n (q + 1) (by omega) (by omega)
      · rw [if_neg h2, if_pos ⟨h1, h2⟩]
        obtain ⟨σ', e, r, f⟩ := x_change hR hW hp (show q < B 0 1 by omega)
        rw [e, bnd_s]
        exact ⟨σ', rfl, r, f⟩
    · rw [if_neg h1, if_neg (fun z => h1 z.1)]
      exact ih n (q + 1) (by omega) (by omega)
theorem x_mix (hR : RB σ b B) (hW : WF B) {p : Nat} (hp : p < B 0 1) : ∃ σ', m_Board_mix b σ (nI p) = some (0, σ') ∧ RB σ' b (mixB B p) ∧ Fr b σ σ' := by
  have w1 := hW.2.1
  unfold m_Board_mix
  rw [nm_i, li_1, ad_n]
  exact x_mix_l hR hW hp (B 0 1 - (p + 1)) FU (p + 1) (by omega) (fu_lt (by omega))
theorem x_isSet (σ : St) {t p : Nat} (ht : t < 128) (hp : p < 7) : m_P_isSet σ (nI t) (nI p) = some ((if t.testBit p = true then 1 else 0), σ) := by
  unfold m_P_isSet
  by_cases h : t.testBit p = true
  · rw [if_pos ((is_bit t ht p hp).mpr h), if_pos h, vB_1]
  · rw [if_neg (fun z => h ((is_bit t ht p hp).mp z)), if_neg h, vB_0]
/-- one pin is put back -/
theorem x_opn_l {left : Nat} (hl : left < 128) : ∀ (m n p : Nat) (σ : St) (B : Bt), RB σ b B → WF B → p + m = B 0 1 → m < n → ∃ σ', m_Board_open_L2 b n σ (nI left) (nI p) = some (0, σ') ∧ RB σ' b (ub (opnL left m p B) 0 5 1) ∧ Fr b σ σ' := by
  intro m
  induction m with
  | zero =>
    intro n p σ B hR hW hp hn
    have w1 := hW.2.1
    obtain ⟨n, rfl⟩ : ∃ k, n = k + 1 := ⟨n - 1, by omega⟩
    show ∃ σ', m_Board_open_B2 b (m_Board_open_L2 b n) σ _ _ = _ ∧ _
    unfold m_Board_open_B2
    rw [hR.1 1 (by omega), ile (by omega) (by omega), if_pos (by omega), vB_1, nmS_e]
    exact ⟨_, rfl, hR.up0 5 1 (by omega), fr0 σ b 5 _⟩
  | succ m ih =>
    intro n p σ B hR hW hp hn
    have w1 := hW.2.1
    have hpP : p < B 0 1 := by omega
    obtain ⟨v1, v2, v3, v4, v5, v6, v7⟩ := hW.2.2.2.2.2.2 p hpP
    have w0 := hW.1
    have w2 := hW.2.2.1
    obtain ⟨n, rfl⟩ : ∃ k, n = k + 1 := ⟨n - 1, by omega⟩
    have go : ∀ (σ1 : St) (B1 : Bt), RB σ1 b B1 → WF B1 → B1 0 1 = B 0 1 → Fr b σ σ1 → ∃ σ', m_Board_open_L2 b n σ1 (nI left) (nI (p + 1)) = some (0, σ') ∧ RB σ' b (ub (opnL left m (p + 1) B1) 0 5 1) ∧ Fr b σ σ' := by
      intro σ1 B1 hR1 hW1 e1 f1
      obtain ⟨σ', a1, a2, a3⟩ := ih n (p + 1) σ1 B1 hR1 hW1 (by omega) (by omega)
      exact ⟨σ', a1, a2, f1.tr a3⟩
    show ∃ σ', m_Board_open_B2 b (m_Board_open_L2 b n) σ _ _ = _ ∧ _
    unfold m_Board_open_B2 m_Board_open_B81 m_Board_open_B103 opnL
    rw [hR.1 1 (by omega), ile (by omega) (by omega), if_neg (by omega), x_isSet σ hl (by omega), bnd_s]
    by_cases hs : left.testBit p = true
    · rw [if_pos hs, if_pos hs, if_neg (by decide), li_1, ad_n]
      exact go σ B hR hW rfl (Fr.rf b σ)
    · have hb7 : ∀ t : Rt, bd (nI p) 7 t = t := fun t => bd_n (by omega) (by omega)
      simp only [hb7]
      rw [if_neg hs, if_neg hs, if_pos rfl, cl_n (by omega), hR.2.2 5 (by omega) (by omega) p hpP, li_2, ieq (by omega) (by omega), li_3, ieq (by omega) (by omega), li_4, ieq (by omega) (by omega), li_1, ad_n]
      unfold stepB
      by_cases h2 : B 5 p = 2
      · rw [if_pos h2, if_pos h2]
        obtain ⟨σ', e, r, f⟩ := x_mix hR hW hpP
        rw [e, bnd_s]
        exact go σ' _ r (hW.mix hpP) (L6_mix B p 0 1 (by decide)) f
      · rw [if_neg h2, if_neg h2]
        by_cases h3 : B 5 p = 3
        · rw [if_pos h3, if_pos h3, hR.1 0 (by omega), li_0, ile (by omega) (by omega), if_neg (by omega), nz_n (by omega) (by omega), nmS_e, hR.2.2 6 (by omega) (by omega) p hpP, hR.1 2 (by omega), ad_n, rm_n (by omega) (by omega) (by omega)]
          exact go _ _ (hR.upA 6 p _ (by omega) (by omega)) (hW.ub6 (fun _ => Nat.mod_lt _ (by omega))) (L6_ub B p _ 0 1 (by decide)) (frA σ b 6 p _ (by omega))
        · rw [if_neg h3, if_neg h3]
          by_cases h4 : B 5 p = 4
          · rw [if_pos h4, if_pos h4, nmS_e, hR.2.2 2 (by omega) (by omega) p hpP]
            exact go _ _ (hR.upA 6 p _ (by omega) (by omega)) (hW.ub6 (fun _ => v1)) (L6_ub B p _ 0 1 (by decide)) (frA σ b 6 p _ (by omega))
          · rw [if_neg h4, if_neg h4]
            exact go σ B hR hW rfl (Fr.rf b σ)
theorem x_open (hR : RB σ b B) (hW : WF B) {left : Nat} (hl : left < 128) : ∃ σ', m_Board_open b σ (nI left) = some (0, σ') ∧ RB σ' b (opnB B left) ∧ Fr b σ σ' := by
  have w1 := hW.2.1
  exact x_opn_l hl (B 0 1) FU 0 σ B hR hW (by omega) (fu_lt (by omega))
/-- how many pins are in the cell of a pin, by day -/
def crw (B : Bt) (p : Nat) : Nat := cnt (bset (fun q => decide (plc B q = nI (B 6 p))) (B 0 1))
def yl1 (B : Bt) (p : Nat) : Nat := if 0 < crw B p then B 3 p * B 1 (B 6 p) / crw B p else 0
def yldL (B : Bt) : Nat → Nat → Nat
  | 0, _ => 0
  | m + 1, p => yl1 B p + yldL B m (p + 1)
def yld (B : Bt) : Nat := yldL B (B 0 1) 0
theorem yl1_le {B : Bt} (hW : WF B) {p : Nat} (hp : p < B 0 1) : yl1 B p ≤ 81 := by
  obtain ⟨v1, v2, v3, v4, v5, v6, v7⟩ := hW.2.2.2.2.2.2 p hp
  have w6 := hW.2.2.2.2.2.1 _ v7
  unfold yl1
  have h1 : B 3 p * B 1 (B 6 p) ≤ 9 * 9 := Nat.mul_le_mul v3 w6
  split
  · exact Nat.le_trans (Nat.div_le_self _ _) h1
  · omega
theorem yldL_le {B : Bt} (hW : WF B) : ∀ m p, p + m ≤ B 0 1 → yldL B m p ≤ 81 * m
  | 0, _, _ => by simp [yldL]
  | m + 1, p, h => by
    have h1 := yl1_le hW (show p < B 0 1 by omega)
    have h2 := yldL_le hW m (p + 1) (by omega)
    unfold yldL
    omega
theorem x_yl_l (hR : RB σ b B) (hW : WF B) : ∀ (m n p a : Nat), p + m = B 0 1 → m < n → m_Board_yieldOfAll_L4 b n σ (nI a) (nI p) = some (nI (a + yldL B m p), σ) := by
  have w1 := hW.2.1
  intro m
  induction m with
  | zero =>
    intro n p a hp hn
    obtain ⟨n, rfl⟩ : ∃ k, n = k + 1 := ⟨n - 1, by omega⟩
    show m_Board_yieldOfAll_B4 b (m_Board_yieldOfAll_L4 b n) σ _ _ = _
    unfold m_Board_yieldOfAll_B4
    rw [hR.1 1 (by omega), ile (by omega) (by omega), if_pos (by omega)]
    rfl
  | succ m ih =>
    intro n p a hp hn
    obtain ⟨n, rfl⟩ : ∃ k, n = k + 1 := ⟨n - 1, by omega⟩
    have hpP : p < B 0 1 := by omega
    obtain ⟨v1, v2, v3, v4, v5, v6, v7⟩ := hW.2.2.2.2.2.2 p hpP
    have w6 := hW.2.2.2.2.2.1 _ v7
    have h81 : B 3 p * B 1 (B 6 p) ≤ 9 * 9 := Nat.mul_le_mul v3 w6
    have hbs : bset (fun q => decide (plc B q = nI (B 6 p))) (B 0 1) < 128 := Nat.lt_of_lt_of_le (bset_lt _ _) (show 2 ^ (B 0 1) ≤ 128 from Nat.pow_le_pow_right (show 0 < 2 by decide) (show B 0 1 ≤ 7 by omega))
    have hc := cnt_le (bset (fun q => decide (plc B q = nI (B 6 p))) (B 0 1))
    show m_Board_yieldOfAll_B4 b (m_Board_yieldOfAll_L4 b n) σ _ _ = _
    unfold m_Board_yieldOfAll_B4 m_Board_yieldOfAll_B48 yldL
    rw [hR.1 1 (by omega), ile (by omega) (by omega), if_neg (by omega), bd_n (by omega) (by omega), cl_n (by omega), hR.2.2 6 (by omega) (by omega) p hpP, x_pinsIn hR hW, bnd_s, bc_eq, bnd_s, bc_n _ hbs, li_0, ile (by omega) (by omega), bd_n (by omega) (by omega), hR.2.2 6 (by omega) (by omega) p hpP, x_worth hR hW hpP v7, bnd_s, li_1, ad_n]
    simp only [nm_i]
    rw [ad_n]
    unfold yl1 crw
    by_cases h : 0 < cnt (bset (fun q => decide (plc B q = nI (B 6 p))) (B 0 1))
    · rw [if_neg (by omega), if_pos h, nz_n h (by omega), dv_n (by omega) h (by omega), ad_n, ih n (p + 1) _ (by omega) (by omega), Nat.add_assoc]
    · rw [if_pos (by omega), if_neg h, ih n (p + 1) _ (by omega) (by omega), Nat.add_assoc]
theorem x_yield (hR : RB σ b B) (hW : WF B) : m_Board_yieldOfAll b σ = some (nI (yld B), σ) := by
  have w1 := hW.2.1
  unfold m_Board_yieldOfAll
  rw [li_0, x_yl_l hR hW (B 0 1) FU 0 0 (by omega) (fu_lt (by omega)), Nat.zero_add]
  rfl
/-- the board opens, and the pins work -/
def wrkB (B : Bt) : Bt := ub (opnB B 0) 0 4 (min 999999 (B 0 4 + yld (opnB B 0)))
theorem opn_dim (B : Bt) (left j : Nat) (hj : j ≠ 5) : opnB B left 0 j = B 0 j := by
  unfold opnB
  rw [ub_v, if_neg (fun z => hj z.2), L6_opn left _ _ B 0 j (by decide)]
theorem WF.wrk {B : Bt} (h : WF B) : WF (wrkB B) := by
  obtain ⟨w0, w1, w2, w4, w5, w6, w7⟩ := h.opn 0
  exact ⟨w0, w1, w2, Nat.min_le_left _ _, w5, w6, w7⟩
theorem x_work (hR : RB σ b B) (hW : WF B) : ∃ σ', m_Board_openAndWork b σ = some (0, σ') ∧ RB σ' b (wrkB B) ∧ Fr b σ σ' := by
  obtain ⟨σ1, e1, r1, f1⟩ := x_open hR hW (left := 0) (by decide)
  have hW1 := hW.opn 0
  have w4 := hW.2.2.2.1
  have w1 := hW1.2.1
  have hy : yld (opnB B 0) ≤ 81 * 7 := Nat.le_trans (yldL_le hW1 _ _ (by omega)) (by omega)
  unfold m_Board_openAndWork
  rw [li_0, e1, bnd_s, x_yield r1 hW1, bnd_s, nmS_e, r1.1 4 (by omega), opn_dim B 0 4 (by decide), ad_n, li_999999, ilt (by omega) (by omega)]
  have e : (if B 0 4 + yld (opnB B 0) < 999999 then nI (B 0 4 + yld (opnB B 0)) else nI 999999) = nI (min 999999 (B 0 4 + yld (opnB B 0))) := by
    by_cases h : B 0 4 + yld (opnB B 0) < 999999
    · rw [if_pos h, Nat.min_eq_right (by omega)]
    · rw [if_neg h, Nat.min_eq_left (by omega)]
  rw [e]
  exact ⟨_, rfl, r1.up0 4 _ (by omega), f1.tr (fr0 _ b 4 _)⟩
/-- a turn -/
def trn (B : Bt) : Bt := if B 0 5 = 0 then ub (wrkB B) 0 3 (B 0 3 + 1) else ub (ub B 0 5 0) 0 3 (B 0 3 + 1)
theorem WF.time {B : Bt} (h : WF B) (v : Nat) : WF (ub B 0 3 v) := by
  obtain ⟨w0, w1, w2, w4, w5, w6, w7⟩ := h
  exact ⟨w0, w1, w2, w4, w5, w6, w7⟩
theorem WF.trn {B : Bt} (h : WF B) : WF (trn B) := by
  unfold _root_.Jvm.Pilot.CPinBoardsLaw_law_r4629_198343.trn
  split
  · exact h.wrk.time _
  · exact (h.day (by decide)).time _
theorem x_turn (hR : RB σ b B) (hW : WF B) : ∃ σ', m_Board_turn b σ = some (0, σ') ∧ RB σ' b (trn B) ∧ Fr b σ σ' := by
  have w5 := hW.2.2.2.2.1
  unfold m_Board_turn m_Board_turn_B19 trn
  rw [hR.1 5 (by omega), li_0, ieq (by omega) (by omega)]
  by_cases h : B 0 5 = 0
  · rw [if_pos h, if_pos h]
    obtain ⟨σ1, e1, r1, f1⟩ := x_work hR hW
    have e3 : wrkB B 0 3 = B 0 3 := by
      unfold wrkB
      rw [ub_v, if_neg (by decide), opn_dim B 0 3 (by decide)]
    rw [e1, bnd_s, nmS_e, r1.1 3 (by omega), e3, li_1, ad_n]
    exact ⟨_, rfl, r1.up0 3 _ (by omega), f1.tr (fr0 _ b 3 _)⟩
  · rw [if_neg h, if_neg h, ← li_0, vB_0, nmS_e, nmS_e, up_n (by decide), hR.1 3 (by omega), li_1, ad_n]
    exact ⟨_, rfl, (hR.up0 5 0 (by omega)).up0 3 _ (by omega), (fr0 _ b 5 _).tr (fr0 _ b 3 _)⟩
end XO
