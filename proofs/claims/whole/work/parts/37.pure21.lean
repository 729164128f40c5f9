/-! pure: how the class reads -/
def Tp (c : Nat → Nat) (n : Nat) : Prop := n ≤ 130 ∧ ∀ i, i < n → c i < 256
def isd (c : Nat → Nat) (n p : Nat) : Prop := p < n ∧ 48 ≤ c p ∧ c p ≤ 57
def numAt (c : Nat → Nat) (n p v q : Nat) : Prop := (isd c n p ∧ ¬ isd c n (p + 1) ∧ v = c p - 48 ∧ q = p + 1) ∨ (isd c n p ∧ isd c n (p + 1) ∧ ¬ isd c n (p + 2) ∧ v = (c p - 48) * 10 + (c (p + 1) - 48) ∧ q = p + 2)
def PS (c : Nat → Nat) (n p : Nat) (σ : St) : Prop := σ 13 1 = nI n ∧ σ 13 4 = nI p ∧ ∀ i, i < n → σ 14 i = nI (c i)
def F13 (σ σ' : St) : Prop := (∀ a, a ≠ 13 → σ' a = σ a) ∧ σ' 13 1 = σ 13 1 ∧ σ' 13 2 = σ 13 2
def Flt (σ σ' : St) (pl k : Nat) : Prop := (∀ a, a ≠ 13 → σ' a = σ a) ∧ σ' 13 1 = σ 13 1 ∧ σ' 13 2 = nI k ∧ σ' 13 3 = nI pl
theorem F13.rf (σ : St) : F13 σ σ := ⟨fun _ _ => rfl, rfl, rfl⟩
theorem F13.tr {a b c : St} (h1 : F13 a b) (h2 : F13 b c) : F13 a c := ⟨fun x h => (h2.1 x h).trans (h1.1 x h), h2.2.1.trans h1.2.1, h2.2.2.trans h1.2.2⟩
theorem Flt.of {a b c : St} {pl k : Nat} (h1 : F13 a b) (h2 : Flt b c pl k) : Flt a c pl k := ⟨fun x h => (h2.1 x h).trans (h1.1 x h), h2.2.1.trans h1.2.1, h2.2.2⟩
theorem numAt_in {c : Nat → Nat} {n p v q : Nat} (h : numAt c n p v q) : p < q ∧ q ≤ n ∧ v ≤ 99 := by
  rcases h with ⟨a, b, d, e⟩ | ⟨a, b, d, e, f⟩
  · have := a.1
    have := a.2
    omega
  · have := b.1
    have := a.2
    have := b.2
    omega
theorem numAt_un {c : Nat → Nat} {n p v q v' q' : Nat} (h : numAt c n p v q) (h' : numAt c n p v' q') : v = v' ∧ q = q' := by
  rcases h with ⟨a, b, d, e⟩ | ⟨a, b, d, e, f⟩
  · rcases h' with ⟨a', b', d', e'⟩ | ⟨a', b', d', e', f'⟩
    · omega
    · exact absurd b' b
  · rcases h' with ⟨a', b', d', e'⟩ | ⟨a', b', d', e', f'⟩
    · exact absurd b b'
    · omega
section XRD
variable {c : Nat → Nat} {n p : Nat} {σ : St}
theorem x_flt (σ : St) (pl k : Nat) : ∃ σ', m_Reader_faultAt σ (nI pl) (nI k) = some (0, σ') ∧ Flt σ σ' pl k := by
  unfold m_Reader_faultAt
  rw [nmS_e, nmS_e, vB_0]
  exact ⟨_, rfl, fun a ha => by rw [up_o ha, up_o ha], by rw [up_n (by omega), up_n (by omega)], up_s, by rw [up_n (by omega), up_s]⟩
theorem x_next (hT : Tp c n) (h : PS c n p σ) (hpb : p ≤ n) {L : Nat} (hL : L < 256) : m_Reader_isNext σ (nI L) = some (@ite Int32 (p < n ∧ c p = L) (Classical.propDecidable _) 1 0, σ) := by
  obtain ⟨h1, h2, h3⟩ := h
  obtain ⟨t1, t2⟩ := hT
  unfold m_Reader_isNext
  rw [h1, h2, ile (by omega) (by omega), vB_0, vB_1]
  by_cases hp : p < n
  · have := t2 p hp
    rw [if_neg (by omega), bd_n (by omega) (by omega), cl_n (by omega), h3 p hp, ieq (by omega) (by omega)]
    by_cases e : c p = L
    · rw [if_pos e, if_pos ⟨hp, e⟩]
    · rw [if_neg e, if_neg (fun z => e z.2)]
  · rw [if_pos (by omega), if_neg (fun z => hp z.1)]
theorem x_tk (hT : Tp c n) (h : PS c n p σ) (hp : p ≤ n) {L : Nat} (hL : L < 256) : ((p < n ∧ c p = L) → ∃ σ', m_Reader_takes σ (nI L) = some (1, σ') ∧ PS c n (p + 1) σ' ∧ F13 σ σ') ∧ (¬ (p < n ∧ c p = L) → ∃ σ', m_Reader_takes σ (nI L) = some (0, σ') ∧ Flt σ σ' p 1) := by
  refine ⟨fun hc => ?_, fun hc => ?_⟩
  · unfold m_Reader_takes
    rw [x_next hT h hp hL, bnd_s, if1 hc, nmS_e, vB_1, h.2.1, ad_1]
    exact ⟨_, rfl, ⟨by rw [up_n (by omega)]; exact h.1, up_s, fun i hi => by rw [up_o (by omega)]; exact h.2.2 i hi⟩, fun a ha => up_o ha, up_n (by omega), up_n (by omega)⟩
  · unfold m_Reader_takes
    rw [x_next hT h hp hL, bnd_s, if0 hc, h.2.1, li_1]
    obtain ⟨σ', e, f⟩ := x_flt σ p 1
    rw [e, bnd_s, vB_0]
    exact ⟨σ', rfl, f⟩
theorem x_dig (hT : Tp c n) (h : PS c n p σ) (hp : p ≤ n) {a : Nat} (ha : a < 10000) (h5 : σ 13 5 = nI a) (lo hi p0 : Int32) {k : Nat} (hk : k < 3) (m : Nat) : (isd c n p → ∃ σ', m_Reader_takesNumber_L13 (m + 1) σ lo hi p0 (nI k) = m_Reader_takesNumber_L13 m σ' lo hi p0 (nI (k + 1)) ∧ PS c n (p + 1) σ' ∧ σ' 13 5 = nI (a * 10 + c p - 48) ∧ F13 σ σ') ∧ (¬ isd c n p → m_Reader_takesNumber_L13 (m + 1) σ lo hi p0 (nI k) = m_Reader_takesNumber_B89 σ lo hi p0) := by
  obtain ⟨h1, h2, h3⟩ := id h
  obtain ⟨t1, t2⟩ := id hT
  refine ⟨fun hd => ?_, fun hd => ?_⟩
  · show ∃ σ', m_Reader_takesNumber_B13 (m_Reader_takesNumber_L13 m) σ _ _ _ _ = _ ∧ _
    unfold m_Reader_takesNumber_B13
    have hpn := hd.1
    have hd1 := hd.2
    rw [li_3, ile (by omega) (by omega), if_neg (by omega), h1, h2, ile (by omega) (by omega), if_neg (by omega), bd_n (by omega) (by omega), cl_n (by omega), h3 p hpn, within_n, bnd_s, if1 (show (48 : Int32) ≤ nI (c p) ∧ nI (c p) ≤ 57 from ⟨by rw [li_48, le_n (by omega) (by omega)]; omega, by rw [li_57, le_n (by omega) (by omega)]; omega⟩), h2, bd_n (by omega) (by omega), cl_n (by omega), h3 p hpn, h5, li_10, mu_n, ad_n, li_48, sb_n (by omega), nmS_e, nmS_e, up_n (by omega), h2, ad_1, ad_1]
    exact ⟨_, rfl, ⟨by rw [up_n (by omega), up_n (by omega)]; exact h1, up_s, fun i hi => by rw [up_o (by omega), up_o (by omega)]; exact h3 i hi⟩, by rw [up_n (by omega), up_s], fun b hb => by rw [up_o hb, up_o hb], by rw [up_n (by omega), up_n (by omega)], by rw [up_n (by omega), up_n (by omega)]⟩
  · show m_Reader_takesNumber_B13 (m_Reader_takesNumber_L13 m) σ _ _ _ _ = _
    unfold m_Reader_takesNumber_B13
    rw [li_3, ile (by omega) (by omega), if_neg (by omega), h1, h2, ile (by omega) (by omega)]
    by_cases hpn : p < n
    · have h256 := t2 p hpn
      rw [if_neg (by omega), bd_n (by omega) (by omega), cl_n (by omega), h3 p hpn, within_n, bnd_s, if0 (fun z => hd ⟨hpn, by have := z.1; rw [li_48, le_n (by omega) (by omega)] at this; exact this, by have := z.2; rw [li_57, le_n (by omega) (by omega)] at this; exact this⟩)]
    · rw [if_pos (by omega)]
/-- the end of a number: how many figures, and is it in the range -/
theorem x_89 {q v lo hi : Nat} (hq : σ 13 4 = nI q) (hv : σ 13 5 = nI v) (hvb : v < 10000) (hlo : lo < 10000) (hhi : hi < 10000) (hpq : p ≤ q) (hqb : q < 10000) : (q - p = 1 ∨ q - p = 2 → (lo ≤ v ∧ v ≤ hi → m_Reader_takesNumber_B89 σ (nI lo) (nI hi) (nI p) = some (1, σ)) ∧ (¬ (lo ≤ v ∧ v ≤ hi) → ∃ σ', m_Reader_takesNumber_B89 σ (nI lo) (nI hi) (nI p) = some (0, σ') ∧ Flt σ σ' p 2)) ∧ (¬ (q - p = 1 ∨ q - p = 2) → ∃ σ', m_Reader_takesNumber_B89 σ (nI lo) (nI hi) (nI p) = some (0, σ') ∧ Flt σ σ' p 1) := by
  have hr : (nI lo ≤ nI v ∧ nI v ≤ nI hi) = (lo ≤ v ∧ v ≤ hi) := by rw [le_n (by omega) (by omega), le_n (by omega) (by omega)]
  unfold m_Reader_takesNumber_B89 m_Reader_takesNumber_B109
  rw [nm_i, hq, hv, sb_n hpq, li_1, li_2, ilt (by omega) (by omega), ile (by omega) (by omega), within_n, bnd_s]
  refine ⟨fun h12 => ⟨fun hin => ?_, fun hin => ?_⟩, fun h12 => ?_⟩
  · rw [if_neg (by omega), if_pos (by omega), ← li_1, if1 (by rw [hr]; exact hin), vB_1]
  · rw [if_neg (by omega), if_pos (by omega), ← li_1, if0 (by rw [hr]; exact hin)]
    obtain ⟨σ', e, f⟩ := x_flt σ p 2
    rw [e, bnd_s, if_pos rfl, vB_0]
    exact ⟨σ', rfl, f⟩
  · obtain ⟨σ', e, f⟩ := x_flt σ p 1
    rw [e, bnd_s, vB_0]
    by_cases h0 : q - p < 1
    · rw [if_pos h0]
      exact ⟨σ', rfl, f⟩
    · rw [if_neg h0, if_neg (by omega)]
      exact ⟨σ', rfl, f⟩
theorem x_num (hT : Tp c n) (h : PS c n p σ) (hp : p ≤ n) {lo hi : Nat} (hlo : lo < 10000) (hhi : hi < 10000) : (∀ v q, numAt c n p v q → (lo ≤ v ∧ v ≤ hi → ∃ σ', m_Reader_takesNumber σ (nI lo) (nI hi) = some (1, σ') ∧ PS c n q σ' ∧ σ' 13 5 = nI v ∧ F13 σ σ') ∧ (¬ (lo ≤ v ∧ v ≤ hi) → ∃ σ', m_Reader_takesNumber σ (nI lo) (nI hi) = some (0, σ') ∧ Flt σ σ' p 2)) ∧ ((¬ ∃ v q, numAt c n p v q) → ∃ σ', m_Reader_takesNumber σ (nI lo) (nI hi) = some (0, σ') ∧ Flt σ σ' p 1) := by
  obtain ⟨h1, h2, h3⟩ := id h
  obtain ⟨t1, t2⟩ := id hT
  have e0 : m_Reader_takesNumber σ (nI lo) (nI hi) = m_Reader_takesNumber_L13 (1996 + 1 + 1 + 1 + 1) (up σ 13 5 (nI 0)) (nI lo) (nI hi) (nI p) (nI 0) := by
    unfold m_Reader_takesNumber
    rw [nm_i, nmS_e, h2]
    rfl
  rw [e0]
  have hS0 : PS c n p (up σ 13 5 (nI 0)) := ⟨by rw [up_n (by omega)]; exact h1, by rw [up_n (by omega)]; exact h2, fun i hi => by rw [up_o (by omega)]; exact h3 i hi⟩
  have hF0 : F13 σ (up σ 13 5 (nI 0)) := ⟨fun a ha => up_o ha, up_n (by omega), up_n (by omega)⟩
  have h50 : up σ 13 5 (nI 0) 13 5 = nI 0 := up_s
  generalize up σ 13 5 (nI 0) = σ0 at hS0 hF0 h50 ⊢
  obtain ⟨a1, a2⟩ := x_dig hT hS0 hp (a := 0) (by omega) h50 (nI lo) (nI hi) (nI p) (k := 0) (by omega) (1996 + 1 + 1 + 1)
  by_cases d0 : isd c n p
  · obtain ⟨σ1, e1, hS1, h51, hF1⟩ := a1 d0
    rw [e1]
    have c0 := d0.1
    have c1 := d0.2
    obtain ⟨b1, b2⟩ := x_dig hT hS1 (by omega) (a := 0 * 10 + c p - 48) (by omega) h51 (nI lo) (nI hi) (nI p) (k := 0 + 1) (by omega) (1996 + 1 + 1)
    by_cases d1 : isd c n (p + 1)
    · obtain ⟨σ2, e2, hS2, h52, hF2⟩ := b1 d1
      rw [e2]
      have c2 := d1.1
      have c3 := d1.2
      obtain ⟨g1, g2⟩ := x_dig hT hS2 (by omega) (a := (0 * 10 + c p - 48) * 10 + c (p + 1) - 48) (by omega) h52 (nI lo) (nI hi) (nI p) (k := 0 + 1 + 1) (by omega) (1996 + 1)
      by_cases d2 : isd c n (p + 2)
      · obtain ⟨σ3, e3, hS3, h53, hF3⟩ := g1 d2
        have c4 := d2.1
        have c5 := d2.2
        have c6 : c (p + 1 + 1) = c (p + 2) := rfl
        have e4 : m_Reader_takesNumber_L13 (1996 + 1) σ3 (nI lo) (nI hi) (nI p) (nI (0 + 1 + 1 + 1)) = m_Reader_takesNumber_B89 σ3 (nI lo) (nI hi) (nI p) := by
          show m_Reader_takesNumber_B13 (m_Reader_takesNumber_L13 1996) σ3 _ _ _ _ = _
          unfold m_Reader_takesNumber_B13
          rw [if_pos (show (3 : Int32) ≤ nI (0 + 1 + 1 + 1) by decide)]
        rw [e3, e4]
        obtain ⟨_, k2⟩ := x_89 (p := p) (σ := σ3) (q := p + 1 + 1 + 1) (v := ((0 * 10 + c p - 48) * 10 + c (p + 1) - 48) * 10 + c (p + 1 + 1) - 48) hS3.2.1 h53 (by omega) hlo hhi (by omega) (by omega)
        refine ⟨fun v q hn => ?_, fun _ => ?_⟩
        · exfalso
          rcases hn with ⟨_, b, _⟩ | ⟨_, _, b, _⟩
          · exact b d1
          · exact b d2
        · obtain ⟨σ', k3, k4⟩ := k2 (by omega)
          exact ⟨σ', k3, k4.of (((hF0.tr hF1).tr hF2).tr hF3)⟩
      · rw [g2 d2]
        obtain ⟨k1, _⟩ := x_89 (p := p) (σ := σ2) (q := p + 1 + 1) (v := (0 * 10 + c p - 48) * 10 + c (p + 1) - 48) hS2.2.1 h52 (by omega) hlo hhi (by omega) (by omega)
        obtain ⟨k1, k2⟩ := k1 (by omega)
        refine ⟨fun v q hn => ?_, fun hno => absurd ⟨_, _, Or.inr ⟨d0, d1, d2, rfl, rfl⟩⟩ hno⟩
        obtain ⟨ev, eq⟩ := numAt_un hn (Or.inr ⟨d0, d1, d2, rfl, rfl⟩)
        have ev' : v = (0 * 10 + c p - 48) * 10 + c (p + 1) - 48 := by omega
        rw [ev', eq]
        exact ⟨fun hin => ⟨σ2, k1 hin, hS2, h52, (hF0.tr hF1).tr hF2⟩, fun hin => by
          obtain ⟨σ', k3, k4⟩ := k2 hin
          exact ⟨σ', k3, k4.of ((hF0.tr hF1).tr hF2)⟩⟩
    · rw [b2 d1]
      obtain ⟨k1, _⟩ := x_89 (p := p) (σ := σ1) (q := p + 1) (v := 0 * 10 + c p - 48) hS1.2.1 h51 (by omega) hlo hhi (by omega) (by omega)
      obtain ⟨k1, k2⟩ := k1 (by omega)
      refine ⟨fun v q hn => ?_, fun hno => absurd ⟨_, _, Or.inl ⟨d0, d1, rfl, rfl⟩⟩ hno⟩
      obtain ⟨ev, eq⟩ := numAt_un hn (Or.inl ⟨d0, d1, rfl, rfl⟩)
      have ev' : v = 0 * 10 + c p - 48 := by omega
      rw [ev', eq]
      exact ⟨fun hin => ⟨σ1, k1 hin, hS1, h51, hF0.tr hF1⟩, fun hin => by
        obtain ⟨σ', k3, k4⟩ := k2 hin
        exact ⟨σ', k3, k4.of (hF0.tr hF1)⟩⟩
  · rw [a2 d0]
    obtain ⟨_, k2⟩ := x_89 (p := p) (σ := σ0) (q := p) (v := 0) hS0.2.1 h50 (by omega) hlo hhi (by omega) (by omega)
    refine ⟨fun v q hn => ?_, fun _ => ?_⟩
    · exfalso
      rcases hn with ⟨b, _⟩ | ⟨b, _⟩
      · exact d0 b
      · exact d0 b
    · obtain ⟨σ', k3, k4⟩ := k2 (by omega)
      exact ⟨σ', k3, k4.of hF0⟩
end XRD
