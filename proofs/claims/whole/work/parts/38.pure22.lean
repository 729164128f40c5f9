/-! pure: how the reference reads -/
def TokAt (c : Nat → Nat) (n p : Nat) (μ : St) : Prop := μ 0 10 = nI p ∧ ((n ≤ p ∧ μ 0 11 = nI 0 ∧ μ 0 12 = -1) ∨ (∃ v q, numAt c n p v q ∧ μ 0 11 = nI 2 ∧ μ 0 12 = nI v ∧ μ 0 9 = nI q) ∨ (p < n ∧ μ 0 11 = nI 5 ∧ (¬ ∃ v q, numAt c n p v q) ∧ c p ≠ 44 ∧ c p ≠ 59 ∧ ¬ (97 ≤ c p ∧ c p ≤ 122)) ∨ (p < n ∧ 97 ≤ c p ∧ c p ≤ 122 ∧ μ 0 11 = nI 1 ∧ μ 0 12 = nI (c p) ∧ μ 0 9 = nI (p + 1)) ∨ (p < n ∧ c p = 44 ∧ μ 0 11 = nI 3 ∧ μ 0 9 = nI (p + 1)) ∨ (p < n ∧ c p = 59 ∧ μ 0 11 = nI 4 ∧ μ 0 9 = nI (p + 1)))
def Fm9 (μ μ' : St) : Prop := (∀ a, a ≠ 0 → μ' a = μ a) ∧ ∀ i, (i < 9 ∨ 12 < i) → μ' 0 i = μ 0 i
theorem Fm9.rf (μ : St) : Fm9 μ μ := ⟨fun _ _ => rfl, fun _ _ => rfl⟩
theorem Fm9.tr {a b c : St} (h1 : Fm9 a b) (h2 : Fm9 b c) : Fm9 a c := ⟨fun x h => (h2.1 x h).trans (h1.1 x h), fun i h => (h2.2 i h).trans (h1.2 i h)⟩
theorem fmu (μ : St) {i : Nat} (hi : 9 ≤ i ∧ i ≤ 12) (v : Int32) : Fm9 μ (up μ 0 i v) := ⟨fun a ha => up_o ha, fun j hj => up_n (by omega)⟩
def MT (c : Nat → Nat) (n : Nat) (μ : St) : Prop := μ 0 6 = nI n ∧ ∀ i, i < n → μ 5 i = nI (c i)
theorem MT.k {c : Nat → Nat} {n : Nat} {μ μ' : St} (h : MT c n μ) (f : Fm9 μ μ') : MT c n μ' := ⟨by rw [f.2 6 (by omega)]; exact h.1, fun i hi => by rw [f.1 5 (by omega)]; exact h.2 i hi⟩
section MRD
variable {c : Nat → Nat} {n p : Nat} {μ : St}
theorem m_byte (hT : Tp c n) (h : MT c n μ) (hp : p ≤ n) : m_M_byteAt μ (nI p) = some ((if p < n then nI (c p) else -1), μ) := by
  have t1 := hT.1
  unfold m_M_byteAt
  rw [h.1, ile (by omega) (by omega)]
  by_cases e : p < n
  · rw [if_neg (by omega), show lenM 5 = 130 from rfl, bd_n (by omega) (by omega), cl_n (by omega), h.2 p e, if_pos e]
  · rw [if_pos (by omega), if_neg e]
theorem neg1_in : ¬ ((48 : Int32) ≤ -1 ∧ (-1 : Int32) ≤ 57) := by decide
theorem dig_iff (hT : Tp c n) : ((48 : Int32) ≤ (if p < n then nI (c p) else -1) ∧ (if p < n then nI (c p) else (-1 : Int32)) ≤ 57) ↔ isd c n p := by
  by_cases e : p < n
  · have := hT.2 p e
    rw [if_pos e, li_48, li_57, le_n (by omega) (by omega), le_n (by omega) (by omega)]
    exact ⟨fun z => ⟨e, z⟩, fun z => z.2⟩
  · rw [if_neg e]
    exact ⟨fun z => absurd z neg1_in, fun z => absurd z.1 e⟩
theorem m_run (hT : Tp c n) {s : Nat} : ∀ (m fu p : Nat) (μ : St), MT c n μ → p + m = n → m < fu → s + 2 ≤ p → μ 0 9 = nI p → μ 0 10 = nI s → ∃ μ' q, m_M_advances_L38 fu μ = some (0, μ') ∧ Fm9 μ μ' ∧ μ' 0 10 = nI s ∧ μ' 0 12 = μ 0 12 ∧ μ' 0 9 = nI q ∧ μ' 0 11 = (if s + 3 ≤ q then nI 5 else nI 2) ∧ p ≤ q ∧ (¬ isd c n p → q = p) ∧ (isd c n p → p < q) := by
  have t1 := hT.1
  have stop : ∀ (fu p : Nat) (μ : St), MT c n μ → p ≤ n → s + 2 ≤ p → μ 0 9 = nI p → μ 0 10 = nI s → ¬ isd c n p → ∃ μ' q, m_M_advances_L38 (fu + 1) μ = some (0, μ') ∧ Fm9 μ μ' ∧ μ' 0 10 = nI s ∧ μ' 0 12 = μ 0 12 ∧ μ' 0 9 = nI q ∧ μ' 0 11 = (if s + 3 ≤ q then nI 5 else nI 2) ∧ p ≤ q ∧ (¬ isd c n p → q = p) ∧ (isd c n p → p < q) := by
    intro fu p μ h hp hs h9 h10 hd
    show ∃ μ' q, m_M_advances_B38 (m_M_advances_L38 fu) μ = _ ∧ _
    unfold m_M_advances_B38 m_M_advances_B112
    rw [h9, m_byte hT h hp, bnd_s, in_n, bnd_s, if0 (fun z => hd ((dig_iff hT).mp z)), h9, h10, sb_n (by omega), li_3, ile (by omega) (by omega), nmS_e, nmS_e]
    by_cases h3 : 3 ≤ p - s
    · rw [if_pos h3]
      exact ⟨_, p, rfl, fmu μ (by omega) _, by rw [up_n (by omega)]; exact h10, up_n (by omega), by rw [up_n (by omega)]; exact h9, by rw [up_s, if_pos (by omega)]; rfl, Nat.le_refl p, fun _ => rfl, fun z => absurd z hd⟩
    · rw [if_neg h3]
      exact ⟨_, p, rfl, fmu μ (by omega) _, by rw [up_n (by omega)]; exact h10, up_n (by omega), by rw [up_n (by omega)]; exact h9, by rw [up_s, if_neg (by omega)]; rfl, Nat.le_refl p, fun _ => rfl, fun z => absurd z hd⟩
  intro m
  induction m with
  | zero =>
    intro fu p μ h hp hf hs h9 h10
    obtain ⟨fu, rfl⟩ : ∃ k, fu = k + 1 := ⟨fu - 1, by omega⟩
    exact stop fu p μ h (by omega) hs h9 h10 (fun z => by have := z.1; omega)
  | succ m ih =>
    intro fu p μ h hp hf hs h9 h10
    obtain ⟨fu, rfl⟩ : ∃ k, fu = k + 1 := ⟨fu - 1, by omega⟩
    by_cases hd : isd c n p
    · have e : m_M_advances_L38 (fu + 1) μ = m_M_advances_L38 fu (up (up μ 0 12 (μ 0 12)) 0 9 (nI (p + 1))) := by
        show m_M_advances_B38 (m_M_advances_L38 fu) μ = _
        unfold m_M_advances_B38 m_M_advances_B96
        rw [h9, m_byte hT h (by omega), bnd_s, in_n, bnd_s, if1 ((dig_iff hT).mpr hd), h9, h10, sb_n (by omega), li_2, ile (by omega) (by omega), if_pos (by omega), nmS_e, nmS_e, up_n (by omega), h9, ad_1]
      have f : Fm9 μ (up (up μ 0 12 (μ 0 12)) 0 9 (nI (p + 1))) := (fmu μ (by omega) _).tr (fmu _ (by omega) _)
      obtain ⟨μ', q, a1, a2, a3, a4, a5, a6, a7, a8, a9⟩ := ih fu (p + 1) _ (h.k f) (by omega) (by omega) (by omega) up_s (by rw [up_n (by omega), up_n (by omega)]; exact h10)
      exact ⟨μ', q, by rw [e]; exact a1, f.tr a2, a3, by rw [a4, up_n (by omega), up_s], a5, a6, by omega, fun z => absurd hd z, fun _ => by omega⟩
    · exact stop fu p μ h (by omega) hs h9 h10 hd
theorem m_adv (hT : Tp c n) (h : MT c n μ) (hp : p ≤ n) (h9 : μ 0 9 = nI p) : ∃ μ', m_M_advances μ = some (0, μ') ∧ TokAt c n p μ' ∧ Fm9 μ μ' := by
  have t1 := hT.1
  unfold m_M_advances
  rw [nmS_e, up_n (by omega), h9]
  have f1 : Fm9 μ (up μ 0 10 (nI p)) := fmu μ (by omega) _
  rw [m_byte hT (h.k f1) hp, bnd_s, nmS_e, in_n, bnd_s]
  have f2 := f1.tr (fmu (up μ 0 10 (nI p)) (i := 12) (by omega) (if p < n then nI (c p) else -1))
  have g9 : up (up μ 0 10 (nI p)) 0 12 (if p < n then nI (c p) else -1) 0 9 = nI p := by rw [up_n (by omega), up_n (by omega)]; exact h9
  have g10 : up (up μ 0 10 (nI p)) 0 12 (if p < n then nI (c p) else -1) 0 10 = nI p := by rw [up_n (by omega), up_s]
  have g12 : up (up μ 0 10 (nI p)) 0 12 (if p < n then nI (c p) else -1) 0 12 = (if p < n then nI (c p) else -1) := up_s
  generalize up (up μ 0 10 (nI p)) 0 12 (if p < n then nI (c p) else -1) = μ2 at f2 g9 g10 g12 ⊢
  by_cases hd : isd c n p
  · rw [if1 ((dig_iff hT).mpr hd), nmS_e]
    have d1 := hd.1
    have d2 := hd.2
    have f3 := f2.tr (fmu μ2 (i := 12) (by omega) 0)
    have k9 : up μ2 0 12 0 0 9 = nI p := by rw [up_n (by omega)]; exact g9
    have k10 : up μ2 0 12 0 0 10 = nI p := by rw [up_n (by omega)]; exact g10
    have k12 : up μ2 0 12 0 0 12 = nI 0 := up_s
    generalize up μ2 0 12 0 = μ3 at f3 k9 k10 k12 ⊢
    have e1 : m_M_advances_L38 FU μ3 = m_M_advances_L38 1999 (up (up μ3 0 12 (nI (c p - 48))) 0 9 (nI (p + 1))) := by
      show m_M_advances_B38 (m_M_advances_L38 1999) μ3 = _
      unfold m_M_advances_B38 m_M_advances_B96
      rw [k9, m_byte hT (h.k f3) (by omega), bnd_s, in_n, bnd_s, if1 ((dig_iff hT).mpr hd), k9, k10, sb_n (Nat.le_refl p), li_2, ile (by omega) (by omega), if_neg (by omega), m_byte hT (h.k f3) (by omega), bnd_s, k12, if_pos d1, li_10, mu_n, ad_n, li_48, sb_n (by omega), nmS_e, nmS_e, up_n (by omega), k9, ad_1, show 10 * 0 + c p - 48 = c p - 48 by omega]
    have f4 := f3.tr ((fmu μ3 (i := 12) (by omega) (nI (c p - 48))).tr (fmu _ (i := 9) (by omega) (nI (p + 1))))
    have l9 : up (up μ3 0 12 (nI (c p - 48))) 0 9 (nI (p + 1)) 0 9 = nI (p + 1) := up_s
    have l10 : up (up μ3 0 12 (nI (c p - 48))) 0 9 (nI (p + 1)) 0 10 = nI p := by rw [up_n (by omega), up_n (by omega)]; exact k10
    have l12 : up (up μ3 0 12 (nI (c p - 48))) 0 9 (nI (p + 1)) 0 12 = nI (c p - 48) := by rw [up_n (by omega), up_s]
    rw [e1]
    generalize up (up μ3 0 12 (nI (c p - 48))) 0 9 (nI (p + 1)) = μ4 at f4 l9 l10 l12 ⊢
    by_cases hd1 : isd c n (p + 1)
    · have d3 := hd1.1
      have d4 := hd1.2
      have e2 : m_M_advances_L38 1999 μ4 = m_M_advances_L38 1998 (up (up μ4 0 12 (nI ((c p - 48) * 10 + (c (p + 1) - 48)))) 0 9 (nI (p + 1 + 1))) := by
        show m_M_advances_B38 (m_M_advances_L38 1998) μ4 = _
        unfold m_M_advances_B38 m_M_advances_B96
        rw [l9, m_byte hT (h.k f4) (by omega), bnd_s, in_n, bnd_s, if1 ((dig_iff hT).mpr hd1), l9, l10, sb_n (by omega), li_2, ile (by omega) (by omega), if_neg (by omega), m_byte hT (h.k f4) (by omega), bnd_s, l12, if_pos d3, li_10, mu_n, ad_n, li_48, sb_n (by omega), nmS_e, nmS_e, up_n (by omega), l9, ad_1, show 10 * (c p - 48) + c (p + 1) - 48 = (c p - 48) * 10 + (c (p + 1) - 48) by omega]
      have f5 := f4.tr ((fmu μ4 (i := 12) (by omega) (nI ((c p - 48) * 10 + (c (p + 1) - 48)))).tr (fmu _ (i := 9) (by omega) (nI (p + 1 + 1))))
      obtain ⟨μ', q, a1, a2, a3, a4, a5, a6, a7, a8, a9⟩ := m_run hT (s := p) (n - (p + 1 + 1)) 1998 (p + 1 + 1) _ (h.k f5) (by omega) (by omega) (by omega) up_s (by rw [up_n (by omega), up_n (by omega)]; exact l10)
      rw [e2, a1]
      refine ⟨μ', rfl, ⟨a3, ?_⟩, f5.tr a2⟩
      by_cases hd2 : isd c n (p + 2)
      · have := a9 hd2
        rw [if_pos (by omega)] at a6
        refine Or.inr (Or.inr (Or.inl ⟨d1, a6, ?_, by omega, by omega, by omega⟩))
        rintro ⟨v, r, z⟩
        rcases z with ⟨_, b, _⟩ | ⟨_, _, b, _⟩
        · exact b hd1
        · exact b hd2
      · have := a8 hd2
        rw [if_neg (by omega)] at a6
        exact Or.inr (Or.inl ⟨_, _, Or.inr ⟨hd, hd1, hd2, rfl, rfl⟩, a6, by rw [a4, up_n (by omega), up_s], by rw [a5, this]⟩)
    · have e2 : m_M_advances_L38 1999 μ4 = some (0, up μ4 0 11 (nI 2)) := by
        show m_M_advances_B38 (m_M_advances_L38 1998) μ4 = _
        unfold m_M_advances_B38 m_M_advances_B112
        rw [l9, m_byte hT (h.k f4) (by omega), bnd_s, in_n, bnd_s, if0 (fun z => hd1 ((dig_iff hT).mp z)), l9, l10, sb_n (by omega), li_3, ile (by omega) (by omega), if_neg (by omega), nmS_e]
        rfl
      rw [e2]
      exact ⟨_, rfl, ⟨by rw [up_n (by omega)]; exact l10, Or.inr (Or.inl ⟨_, _, Or.inl ⟨hd, hd1, rfl, rfl⟩, up_s, by rw [up_n (by omega)]; exact l12, by rw [up_n (by omega)]; exact l9⟩)⟩, f4.tr (fmu μ4 (by omega) _)⟩
  · rw [if0 (fun z => hd ((dig_iff hT).mp z))]
    have hno : ¬ ∃ v q, numAt c n p v q := by
      rintro ⟨v, q, z⟩
      rcases z with ⟨b, _⟩ | ⟨b, _⟩
      · exact hd b
      · exact hd b
    have e180 : ∀ k, 1 ≤ k → k ≤ 5 → ∃ μ', m_M_advances_B180 μ2 (nI k) = some (0, μ') ∧ μ' 0 10 = nI p ∧ μ' 0 11 = nI k ∧ μ' 0 12 = μ2 0 12 ∧ μ' 0 9 = nI (p + 1) ∧ Fm9 μ μ' := by
      intro k h1 h5
      unfold m_M_advances_B180
      rw [nmS_e, up_s, li_0, ieq (by omega) (by omega), if_neg (by omega), nmS_e, up_n (by omega), g9, ad_1]
      exact ⟨_, rfl, by rw [up_n (by omega), up_n (by omega)]; exact g10, by rw [up_n (by omega), up_s], by rw [up_n (by omega), up_n (by omega)], up_s, f2.tr ((fmu μ2 (by omega) _).tr (fmu _ (by omega) _))⟩
    by_cases hp' : p < n
    · have h256 := hT.2 p hp'
      rw [if_pos hp'] at g12 ⊢
      rw [if_pos (show (0 : Int32) ≤ nI (c p) from nI_pos' (by omega)), in_n, bnd_s]
      have hlet : ((97 : Int32) ≤ nI (c p) ∧ nI (c p) ≤ 122) ↔ (97 ≤ c p ∧ c p ≤ 122) := by rw [show (97 : Int32) = nI 97 from rfl, show (122 : Int32) = nI 122 from rfl, le_n (by omega) (by omega), le_n (by omega) (by omega)]
      by_cases hl : 97 ≤ c p ∧ c p ≤ 122
      · rw [if1 (hlet.mpr hl)]
        obtain ⟨μ', a1, a2, a3, a4, a5, a6⟩ := e180 1 (by omega) (by omega)
        exact ⟨μ', a1, ⟨a2, Or.inr (Or.inr (Or.inr (Or.inl ⟨hp', hl.1, hl.2, a3, by rw [a4]; exact g12, a5⟩)))⟩, a6⟩
      · rw [if0 (fun z => hl (hlet.mp z)), show (44 : Int32) = nI 44 from rfl, show (59 : Int32) = nI 59 from rfl, ieq (by omega) (by omega), ieq (by omega) (by omega)]
        by_cases h44 : c p = 44
        · rw [if_pos h44]
          obtain ⟨μ', a1, a2, a3, a4, a5, a6⟩ := e180 3 (by omega) (by omega)
          exact ⟨μ', a1, ⟨a2, Or.inr (Or.inr (Or.inr (Or.inr (Or.inl ⟨hp', h44, a3, a5⟩))))⟩, a6⟩
        · rw [if_neg h44]
          by_cases h59 : c p = 59
          · rw [if_pos h59]
            obtain ⟨μ', a1, a2, a3, a4, a5, a6⟩ := e180 4 (by omega) (by omega)
            exact ⟨μ', a1, ⟨a2, Or.inr (Or.inr (Or.inr (Or.inr (Or.inr ⟨hp', h59, a3, a5⟩))))⟩, a6⟩
          · rw [if_neg h59]
            obtain ⟨μ', a1, a2, a3, a4, a5, a6⟩ := e180 5 (by omega) (by omega)
            exact ⟨μ', a1, ⟨a2, Or.inr (Or.inr (Or.inl ⟨hp', a3, hno, h44, h59, hl⟩))⟩, a6⟩
    · rw [if_neg hp'] at g12 ⊢
      rw [if_neg (show ¬ (0 : Int32) ≤ -1 by decide)]
      unfold m_M_advances_B180
      rw [nmS_e, up_s, if_pos rfl, nmS_e]
      exact ⟨_, rfl, ⟨by rw [up_n (by omega), up_n (by omega)]; exact g10, Or.inl ⟨by omega, by rw [up_n (by omega), up_s]; rfl, by rw [up_n (by omega), up_n (by omega)]; exact g12⟩⟩, f2.tr ((fmu μ2 (by omega) _).tr (fmu _ (by omega) _))⟩
end MRD
def MS (c : Nat → Nat) (n p : Nat) (μ : St) : Prop := MT c n μ ∧ μ 0 8 = -1 ∧ TokAt c n p μ
def Fm7 (μ μ' : St) : Prop := (∀ a, a ≠ 0 → μ' a = μ a) ∧ ∀ i, (i < 7 ∨ 12 < i) → μ' 0 i = μ 0 i
theorem Fm9.to7 {a b : St} (h : Fm9 a b) : Fm7 a b := ⟨h.1, fun i hi => h.2 i (by omega)⟩
theorem Fm7.tr {a b c : St} (h1 : Fm7 a b) (h2 : Fm7 b c) : Fm7 a c := ⟨fun x h => (h2.1 x h).trans (h1.1 x h), fun i h => (h2.2 i h).trans (h1.2 i h)⟩
def Dd (pl k : Nat) (μ : St) : Prop := μ 0 8 = nI pl ∧ μ 0 7 = nI k ∧ pl < 2147483648
section MTK
variable {c : Nat → Nat} {n p : Nat} {μ : St}
theorem m_well1 (h : μ 0 8 = -1) : m_M_isWell μ = some (1, μ) := by
  unfold m_M_isWell
  rw [h, if_neg (by decide), vB_1]
theorem m_well0 {pl k : Nat} (h : Dd pl k μ) : m_M_isWell μ = some (0, μ) := by
  unfold m_M_isWell
  rw [h.1, if_pos (nI_pos' h.2.2), vB_0]
theorem m_tk1 (hT : Tp c n) (h : MS c n p μ) {q : Nat} (h9 : μ 0 9 = nI q) (hq : q ≤ n) (x : Int32) : ∃ μ', m_M_takes μ 1 x = some (μ 0 12, μ') ∧ MS c n q μ' ∧ Fm9 μ μ' := by
  unfold m_M_takes
  rw [m_well1 h.2.1, bnd_s, if_neg (by decide), if_neg (by decide), nm_i]
  obtain ⟨μ', e, t, f⟩ := m_adv hT h.1 hq h9
  rw [e, bnd_s]
  exact ⟨μ', rfl, ⟨h.1.k f, by rw [f.2 8 (by omega)]; exact h.2.1, t⟩, f⟩
theorem m_tk0 (h : MS c n p μ) (hp : p < 2147483648) (k : Nat) : ∃ μ', m_M_takes μ 0 (nI k) = some (0, μ') ∧ Dd p k μ' ∧ Fm7 μ μ' := by
  unfold m_M_takes
  rw [m_well1 h.2.1, bnd_s, if_neg (by decide), if_pos rfl, nmS_e, nmS_e, h.2.2.1]
  exact ⟨_, rfl, ⟨by rw [up_n (by omega), up_s], up_s, hp⟩, fun a ha => by rw [up_o ha, up_o ha], fun i hi => by rw [up_n (by omega), up_n (by omega)]⟩
theorem m_tkd {pl k : Nat} (h : Dd pl k μ) (x y : Int32) : m_M_takes μ x y = some (0, μ) := by
  unfold m_M_takes
  rw [m_well0 h, bnd_s, if_pos rfl]
theorem m_figd {pl k : Nat} (h : Dd pl k μ) (x y : Int32) : m_M_figure μ x y = some (0, μ) := by
  unfold m_M_figure m_M_figure_B22
  rw [m_well0 h, bnd_s, if_pos rfl, in_n, bnd_s, m_tkd h, bnd_s]
theorem m_fold {pl k : Nat} (h : Dd pl k μ) (x y : Int32) : m_M_follows μ x y = some (0, μ) := by
  unfold m_M_follows m_M_follows_B14
  rw [m_tkd h, m_tkd h, bnd_s, m_figd h, bnd_s]
  split <;> rfl
/-- the figure that is read -/
theorem m_fig (hT : Tp c n) (h : MS c n p μ) (hp : p ≤ n) {lo hi : Nat} (hlo : lo < 10000) (hhi : hi < 10000) : (∀ v q, numAt c n p v q → (lo ≤ v ∧ v ≤ hi → ∃ μ', m_M_figure μ (nI lo) (nI hi) = some (nI v, μ') ∧ MS c n q μ' ∧ Fm9 μ μ') ∧ (¬ (lo ≤ v ∧ v ≤ hi) → ∃ μ', m_M_figure μ (nI lo) (nI hi) = some (0, μ') ∧ Dd p 2 μ' ∧ Fm7 μ μ')) ∧ ((¬ ∃ v q, numAt c n p v q) → ∃ μ', m_M_figure μ (nI lo) (nI hi) = some (0, μ') ∧ Dd p 1 μ' ∧ Fm7 μ μ') := by
  have t1 := hT.1
  unfold m_M_figure m_M_figure_B22
  rw [m_well1 h.2.1, bnd_s, if_neg (by decide)]
  have hn2 : ∀ k, k ≤ 5 → k ≠ 2 → μ 0 11 = nI k → ¬ μ 0 11 = (2 : Int32) := fun k h5 h2 e z => by
    rw [e, li_2, eq_n (by omega) (by omega)] at z
    exact h2 z
  refine ⟨fun v q hn => ?_, fun hno => ?_⟩
  · have hb := numAt_in hn
    have htk : μ 0 11 = (2 : Int32) ∧ μ 0 12 = nI v ∧ μ 0 9 = nI q := by
      have hdp : isd c n p := by
        rcases hn with ⟨a, _⟩ | ⟨a, _⟩
        · exact a
        · exact a
      have h1 := hdp.1
      have h2 := hdp.2
      rcases h.2.2.2 with z | ⟨v', q', z, b, d, e⟩ | z | z | z | z
      · omega
      · obtain ⟨x, y⟩ := numAt_un hn z
        rw [x, y]
        exact ⟨b, d, e⟩
      · exact absurd ⟨v, q, hn⟩ z.2.2.1
      · omega
      · omega
      · omega
    obtain ⟨ha, hb2, hc⟩ := htk
    rw [if_pos ha, hb2, in_n, bnd_s]
    have hr : (nI lo ≤ nI v ∧ nI v ≤ nI hi) = (lo ≤ v ∧ v ≤ hi) := by rw [le_n (by omega) (by omega), le_n (by omega) (by omega)]
    refine ⟨fun hin => ?_, fun hin => ?_⟩
    · rw [if_pos (by rw [hr]; exact hin)]
      obtain ⟨μ', e, f, g⟩ := m_tk1 hT h hc hb.2.1 2
      rw [e, bnd_s, hb2]
      exact ⟨μ', rfl, f, g⟩
    · rw [if_neg (by rw [hr]; exact hin)]
      obtain ⟨μ', e, f, g⟩ := m_tk0 h (by omega) 2
      rw [li_2, e, bnd_s]
      exact ⟨μ', rfl, f, g⟩
  · have h2 : ¬ μ 0 11 = (2 : Int32) := by
      rcases h.2.2.2 with z | ⟨v', q', z, _⟩ | z | z | z | z
      · exact hn2 0 (by omega) (by omega) z.2.1
      · exact absurd ⟨v', q', z⟩ hno
      · exact hn2 5 (by omega) (by omega) z.2.1
      · exact hn2 1 (by omega) (by omega) z.2.2.2.1
      · exact hn2 3 (by omega) (by omega) z.2.2.1
      · exact hn2 4 (by omega) (by omega) z.2.2.1
    rw [if_neg h2]
    obtain ⟨μ', e, f, g⟩ := m_tk0 h (by omega) 1
    rw [li_1, e, bnd_s]
    exact ⟨μ', rfl, f, g⟩
/-- which token it is -/
theorem tok_kind (hT : Tp c n) (h : MS c n p μ) : ((μ 0 11 = nI 0) ↔ n ≤ p) ∧ ((μ 0 11 = nI 4) ↔ (p < n ∧ c p = 59)) ∧ ((μ 0 11 = nI 3) ↔ (p < n ∧ c p = 44)) ∧ ((μ 0 11 = nI 1) ↔ (p < n ∧ 97 ≤ c p ∧ c p ≤ 122)) ∧ (p < n → (c p = 59 ∨ c p = 44 ∨ (97 ≤ c p ∧ c p ≤ 122)) → μ 0 9 = nI (p + 1)) ∧ (μ 0 11 = nI 1 → μ 0 12 = nI (c p)) := by
  have ne : ∀ a b, a ≤ 5 → b ≤ 5 → a ≠ b → μ 0 11 = nI a → ¬ μ 0 11 = nI b := fun a b ha hb hab e z => by
    rw [e, eq_n (by omega) (by omega)] at z
    exact hab z
  rcases h.2.2.2 with z | ⟨v, q, z, b, _⟩ | z | z | z | z
  · have e := z.2.1
    refine ⟨⟨fun _ => z.1, fun _ => e⟩, ⟨fun y => absurd y (ne 0 4 (by omega) (by omega) (by omega) e), fun y => by omega⟩, ⟨fun y => absurd y (ne 0 3 (by omega) (by omega) (by omega) e), fun y => by omega⟩, ⟨fun y => absurd y (ne 0 1 (by omega) (by omega) (by omega) e), fun y => by omega⟩, fun y => by omega, fun y => absurd y (ne 0 1 (by omega) (by omega) (by omega) e)⟩
  · have hd : isd c n p := by
      rcases z with ⟨a, _⟩ | ⟨a, _⟩
      · exact a
      · exact a
    have h1 := hd.1
    have h2 := hd.2
    refine ⟨⟨fun y => absurd y (ne 2 0 (by omega) (by omega) (by omega) b), fun y => by omega⟩, ⟨fun y => absurd y (ne 2 4 (by omega) (by omega) (by omega) b), fun y => by omega⟩, ⟨fun y => absurd y (ne 2 3 (by omega) (by omega) (by omega) b), fun y => by omega⟩, ⟨fun y => absurd y (ne 2 1 (by omega) (by omega) (by omega) b), fun y => by omega⟩, fun y y2 => by omega, fun y => absurd y (ne 2 1 (by omega) (by omega) (by omega) b)⟩
  · have e := z.2.1
    have h1 := z.1
    have h2 := z.2.2.2
    refine ⟨⟨fun y => absurd y (ne 5 0 (by omega) (by omega) (by omega) e), fun y => by omega⟩, ⟨fun y => absurd y (ne 5 4 (by omega) (by omega) (by omega) e), fun y => by omega⟩, ⟨fun y => absurd y (ne 5 3 (by omega) (by omega) (by omega) e), fun y => by omega⟩, ⟨fun y => absurd y (ne 5 1 (by omega) (by omega) (by omega) e), fun y => by omega⟩, fun y y2 => by omega, fun y => absurd y (ne 5 1 (by omega) (by omega) (by omega) e)⟩
  · obtain ⟨z1, z2, z3, e, z5, z6⟩ := z
    refine ⟨⟨fun y => absurd y (ne 1 0 (by omega) (by omega) (by omega) e), fun y => by omega⟩, ⟨fun y => absurd y (ne 1 4 (by omega) (by omega) (by omega) e), fun y => by omega⟩, ⟨fun y => absurd y (ne 1 3 (by omega) (by omega) (by omega) e), fun y => by omega⟩, ⟨fun _ => ⟨z1, z2, z3⟩, fun _ => e⟩, fun _ _ => z6, fun _ => z5⟩
  · obtain ⟨z1, z2, e, z4⟩ := z
    refine ⟨⟨fun y => absurd y (ne 3 0 (by omega) (by omega) (by omega) e), fun y => by omega⟩, ⟨fun y => absurd y (ne 3 4 (by omega) (by omega) (by omega) e), fun y => by omega⟩, ⟨fun _ => ⟨z1, z2⟩, fun _ => e⟩, ⟨fun y => absurd y (ne 3 1 (by omega) (by omega) (by omega) e), fun y => by omega⟩, fun _ _ => z4, fun y => absurd y (ne 3 1 (by omega) (by omega) (by omega) e)⟩
  · obtain ⟨z1, z2, e, z4⟩ := z
    refine ⟨⟨fun y => absurd y (ne 4 0 (by omega) (by omega) (by omega) e), fun y => by omega⟩, ⟨fun _ => ⟨z1, z2⟩, fun _ => e⟩, ⟨fun y => absurd y (ne 4 3 (by omega) (by omega) (by omega) e), fun y => by omega⟩, ⟨fun y => absurd y (ne 4 1 (by omega) (by omega) (by omega) e), fun y => by omega⟩, fun _ _ => z4, fun y => absurd y (ne 4 1 (by omega) (by omega) (by omega) e)⟩
end MTK
