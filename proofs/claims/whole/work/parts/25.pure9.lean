/-! pure: set, copy, drop, feed -/
theorem put_it {σ μ : St} (h : Rel σ μ) {r i n : Nat} (hr : r < 8) (hi : i < 40) (v : Int32) : Rel (up σ (gIt r) i v) (up μ 3 (40 * r + i) v) := by
  have gi : gIt r = 5 + r := rfl
  refine h.rows (fun a ha => up_o (by omega)) (fun a a1 a2 a3 a4 => up_o a3) (fun s hs => ?_)
  obtain ⟨q1, q2, q3⟩ := h.1 s hs
  have gs : gIt s = 5 + s := rfl
  rw [up_o (a' := 2) (by omega), up_o (a' := 3) (a := gIt r) (by omega), up_o (a' := 1) (by omega), up_o (a' := 2) (by omega)]
  refine ⟨q1, q2, fun j hj => ?_⟩
  rw [up_v, up_v]
  by_cases e : s = r ∧ j = i
  · rw [if_pos ⟨by omega, e.2⟩, if_pos ⟨rfl, by omega⟩]
  · rw [if_neg (by omega), if_neg (by omega)]
    exact q3 j hj
theorem a_set (x y z : Int32) {σ μ : St} (h : Rel σ μ) : Sr Rel (m_P_set σ x y z) (m_M_set μ x y z) := by
  unfold m_P_set m_M_set
  rw [x_isRow, m_isRow, bnd_s, bnd_s]
  refine sr_if (fun _ => Sr.fin h) (fun hr => ?_)
  obtain ⟨r, hr, rfl⟩ := hr
  obtain ⟨t, ht, e1, e2, hl⟩ := a_missing h hr
  rw [e1, e2, bnd_s, bnd_s]
  refine sr_ite (fun h0 => ?_) (fun _ => sr_find h 1)
  obtain ⟨l, hl, s2, m1⟩ := hl h0
  obtain ⟨_, ⟨n, hn, s3, m2⟩, hit⟩ := h.1 r hr
  rw [show lenM 2 = 8 from rfl, show lenM 1 = 8 from rfl, show lenM 3 = 320 from rfl, x_places hr s3 hn, bnd_s, bd_n (by omega) (by omega), cl_n (by omega), m2, in_n, bnd_s]
  by_cases hy : ∃ j, j < n ∧ y = nI j
  · obtain ⟨j, hj, rfl⟩ := hy
    rw [if1 ⟨j, 1, by omega, rfl, rfl⟩, if1 ((in_iff (by omega)).mpr ⟨j, hj, rfl⟩)]
    unfold m_Rows_put m_Rows_put_B33 m_M_cut
    have hb : ∀ t : Rt, bd (nI r) 8 t = t := fun t => bd_n (by omega) (by omega)
    have hb2 : ∀ t : Rt, bd (nI j) 40 t = t := fun t => bd_n (by omega) (by omega)
    have e40 : (40 : Int32) * nI r + nI j = nI (40 * r + j) := by rw [li_40, mu_n, ad_n]
    have hb3 : ∀ t : Rt, bd (nI (40 * r + j)) 320 t = t := fun t => bd_n (by omega) (by omega)
    simp only [hb, hb2, e40, hb3, nm_i, nmS_e]
    rw [cl_n (by omega), cl_n (by omega), cl_n (by omega), s2, m1]
    have go : ∀ v : Int32, Sr Rel (bnd (some (v, up σ (gIt r) j v)) (fun v7 σ8 => bnd (m_P_foundNothing σ8 v7) (fun v9 σ10 => some (v9, σ10)))) (bnd (m_M_well (up μ 3 (40 * r + j) v) (up μ 3 (40 * r + j) v 3 (40 * r + j))) (fun v10 σ11 => some (v10, σ11))) := by
      intro v
      rw [bnd_s, up_s]
      exact sr_well (put_it (n := n) h hr (by omega) v) v
    rcases (show l = 0 ∨ l = 1 ∨ l = 2 by omega) with rfl | rfl | rfl
    · rw [if_pos (by decide), if_pos (by decide), bnd_s, cut8]
      exact go _
    · rw [if_neg (by decide), if_pos (by decide), if_neg (by decide), if_pos (by decide), bnd_s, cut16]
      exact go _
    · rw [if_neg (by decide), if_neg (by decide), if_neg (by decide), if_neg (by decide), bnd_s]
      exact go _
  · rw [if0 (fun z => by
      obtain ⟨i, k, a, b, c⟩ := z
      have : k < 2147483648 ∨ True := Or.inr trivial
      have c' := congrArg Int32.toInt c
      rw [show (1 : Int32).toInt = 1 from rfl, nI_toInt (by omega)] at c'
      exact hy ⟨i, by omega, b⟩), if0 (fun z => hy ((in_iff (by omega)).mp z))]
    exact sr_find h 2
theorem a_drop (x : Int32) {σ μ : St} (h : Rel σ μ) : Sr Rel (m_P_drop σ x) (m_M_drop μ x) := by
  unfold m_P_drop m_M_drop m_Rows_remove
  rw [x_isRow, m_isRow, bnd_s, bnd_s]
  refine sr_if (fun _ => Sr.fin h) (fun hr => ?_)
  obtain ⟨r, hr, rfl⟩ := hr
  obtain ⟨t, ht, e1, e2, hl⟩ := a_missing h hr
  rw [e1, e2, bnd_s, bnd_s]
  refine sr_ite (fun h0 => ?_) (fun _ => sr_find h 1)
  obtain ⟨_, ⟨n, hn, s3, m2⟩, hit⟩ := h.1 r hr
  rw [show lenM 2 = 8 from rfl, show lenM 1 = 8 from rfl]
  have hb : ∀ t : Rt, bd (nI r) 8 t = t := fun t => bd_n (by omega) (by omega)
  simp only [hb, nmS_e]
  rw [bnd_s, cl_n (by omega), up_o (a' := 3) (by omega), up_o (a' := 2) (by omega), s3, m2]
  refine sr_well (h.rows (fun a ha => up_o (by omega)) (fun a a1 a2 a3 a4 => up_o a1) (fun s hs => ?_)) _
  obtain ⟨q1, q2, q3⟩ := h.1 s hs
  have gs : gIt s = 5 + s := rfl
  rw [up_o (a' := 3) (by omega), up_o (a' := 2) (a := 1) (by omega), up_o (a' := gIt s) (by omega), up_o (a' := 3) (a := 1) (by omega)]
  refine ⟨?_, q2, q3⟩
  rw [up_v, up_v]
  by_cases e : s = r
  · rw [if_pos ⟨rfl, e⟩, if_pos ⟨rfl, e⟩]
    exact Or.inl ⟨rfl, rfl⟩
  · rw [if_neg (fun z => e z.2), if_neg (fun z => e z.2)]
    exact q1
theorem m_cp1 {a b i j k : Nat} (ha : a < 8) (hi : i + k ≤ 40) : ∀ (m n q : Nat) (μ μ0 : St), q + m = k → m < n → FrM 4 μ0 μ → (∀ t, t < q → μ 4 t = μ0 3 (40 * a + i + t)) → ∃ μ', m_M_copy_L92 n μ (nI a) (nI i) (nI b) (nI j) (nI k) (nI q) = m_M_copy_B126 μ' (nI b) (nI j) (nI k) ∧ FrM 4 μ0 μ' ∧ ∀ t, t < k → μ' 4 t = μ0 3 (40 * a + i + t) := by
  intro m
  induction m with
  | zero =>
    intro n q μ μ0 hq hn hf hs
    obtain ⟨n, rfl⟩ : ∃ k, n = k + 1 := ⟨n - 1, by omega⟩
    refine ⟨μ, ?_, hf, fun t ht => hs t (by omega)⟩
    show m_M_copy_B92 (m_M_copy_L92 n) μ _ _ _ _ _ _ = _
    unfold m_M_copy_B92
    rw [ile (by omega) (by omega), if_pos (by omega)]
  | succ m ih =>
    intro n q μ μ0 hq hn hf hs
    obtain ⟨n, rfl⟩ : ∃ k, n = k + 1 := ⟨n - 1, by omega⟩
    show ∃ μ', m_M_copy_B92 (m_M_copy_L92 n) μ _ _ _ _ _ _ = _ ∧ _
    unfold m_M_copy_B92
    rw [ile (by omega) (by omega), if_neg (by omega), li_40, mu_n, ad_n, ad_n, show lenM 3 = 320 from rfl, show lenM 4 = 40 from rfl, bd_n (by omega) (by omega), bd_n (by omega) (by omega), nmS_e, cl_n (by omega), cl_n (by omega), ad_1]
    refine ih n (q + 1) _ μ0 (by omega) (by omega) (hf.tr (frM 4 μ _ _)) (fun t ht => ?_)
    rw [up_v]
    by_cases e : t = q
    · rw [if_pos ⟨rfl, e⟩, hf 3 (by omega), e]
    · rw [if_neg (fun z => e z.2)]
      exact hs t (by omega)
theorem m_cp2 {b j k : Nat} (hb : b < 8) (hj : j + k ≤ 40) (μ0 : St) : ∀ (m n q : Nat) (μ : St), q + m = k → m < n → FrM 3 μ0 μ → (∀ t, μ 3 t = if 40 * b + j ≤ t ∧ t < 40 * b + j + q then μ0 4 (t - (40 * b + j)) else μ0 3 t) → ∃ μ', m_M_copy_L129 n μ (nI b) (nI j) (nI k) (nI q) = m_M_copy_B164 μ' (nI k) ∧ FrM 3 μ0 μ' ∧ ∀ t, μ' 3 t = if 40 * b + j ≤ t ∧ t < 40 * b + j + k then μ0 4 (t - (40 * b + j)) else μ0 3 t := by
  intro m
  induction m with
  | zero =>
    intro n q μ hq hn hf hs
    obtain ⟨n, rfl⟩ : ∃ k, n = k + 1 := ⟨n - 1, by omega⟩
    refine ⟨μ, ?_, hf, fun t => ?_⟩
    · show m_M_copy_B129 (m_M_copy_L129 n) μ _ _ _ _ = _
      unfold m_M_copy_B129
      rw [ile (by omega) (by omega), if_pos (by omega)]
    · rw [hs t, show q = k by omega]
  | succ m ih =>
    intro n q μ hq hn hf hs
    obtain ⟨n, rfl⟩ : ∃ k, n = k + 1 := ⟨n - 1, by omega⟩
    show ∃ μ', m_M_copy_B129 (m_M_copy_L129 n) μ _ _ _ _ = _ ∧ _
    unfold m_M_copy_B129
    rw [ile (by omega) (by omega), if_neg (by omega), li_40, mu_n, ad_n, ad_n, show lenM 3 = 320 from rfl, show lenM 4 = 40 from rfl, bd_n (by omega) (by omega), bd_n (by omega) (by omega), nmS_e, cl_n (by omega), cl_n (by omega), ad_1]
    refine ih n (q + 1) _ (by omega) (by omega) (hf.tr (frM 3 μ _ _)) (fun t => ?_)
    rw [up_v]
    by_cases e : t = 40 * b + j + q
    · rw [if_pos ⟨rfl, e⟩, if_pos (by omega), hf 4 (by omega), e]
      congr 1
      omega
    · rw [if_neg (fun z => e z.2), hs t]
      by_cases hc : 40 * b + j ≤ t ∧ t < 40 * b + j + q
      · rw [if_pos hc, if_pos (by omega)]
      · rw [if_neg hc, if_neg (by omega)]
theorem bdc_n {i j k : Nat} {t : Rt} (hi : i + k ≤ 40) (hj : j + k ≤ 40) : bdc (nI i) (nI j) (nI k) 40 40 t = t := by
  unfold bdc
  have f : ∀ n, n ≤ 40 → ¬ nI n < (0 : Int32) := fun n hn => by
    rw [li_0, lt_n (by omega) (by omega)]
    omega
  rw [cl_n (by omega), cl_n (by omega), cl_n (by omega), if_pos ⟨f i (by omega), f j (by omega), f k (by omega), hi, hj⟩]
theorem a_copy (x1 x2 x3 x4 x5 : Int32) {σ μ : St} (h : Rel σ μ) : Sr Rel (m_P_copy σ x1 x2 x3 x4 x5) (m_M_copy μ x1 x2 x3 x4 x5) := by
  unfold m_P_copy m_M_copy m_P_copy_B47 m_P_copy_B109 m_M_copy_B33 m_M_copy_B83
  rw [x_isRow, m_isRow, bnd_s, bnd_s]
  refine sr_if (fun _ => Sr.fin h) (fun hr => ?_)
  obtain ⟨a, ha, rfl⟩ := hr
  rw [x_isRow, m_isRow, bnd_s, bnd_s]
  refine sr_if (fun _ => Sr.fin h) (fun hr => ?_)
  obtain ⟨b, hb, rfl⟩ := hr
  obtain ⟨t, ht, e1, e2, hl⟩ := a_missing h ha
  rw [e1, e2, bnd_s, bnd_s]
  refine sr_ite (fun h0 => ?_) (fun _ => sr_find h 1)
  obtain ⟨la, hla, sa2, ma1⟩ := hl h0
  obtain ⟨t', ht', e1', e2', hl'⟩ := a_missing h hb
  rw [e1', e2', bnd_s, bnd_s]
  refine sr_ite (fun h0' => ?_) (fun _ => sr_find h 1)
  obtain ⟨lb, hlb, sb2, mb1⟩ := hl' h0'
  rw [show lenM 1 = 8 from rfl, bd_n (by omega) (by omega), bd_n (by omega) (by omega), bd_n (by omega) (by omega), bd_n (by omega) (by omega), cl_n (by omega), cl_n (by omega), sa2, sb2, ma1, mb1]
  refine sr_ite (fun _ => ?_) (fun _ => sr_find h 5)
  obtain ⟨_, ⟨na, hna, sa3, ma2⟩, hita⟩ := h.1 a ha
  obtain ⟨_, ⟨nb, hnb, sb3, mb2⟩, hitb⟩ := h.1 b hb
  rw [x_places ha sa3 hna, m_part ha ma2 hna, bnd_s, bnd_s]
  refine sr_if (fun _ => sr_find h 2) (fun hp => ?_)
  obtain ⟨i, k, hik, rfl, rfl⟩ := hp
  rw [x_places hb sb3 hnb, m_part hb mb2 hnb, bnd_s, bnd_s]
  refine sr_if (fun _ => sr_find h 2) (fun hp => ?_)
  obtain ⟨j, k', hjk, rfl, hk'⟩ := hp
  have hkb : k' < 2147483648 := by omega
  rw [eq_n (by omega) hkb] at hk'
  subst hk'
  rw [bd_n (by omega) (by omega), bd_n (by omega) (by omega), bdc_n (by omega) (by omega), nmS_e, cl_n (by omega), cl_n (by omega), cl_n (by omega)]
  obtain ⟨μ1, e3, f3, g3⟩ := m_cp1 (b := b) (j := j) ha (show i + k ≤ 40 by omega) k FU 0 μ μ (by omega) (fu_lt (by omega)) (FrM.rf 4 μ) (fun t ht => absurd ht (by omega))
  obtain ⟨μ2, e4, f4, g4⟩ := m_cp2 hb (show j + k ≤ 40 by omega) μ1 k FU 0 μ1 (by omega) (fu_lt (by omega)) (FrM.rf 3 μ1) (fun t => by rw [if_neg (by omega)])
  rw [li_0, e3]
  unfold m_M_copy_B126
  rw [li_0, e4]
  unfold m_M_copy_B164
  refine sr_well (h.rows (fun c hc => upR_o (by unfold gIt; omega)) (fun c c1 c2 c3 c4 => by rw [f4 c c3, f3 c c4]) (fun s hs => ?_)) _
  obtain ⟨q1, q2, q3⟩ := h.1 s hs
  have gs : gIt s = 5 + s := rfl
  have gb : gIt b = 5 + b := rfl
  rw [upR_o (a' := 2) (by omega), upR_o (a' := 3) (by omega), f4 1 (by omega), f4 2 (by omega), f3 1 (by omega), f3 2 (by omega)]
  refine ⟨q1, q2, fun u hu => ?_⟩
  rw [g4]
  by_cases e : s = b
  · subst e
    rw [upR_s]
    show va_cpy _ _ i j k u = _
    by_cases hc : j ≤ u ∧ u < j + k
    · rw [if_pos (by omega), g3 _ (by omega)]
      unfold va_cpy
      rw [if_pos hc, hita _ (by omega)]
      congr 1
      omega
    · rw [if_neg (by omega), f3 3 (by omega)]
      unfold va_cpy
      rw [if_neg hc]
      exact q3 u hu
  · rw [upR_o (by omega), if_neg (by omega), f3 3 (by omega)]
    exact q3 u hu
theorem Rel.tape {σ μ σ' μ' : St} (h : Rel σ μ) (hx : ∀ a, a ≠ 13 → a ≠ 14 → (a < 28 ∨ 35 ≤ a) → σ' a = σ a) (hm : ∀ a, a ≠ 0 → a ≠ 4 → a ≠ 5 → a ≠ 7 → a ≠ 8 → μ' a = μ a) (m4 : μ' 0 4 = μ 0 4) (m17 : μ' 0 17 = μ 0 17) (m24 : μ' 0 24 = μ 0 24) (hf : σ' 13 2 = μ' 0 7) (ht : RTape σ' μ') : Rel σ' μ' := by
  obtain ⟨h1, h2, h3, h4, h5, h6, h7, h8⟩ := h
  refine ⟨h1.k (fun a _ _ _ => hx a (by omega) (by omega) (by omega)) (fun a _ _ => hm a (by omega) (by omega) (by omega) (by omega) (by omega)), ht, hf, ?_, h5.k (by rw [hx 18 (by omega) (by omega) (by omega)]) (hx 19 (by omega) (by omega) (by omega)) m24 (hm 15 (by omega) (by omega) (by omega) (by omega) (by omega)), h6.k (fun a _ _ => hx a (by omega) (by omega) (by omega)) (hm 6 (by omega) (by omega) (by omega) (by omega) (by omega)), h7.k (hx 16 (by omega) (by omega) (by omega)) (fun a _ => hx a (by omega) (by omega) (by omega)) m17 (hm 9 (by omega) (by omega) (by omega) (by omega) (by omega)), h8.k (fun a _ _ => hx a (by omega) (by omega) (by omega)) (hm 10 (by omega) (by omega) (by omega) (by omega) (by omega)) (hm 11 (by omega) (by omega) (by omega) (by omega) (by omega))⟩
  rw [hx 0 (by omega) (by omega) (by omega), m4]
  exact h4
theorem a_feed (x : Int32) {σ μ : St} (h : Rel σ μ) : Sr Rel (m_P_feed σ x) (m_M_feed μ x) := by
  unfold m_P_feed m_M_feed m_Reader_append
  rw [within_n, in_n, bnd_s, bnd_s]
  refine sr_if (fun _ => Sr.fin h) (fun hc => ?_)
  rw [li_255, le_iff (by omega)] at hc
  obtain ⟨c, hc, rfl⟩ := hc
  obtain ⟨n, hn, s1, m6, ht⟩ := h.2.1
  rw [s1, m6, li_130, ilt (by omega) (by omega), ieq (by omega) (by omega), ile (by omega) (by omega), show lenM 5 = 130 from rfl]
  by_cases h130 : n = 130
  · rw [if_neg (by omega), if_pos h130]
    exact Sr.fin h
  · rw [if_pos (by omega), if_neg h130, if_neg (by omega), bd_n (by omega) (by omega), bd_n (by omega) (by omega), cl_n (by omega)]
    simp only [nmS_e]
    rw [bnd_s, up_o (a' := 13) (a := 14) (by omega), up_o (a' := 0) (a := 5) (by omega), s1, m6, ad_1, up_s, up_s]
    refine Sr.fin (h.tape (fun a a1 a2 _ => by rw [up_o a1, up_o a2]) (fun a a1 a2 a3 a4 a5 => by rw [up_o a1, up_o a3]) (by rw [up_n (by omega), up_o (by omega)]) (by rw [up_n (by omega), up_o (by omega)]) (by rw [up_n (by omega), up_o (by omega)]) (by rw [up_n (by omega), up_o (by omega), up_n (by omega), up_o (by omega)]; exact h.2.2.1) ⟨n + 1, by omega, up_s, up_s, fun i hi => ?_⟩)
    rw [up_o (a' := 14) (a := 13) (by omega), up_o (a' := 5) (a := 0) (by omega), up_v, up_v]
    by_cases e : i = n
    · exact ⟨c, by omega, if_pos ⟨rfl, e⟩, if_pos ⟨rfl, e⟩⟩
    · rw [if_neg (fun z => e z.2), if_neg (fun z => e z.2)]
      exact ht i (by omega)
