/-! pure: the reference's sorted sum -/
def tt : Nat → Bool := fun _ => true
theorem gec_cf {f g : Nat → Nat} {s : Nat → Bool} {u : Nat} : ∀ {n : Nat}, (∀ i, i < n → f i = g i) → gec f s u n = gec g s u n
  | 0, _ => rfl
  | n + 1, h => by
    unfold gec
    rw [gec_cf (fun i hi => h i (by omega)), h n (by omega)]
theorem gec_swap {f g : Nat → Nat} {a u : Nat} (h1 : f a = g (a + 1)) (h2 : f (a + 1) = g a) (h3 : ∀ i, i ≠ a → i ≠ a + 1 → f i = g i) : ∀ n, gec f tt u (a + 2 + n) = gec g tt u (a + 2 + n)
  | 0 => by
    show gec f tt u a + (if tt a = true ∧ u ≤ f a then 1 else 0) + (if tt (a + 1) = true ∧ u ≤ f (a + 1) then 1 else 0) = gec g tt u a + (if tt a = true ∧ u ≤ g a then 1 else 0) + (if tt (a + 1) = true ∧ u ≤ g (a + 1) then 1 else 0)
    rw [gec_cf (fun i hi => h3 i (by omega) (by omega)), h1, h2]
    have e : ∀ i, tt i = true := fun _ => rfl
    simp only [e, true_and]
    omega
  | n + 1 => by
    show gec f tt u (a + 2 + n) + (if tt (a + 2 + n) = true ∧ u ≤ f (a + 2 + n) then 1 else 0) = gec g tt u (a + 2 + n) + (if tt (a + 2 + n) = true ∧ u ≤ g (a + 2 + n) then 1 else 0)
    rw [gec_swap h1 h2 h3 n, h3 (a + 2 + n) (by omega) (by omega)]
theorem gec_first (f : Nat → Nat) (u : Nat) : ∀ d, gec f tt u (d + 1) = gec (fun i => f (1 + i)) tt u d + (if u ≤ f 0 then 1 else 0)
  | 0 => by
    show gec f tt u 0 + (if tt 0 = true ∧ u ≤ f 0 then 1 else 0) = _
    have e : tt 0 = true := rfl
    simp only [e, true_and, gec]
  | d + 1 => by
    show gec f tt u (d + 1) + (if tt (d + 1) = true ∧ u ≤ f (d + 1) then 1 else 0) = (gec (fun i => f (1 + i)) tt u d + (if tt d = true ∧ u ≤ f (1 + d) then 1 else 0)) + _
    rw [gec_first f u d, Nat.add_comm 1 d]
    have e : ∀ i, tt i = true := fun _ => rfl
    simp only [e, true_and]
    omega
theorem m_ins_l {w N v n0 : Nat} (hw : lenM w = N) (hN : N ≤ 16) (hv : v ≤ 9) (hn0 : n0 < N) (C : Nat → Nat) : ∀ (k n : Nat) (μ : St) (h : Nat → Nat), k ≤ n0 → k < n → (∀ i, i ≤ n0 → i ≠ k → μ w i = nI (h i)) → (∀ i, i ≤ n0 → i ≠ k → h i ≤ 9) → (∀ i j, i < j → j ≤ n0 → i ≠ k → j ≠ k → h j ≤ h i) → (∀ j, k < j → j ≤ n0 → h j < v) → (∀ u, gec (fun i => if i = k then v else h i) tt u (n0 + 1) = C u) → ∃ (μ' : St) (g : Nat → Nat), m_M_laysIn_L2 w n μ (nI v) (nI k) = some (0, μ') ∧ FrM w μ μ' ∧ (∀ i, i ≤ n0 → μ' w i = nI (g i)) ∧ (∀ i, i ≤ n0 → g i ≤ 9) ∧ (∀ i j, i < j → j ≤ n0 → g j ≤ g i) ∧ ∀ u, gec g tt u (n0 + 1) = C u := by
  have fin : ∀ (k : Nat) (μ : St) (h : Nat → Nat), k ≤ n0 → (∀ i, i ≤ n0 → i ≠ k → μ w i = nI (h i)) → (∀ i, i ≤ n0 → i ≠ k → h i ≤ 9) → (∀ i j, i < j → j ≤ n0 → i ≠ k → j ≠ k → h j ≤ h i) → (∀ j, k < j → j ≤ n0 → h j < v) → (∀ i, i < k → v ≤ h i) → (∀ u, gec (fun i => if i = k then v else h i) tt u (n0 + 1) = C u) → ∃ (μ' : St) (g : Nat → Nat), (bd (nI k) (lenM w) (nmS (up μ w (nI k).toNatClampNeg (nI v)) (fun σ1 => some ((0 : Int32), σ1)))) = some (0, μ') ∧ FrM w μ μ' ∧ (∀ i, i ≤ n0 → μ' w i = nI (g i)) ∧ (∀ i, i ≤ n0 → g i ≤ 9) ∧ (∀ i j, i < j → j ≤ n0 → g j ≤ g i) ∧ ∀ u, gec g tt u (n0 + 1) = C u := by
    intro k μ h hk h1 h2 h3 h4 h5 h6
    rw [hw, bd_n (by omega) (by omega), nmS_e, cl_n (by omega)]
    refine ⟨_, fun i => if i = k then v else h i, rfl, frM w μ _ _, fun i hi => ?_, fun i hi => ?_, fun i j hij hj => ?_, h6⟩
    · show _ = nI (if i = k then v else h i)
      rw [up_v]
      by_cases e : i = k
      · rw [if_pos ⟨rfl, e⟩, if_pos e]
      · rw [if_neg (fun z => e z.2), if_neg e]
        exact h1 i hi e
    · show (if i = k then v else h i) ≤ 9
      by_cases e : i = k
      · rw [if_pos e]
        exact hv
      · rw [if_neg e]
        exact h2 i hi e
    · show (if j = k then v else h j) ≤ (if i = k then v else h i)
      by_cases ej : j = k
      · rw [if_pos ej, if_neg (show ¬ i = k by omega)]
        exact h5 i (by omega)
      · rw [if_neg ej]
        by_cases ei : i = k
        · rw [if_pos ei]
          exact Nat.le_of_lt (h4 j (by omega) hj)
        · rw [if_neg ei]
          exact h3 i j hij hj ei ej
  intro k
  induction k with
  | zero =>
    intro n μ h hk hn h1 h2 h3 h4 h6
    obtain ⟨n, rfl⟩ : ∃ k, n = k + 1 := ⟨n - 1, by omega⟩
    show ∃ μ' g, m_M_laysIn_B2 w (m_M_laysIn_L2 w n) μ _ _ = _ ∧ _
    unfold m_M_laysIn_B2
    rw [if_pos (show nI 0 ≤ (0 : Int32) by decide)]
    exact fin 0 μ h (by omega) h1 h2 h3 h4 (fun i hi => absurd hi (by omega)) h6
  | succ k ih =>
    intro n μ h hk hn h1 h2 h3 h4 h6
    obtain ⟨n, rfl⟩ : ∃ k, n = k + 1 := ⟨n - 1, by omega⟩
    show ∃ μ' g, m_M_laysIn_B2 w (m_M_laysIn_L2 w n) μ _ _ = _ ∧ _
    unfold m_M_laysIn_B2
    have hk9 := h2 k (by omega) (by omega)
    have hkm : nI (k + 1) + (-1 : Int32) = nI k := by
      rw [← Int32.sub_eq_add_neg, li_1, sb_n (by omega), Nat.add_sub_cancel]
    have hks : nI (k + 1) - (1 : Int32) = nI k := by rw [li_1, sb_n (by omega), Nat.add_sub_cancel]
    rw [hkm, hks, if_neg (show ¬ nI (k + 1) ≤ (0 : Int32) by rw [li_0, le_n (by omega) (by omega)]; omega)]
    have hb : ∀ t : Rt, bd (nI k) (lenM w) t = t := fun t => bd_n (by omega) (by omega)
    rw [hb, hb, cl_n (n := k) (by omega), h1 k (by omega) (by omega), ile (by omega) (by omega)]
    by_cases hc : v ≤ h k
    · rw [if_pos hc]
      refine fin (k + 1) μ h hk h1 h2 h3 h4 (fun i hi => ?_) h6
      by_cases e : i = k
      · rw [e]
        exact hc
      · exact Nat.le_trans hc (h3 i k (by omega) (by omega) (by omega) (by omega))
    · rw [if_neg hc, bd_n (by omega) (by omega), nmS_e, cl_n (by omega)]
      have q1 : ∀ i, i ≤ n0 → i ≠ k → up μ w (k + 1) (nI (h k)) w i = nI (if i = k + 1 then h k else h i) := fun i hi hik => by
        rw [up_v]
        by_cases e : i = k + 1
        · rw [if_pos ⟨rfl, e⟩, if_pos e]
        · rw [if_neg (fun z => e z.2), if_neg e]
          exact h1 i hi e
      have q2 : ∀ i, i ≤ n0 → i ≠ k → (if i = k + 1 then h k else h i) ≤ 9 := fun i hi hik => by
        by_cases e : i = k + 1
        · rw [if_pos e]
          exact hk9
        · rw [if_neg e]
          exact h2 i hi e
      have q3 : ∀ i j, i < j → j ≤ n0 → i ≠ k → j ≠ k → (if j = k + 1 then h k else h j) ≤ (if i = k + 1 then h k else h i) := fun i j hij hj hik hjk => by
        by_cases ej : j = k + 1
        · rw [if_pos ej, if_neg (show ¬ i = k + 1 by omega)]
          exact h3 i k (by omega) (by omega) (by omega) (by omega)
        · rw [if_neg ej]
          by_cases ei : i = k + 1
          · rw [if_pos ei]
            exact h3 k j (by omega) hj (by omega) ej
          · rw [if_neg ei]
            exact h3 i j hij hj ei ej
      have q4 : ∀ j, k < j → j ≤ n0 → (if j = k + 1 then h k else h j) < v := fun j hkj hj => by
        by_cases ej : j = k + 1
        · rw [if_pos ej]
          omega
        · rw [if_neg ej]
          exact h4 j (by omega) hj
      have q5 : ∀ u, gec (fun i => if i = k then v else (if i = k + 1 then h k else h i)) tt u (n0 + 1) = C u := fun u => by
        rw [← h6 u, show n0 + 1 = k + 2 + (n0 - (k + 1)) by omega]
        refine gec_swap ?_ ?_ (fun i hi hi2 => ?_) _
        · show (if k = k then v else (if k = k + 1 then h k else h k)) = (if k + 1 = k + 1 then v else h (k + 1))
          rw [if_pos rfl, if_pos rfl]
        · show (if k + 1 = k then v else (if k + 1 = k + 1 then h k else h (k + 1))) = (if k = k + 1 then v else h k)
          rw [if_neg (by omega), if_pos rfl, if_neg (by omega)]
        · show (if i = k then v else (if i = k + 1 then h k else h i)) = (if i = k + 1 then v else h i)
          rw [if_neg hi, if_neg hi2, if_neg hi2]
      obtain ⟨μ', g, a1, a2, a3⟩ := ih n (up μ w (k + 1) (nI (h k))) (fun i => if i = k + 1 then h k else h i) (by omega) (by omega) q1 q2 q3 q4 q5
      exact ⟨μ', g, a1, (frM w μ _ _).tr a2, a3⟩
/-- one more number is laid into a sorted row -/
theorem m_ins {w N v n0 : Nat} (hw : lenM w = N) (hN : N ≤ 16) (hv : v ≤ 9) (hn0 : n0 < N) {μ : St} {h : Nat → Nat} (h1 : ∀ i, i < n0 → μ w i = nI (h i)) (h2 : ∀ i, i < n0 → h i ≤ 9) (h3 : ∀ i j, i < j → j < n0 → h j ≤ h i) : ∃ (μ' : St) (g : Nat → Nat), m_M_laysIn w μ (nI n0) (nI v) = some (0, μ') ∧ FrM w μ μ' ∧ (∀ i, i < n0 + 1 → μ' w i = nI (g i)) ∧ (∀ i, i < n0 + 1 → g i ≤ 9) ∧ (∀ i j, i < j → j < n0 + 1 → g j ≤ g i) ∧ ∀ u, gec g tt u (n0 + 1) = gec h tt u n0 + (if u ≤ v then 1 else 0) := by
  obtain ⟨μ', g, a1, a2, a3, a4, a5, a6⟩ := m_ins_l hw hN hv hn0 (fun u => gec h tt u n0 + (if u ≤ v then 1 else 0)) n0 FU μ h (by omega) (fu_lt (by omega)) (fun i hi hk => h1 i (by omega)) (fun i hi hk => h2 i (by omega)) (fun i j hij hj hi hj2 => h3 i j hij (by omega)) (fun j hj hj2 => absurd hj (by omega)) (fun u => by
    show gec (fun i => if i = n0 then v else h i) tt u n0 + (if tt n0 = true ∧ u ≤ (if n0 = n0 then v else h n0) then 1 else 0) = _
    have e : tt n0 = true := rfl
    rw [gec_cf (g := h) (fun i hi => if_neg (by omega)), if_pos (show n0 = n0 from rfl)]
    simp only [e, true_and])
  exact ⟨μ', g, a1, a2, fun i hi => a3 i (by omega), fun i hi => a4 i (by omega), fun i j hij hj => a5 i j hij (by omega), a6⟩
def dt (s w : Nat → Nat) : Nat → Nat → Nat
  | _, 0 => 0
  | k, m + 1 => s k * w k + dt s w (k + 1) m
theorem dt_VV {s w : Nat → Nat} {S E : Nat} (hs : ∀ i, i < S → s i ≤ 9) (hw : ∀ i, i < E → w i ≤ 9) (ss : ∀ i j, i < j → j < S → s j ≤ s i) (sw : ∀ i j, i < j → j < E → w j ≤ w i) : ∀ (m k e : Nat), m ≤ e → k + m = S → k + e = E → dt s w k m = VV (fun u => gec (fun i => s (k + i)) tt u m) (fun u => gec (fun i => w (k + i)) tt u e)
  | 0, k, e, _, _, _ => (VV_zl (fun u _ => rfl)).symm
  | m + 1, k, e + 1, hm, hk, he => by
    show s k * w k + dt s w (k + 1) m = _
    rw [dt_VV hs hw ss sw m (k + 1) e (by omega) (by omega) (by omega)]
    have sh : ∀ (f : Nat → Nat) (u d : Nat), gec (fun i => f (k + i)) tt u (d + 1) = gec (fun i => f (k + 1 + i)) tt u d + (if u ≤ f k then 1 else 0) := fun f u d => by
      rw [gec_first]
      have e1 : (fun i => f (k + (1 + i))) = (fun i => f (k + 1 + i)) := funext (fun i => by rw [Nat.add_assoc])
      show gec (fun i => f (k + (1 + i))) tt u d + (if u ≤ f (k + 0) then 1 else 0) = _
      rw [e1]
      rfl
    refine VV_eq (hs k (by omega)) (hw k (by omega)) (fun u => sh s u m) (fun u => sh w u e) (fun u v hu hv => ?_) (fun u v hu hv => ?_)
    · show gec (fun i => w (k + 1 + i)) tt v e ≤ _
      rw [gec_zero (fun i hi _ => by have := sw k (k + 1 + i) (by omega) (by omega); show w (k + 1 + i) < v; omega)]
      exact Nat.zero_le _
    · show gec (fun i => s (k + 1 + i)) tt u m ≤ _
      rw [gec_zero (fun i hi _ => by have := ss k (k + 1 + i) (by omega) (by omega); show s (k + 1 + i) < u; omega)]
      exact Nat.zero_le _
  | m + 1, k, 0, hm, _, _ => absurd hm (by omega)
def Vf (A : Bt) (f F : Nat) : Nat := VV (fun u => gec (A 3) (fun q => decide (f ≤ q)) u (A 0 1)) (fun v => gec (A 1) (fun q => F.testBit q) v (A 0 0))
section MST
variable {A : Bt} (hW : WF A)
theorem m_sum {μ : St} {s w : Nat → Nat} {S E : Nat} (hS : S ≤ 7) (hE : E ≤ 16) (hSE : S ≤ E) (h12 : ∀ i, i < S → μ 12 i = nI (s i)) (h13 : ∀ i, i < E → μ 13 i = nI (w i)) : ∀ (m n k x : Nat), k + m = S → m < n → m_M_mostOf_L108 n μ (nI S) (nI x) (nI k) = some (nI (x + dt s w k m), μ) := by
  intro m
  induction m with
  | zero =>
    intro n k x hk hn
    obtain ⟨n, rfl⟩ : ∃ k, n = k + 1 := ⟨n - 1, by omega⟩
    show m_M_mostOf_B108 (m_M_mostOf_L108 n) μ _ _ _ = _
    unfold m_M_mostOf_B108
    rw [ile (by omega) (by omega), if_pos (by omega)]
    rfl
  | succ m ih =>
    intro n k x hk hn
    obtain ⟨n, rfl⟩ : ∃ k, n = k + 1 := ⟨n - 1, by omega⟩
    show m_M_mostOf_B108 (m_M_mostOf_L108 n) μ _ _ _ = _
    unfold m_M_mostOf_B108
    rw [ile (by omega) (by omega), if_neg (by omega), show lenM 12 = 7 from rfl, show lenM 13 = 16 from rfl, bd_n (by omega) (by omega), bd_n (by omega) (by omega), cl_n (by omega), h12 k (by omega), h13 k (by omega), nm_i, mu_n, ad_n, ad_1, ih n (k + 1) _ (by omega) (by omega)]
    show _ = some (nI (x + (s k * w k + dt s w (k + 1) m)), μ)
    rw [Nat.add_assoc]
theorem m_cells {A : Bt} (hW : WF A) {s : Nat → Nat} {S f F : Nat} (hS : S ≤ 7) (hs9 : ∀ i, i < S → s i ≤ 9) (hss : ∀ i j, i < j → j < S → s j ≤ s i) (hsc : ∀ u, gec s tt u S = gec (A 3) (fun q => decide (f ≤ q)) u (A 0 1)) (hen : S ≤ gec (A 1) (fun q => F.testBit q) 0 (A 0 0)) : ∀ (m n c e : Nat) (w : Nat → Nat) (μ : St), c + m = A 0 0 → m < n → e ≤ c → RM (μ 6) A (plc A) → (∀ i, i < S → μ 12 i = nI (s i)) → (∀ i, i < e → μ 13 i = nI (w i)) → (∀ i, i < e → w i ≤ 9) → (∀ i j, i < j → j < e → w j ≤ w i) → (∀ u, gec w tt u e = gec (A 1) (fun q => F.testBit q) u c) → ∃ μ', m_M_mostOf_L54 n μ (nI F) (nI S) (nI e) (nI c) = some (nI (Vf A f F), μ') ∧ FrM 13 μ μ' := by
  have w0 := hW.1
  have hb : ∀ t : Rt, bd (1 : Int32) 64 t = t := fun t => bd_n (n := 1) (by omega) (by omega)
  have g0 : ∀ (f : Nat → Nat) n, gec f tt 0 n = n := fun f n => by
    induction n with
    | zero => rfl
    | succ n ih =>
      show gec f tt 0 n + (if tt n = true ∧ 0 ≤ f n then 1 else 0) = _
      rw [ih, if_pos ⟨rfl, Nat.zero_le _⟩]
  intro m
  induction m with
  | zero =>
    intro n c e w μ hc hn he hM h12 h13 hw9 hsw hwc
    obtain ⟨n, rfl⟩ : ∃ k, n = k + 1 := ⟨n - 1, by omega⟩
    show ∃ μ', m_M_mostOf_B54 (m_M_mostOf_L54 n) μ _ _ _ _ = _ ∧ _
    unfold m_M_mostOf_B54 m_M_mostOf_B102
    have ec : c = A 0 0 := by omega
    subst ec
    have hSe : S ≤ e := by
      have := hwc 0
      rw [g0] at this
      omega
    rw [hw6, hb, show (1 : Int32).toNatClampNeg = 1 from rfl, hM.2.1, ile (by omega) (by omega), if_pos (by omega), li_0, m_sum hS (by omega) hSe h12 h13 S FU 0 0 (by omega) (fu_lt (by omega)), Nat.zero_add, dt_VV hs9 hw9 hss hsw S 0 e hSe (by omega) (by omega)]
    refine ⟨μ, ?_, FrM.rf 13 μ⟩
    congr 3
    unfold Vf
    refine VV_congr (fun u => ?_) (fun u => ?_)
    · rw [← hsc u]
      exact gec_cf (fun i hi => by rw [Nat.zero_add])
    · rw [← hwc u]
      exact gec_cf (fun i hi => by rw [Nat.zero_add])
  | succ m ih =>
    intro n c e w μ hc hn he hM h12 h13 hw9 hsw hwc
    obtain ⟨n, rfl⟩ : ∃ k, n = k + 1 := ⟨n - 1, by omega⟩
    show ∃ μ', m_M_mostOf_B54 (m_M_mostOf_L54 n) μ _ _ _ _ = _ ∧ _
    unfold m_M_mostOf_B54 m_M_mostOf_B96
    have hcc := hW.2.2.2.2.2.1 c (by omega)
    rw [hw6, hb, show (1 : Int32).toNatClampNeg = 1 from rfl, hM.2.1, ile (by omega) (by omega), if_neg (by omega), m_hasg μ F (by omega), bnd_s, ad_1]
    have hst : ∀ u, gec (A 1) (fun q => F.testBit q) u (c + 1) = gec (A 1) (fun q => F.testBit q) u c + (if F.testBit c = true ∧ u ≤ A 1 c then 1 else 0) := fun u => rfl
    by_cases eb : F.testBit c = true
    · rw [if1 eb, li_6, ad_n, bd_n (by omega) (by omega), cl_n (by omega), hM.2.2.2.2.2.2.1 c (by omega)]
      obtain ⟨μ1, g, a1, a2, a3, a4, a5, a6⟩ := m_ins (w := 13) (N := 16) rfl (by omega) hcc (show e < 16 by omega) h13 hw9 hsw
      rw [a1, bnd_s, ad_1]
      obtain ⟨μ2, b1, b2⟩ := ih n (c + 1) (e + 1) g μ1 (by omega) (by omega) (by omega) (by rw [a2 6 (by omega)]; exact hM) (fun i hi => by rw [a2 12 (by omega)]; exact h12 i hi) a3 a4 a5 (fun u => by
        rw [a6 u, hst u, hwc u]
        simp only [eb, true_and])
      exact ⟨μ2, b1, a2.tr b2⟩
    · rw [if0 eb]
      exact ih n (c + 1) e w μ (by omega) (by omega) (by omega) hM h12 h13 hw9 hsw (fun u => by
        rw [hst u, hwc u, if_neg (fun z => eb z.1)]
        rfl)
theorem m_pins {A : Bt} (hW : WF A) {f F : Nat} (hen : A 0 1 - f ≤ gec (A 1) (fun q => F.testBit q) 0 (A 0 0)) : ∀ (m n p : Nat) (s : Nat → Nat) (μ : St), p + m = A 0 1 → f ≤ p → m < n → RM (μ 6) A (plc A) → (∀ i, i < p - f → μ 12 i = nI (s i)) → (∀ i, i < p - f → s i ≤ 9) → (∀ i j, i < j → j < p - f → s j ≤ s i) → (∀ u, gec s tt u (p - f) = gec (A 3) (fun q => decide (f ≤ q)) u p) → ∃ μ', m_M_mostOf_L5 n μ (nI F) (nI (p - f)) (nI p) = some (nI (Vf A f F), μ') ∧ ∀ a, a ≠ 12 → a ≠ 13 → μ' a = μ a := by
  have w0 := hW.1
  have w1 := hW.2.1
  have hb : ∀ t : Rt, bd (2 : Int32) 64 t = t := fun t => bd_n (n := 2) (by omega) (by omega)
  intro m
  induction m with
  | zero =>
    intro n p s μ hp hf hn hM h12 h9 hss hsc
    obtain ⟨n, rfl⟩ : ∃ k, n = k + 1 := ⟨n - 1, by omega⟩
    show ∃ μ', m_M_mostOf_B5 (m_M_mostOf_L5 n) μ _ _ _ = _ ∧ _
    unfold m_M_mostOf_B5 m_M_mostOf_B48
    have ep : p = A 0 1 := by omega
    subst ep
    rw [hw6, hb, show (2 : Int32).toNatClampNeg = 2 from rfl, hM.2.2.1, ile (by omega) (by omega), if_pos (by omega)]
    obtain ⟨μ', e1, e2⟩ := m_cells hW (S := A 0 1 - f) (f := f) (F := F) (by omega) h9 hss hsc hen (A 0 0) FU 0 0 (fun _ => 0) μ (by omega) (fu_lt (by omega)) (by omega) hM h12 (fun i hi => absurd hi (by omega)) (fun i hi => absurd hi (by omega)) (fun i j _ hj => absurd hj (by omega)) (fun u => rfl)
    exact ⟨μ', e1, fun a _ h13 => e2 a h13⟩
  | succ m ih =>
    intro n p s μ hp hf hn hM h12 h9 hss hsc
    obtain ⟨n, rfl⟩ : ∃ k, n = k + 1 := ⟨n - 1, by omega⟩
    show ∃ μ', m_M_mostOf_B5 (m_M_mostOf_L5 n) μ _ _ _ = _ ∧ _
    unfold m_M_mostOf_B5
    have k9 := (hW.2.2.2.2.2.2 p (by omega)).2.2.1
    rw [hw6, hb, show (2 : Int32).toNatClampNeg = 2 from rfl, hM.2.2.1, ile (by omega) (by omega), if_neg (by omega), ix0, li_2, ad_n, bd_n (by omega) (by omega), cl_n (by omega), (hM.2.2.2.2.2.2.2 p (by omega)).2.2.1]
    obtain ⟨μ1, g, a1, a2, a3, a4, a5, a6⟩ := m_ins (w := 12) (N := 7) rfl (by omega) k9 (show p - f < 7 by omega) h12 h9 hss
    rw [a1, bnd_s, ad_1, ad_1, show p - f + 1 = p + 1 - f by omega]
    rw [show p - f + 1 = p + 1 - f by omega] at a3 a4 a5 a6
    obtain ⟨μ2, b1, b2⟩ := ih n (p + 1) g μ1 (by omega) (by omega) (by omega) (by rw [a2 6 (by omega)]; exact hM) a3 a4 a5 (fun u => by
      rw [a6 u, hsc u]
      show _ = gec (A 3) (fun q => decide (f ≤ q)) u p + (if decide (f ≤ p) = true ∧ u ≤ A 3 p then 1 else 0)
      simp [hf])
    exact ⟨μ2, b1, fun a h12 h13 => by rw [b2 a h12 h13, a2 a h12]⟩
theorem m_most {A : Bt} (hW : WF A) {μ : St} (hM : RM (μ 6) A (plc A)) {f F : Nat} (hf : f ≤ A 0 1) (hen : A 0 1 - f ≤ gec (A 1) (fun q => F.testBit q) 0 (A 0 0)) : ∃ μ', m_M_mostOf μ (nI f) (nI F) = some (nI (Vf A f F), μ') ∧ ∀ a, a ≠ 12 → a ≠ 13 → μ' a = μ a := by
  have w1 := hW.2.1
  have e := m_pins hW hen (A 0 1 - f) FU f (fun _ => 0) μ (by omega) (Nat.le_refl f) (fu_lt (by omega)) hM (fun i hi => absurd hi (by omega)) (fun i hi => absurd hi (by omega)) (fun i j _ hj => absurd hj (by omega)) (fun u => by
    rw [Nat.sub_self]
    exact (gec_zero (fun i hi hs => by
      have := of_decide_eq_true hs
      omega)).symm)
  rw [Nat.sub_self] at e
  exact e
end MST
