abbrev D0B : List Value := [.int 0, .int 0, .int 0, .int 0, .int 0, .int 0, .null, .null, .null, .null, .null, .null]
def isBd (k : Nat → ClassId) (f : Nat → Nat × va_E) (i m : Nat) : Prop := (f i).2 = .inr (1, [.int 0, .int 0, .int 0, .int 0, .int 0, .int 0, .ref (f (m + 0)).1, .ref (f (m + 1)).1, .ref (f (m + 2)).1, .ref (f (m + 3)).1, .ref (f (m + 4)).1, .ref (f (m + 5)).1]) ∧ (f (m + 0)).2 = .inl (k 0, 16, .inl (fun _ => 0)) ∧ (f (m + 1)).2 = .inl (k 0, 7, .inl (fun _ => 0)) ∧ (f (m + 2)).2 = .inl (k 0, 7, .inl (fun _ => 0)) ∧ (f (m + 3)).2 = .inl (k 0, 7, .inl (fun _ => 0)) ∧ (f (m + 4)).2 = .inl (k 0, 7, .inl (fun _ => 0)) ∧ (f (m + 5)).2 = .inl (k 0, 7, .inl (fun _ => 0))
set_option maxHeartbeats 4000000 in
set_option maxRecDepth 100000 in
theorem kc_Board {l : Launch} {D : va_G} {k : Nat → ClassId} {n i a : Nat} {f : Nat → Nat × va_E} (hi : i < n) (hz : f i = (a, .inr (1, D0B))) : Kt l D k yX1_init cX1_init 1 1 20 6 51 [.ref a] n f (n + 6) (fun f' => (∀ j, j < n → j ≠ i → f' j = f j) ∧ isBd k f' i n ∧ (f' i).1 = a) := by
  have hn0 : ¬ i = n := by omega
  have hm0 : ¬ n = i := by omega
  have hn1 : ¬ i = n + 1 := by omega
  have hm1 : ¬ n + 1 = i := by omega
  have hn2 : ¬ i = n + 2 := by omega
  have hm2 : ¬ n + 2 = i := by omega
  have hn3 : ¬ i = n + 3 := by omega
  have hm3 : ¬ n + 3 = i := by omega
  have hn4 : ¬ i = n + 4 := by omega
  have hm4 : ¬ n + 4 = i := by omega
  have hn5 : ¬ i = n + 5 := by omega
  have hm5 : ¬ n + 5 = i := by omega
  refine Kt_of (by decide) rfl (Nat.le_of_ble_eq_true rfl) (fun p e s m args below meth c A Q C hin kend => ?_)
  refine g_aload_n C e_Board_init_0 rfl ?_
  refine g_obj C gc_0 wobj ⟨by decide, Nat.le_of_ble_eq_true rfl⟩ e_Board_init_1 ?_
  refine g_aload_n C e_Board_init_4 rfl ?_
  refine g_bipush C e_Board_init_5 (v := (16 : Int32)) bp_16 ?_
  refine g_newI C (N := 16) wacI rfl (by decide) (by omega) (by omega) e_Board_init_7 (fun q0 => ?_)
  refine g_put C hin fc_1 i (by omega) (fs := [.int 0, .int 0, .int 0, .int 0, .int 0, .int 0, .null, .null, .null, .null, .null, .null]) (by simp [va_up, hz, hn0, hn1, hn2, hn3, hn4, hn5]) 6 (by decide) rfl rfl rfl rfl (Nat.le_of_ble_eq_true rfl) g_133 e_Board_init_9 ?_
  refine g_aload_n C e_Board_init_12 rfl ?_
  refine g_bipush C e_Board_init_13 (v := (7 : Int32)) bp_7 ?_
  refine g_newI C (N := 7) wacI rfl (by decide) (by omega) (by omega) e_Board_init_15 (fun q1 => ?_)
  refine g_put C hin fc_1 i (by omega) (fs := [.int 0, .int 0, .int 0, .int 0, .int 0, .int 0, .ref q0, .null, .null, .null, .null, .null]) (by simp [va_up, hz, hn0, hn1, hn2, hn3, hn4, hn5]) 7 (by decide) rfl rfl rfl rfl (Nat.le_of_ble_eq_true rfl) g_93 e_Board_init_17 ?_
  refine g_aload_n C e_Board_init_20 rfl ?_
  refine g_bipush C e_Board_init_21 (v := (7 : Int32)) bp_7 ?_
  refine g_newI C (N := 7) wacI rfl (by decide) (by omega) (by omega) e_Board_init_23 (fun q2 => ?_)
  refine g_put C hin fc_1 i (by omega) (fs := [.int 0, .int 0, .int 0, .int 0, .int 0, .int 0, .ref q0, .ref q1, .null, .null, .null, .null]) (by simp [va_up, hz, hn0, hn1, hn2, hn3, hn4, hn5]) 8 (by decide) rfl rfl rfl rfl (Nat.le_of_ble_eq_true rfl) g_135 e_Board_init_25 ?_
  refine g_aload_n C e_Board_init_28 rfl ?_
  refine g_bipush C e_Board_init_29 (v := (7 : Int32)) bp_7 ?_
  refine g_newI C (N := 7) wacI rfl (by decide) (by omega) (by omega) e_Board_init_31 (fun q3 => ?_)
  refine g_put C hin fc_1 i (by omega) (fs := [.int 0, .int 0, .int 0, .int 0, .int 0, .int 0, .ref q0, .ref q1, .ref q2, .null, .null, .null]) (by simp [va_up, hz, hn0, hn1, hn2, hn3, hn4, hn5]) 9 (by decide) rfl rfl rfl rfl (Nat.le_of_ble_eq_true rfl) g_136 e_Board_init_33 ?_
  refine g_aload_n C e_Board_init_36 rfl ?_
  refine g_bipush C e_Board_init_37 (v := (7 : Int32)) bp_7 ?_
  refine g_newI C (N := 7) wacI rfl (by decide) (by omega) (by omega) e_Board_init_39 (fun q4 => ?_)
  refine g_put C hin fc_1 i (by omega) (fs := [.int 0, .int 0, .int 0, .int 0, .int 0, .int 0, .ref q0, .ref q1, .ref q2, .ref q3, .null, .null]) (by simp [va_up, hz, hn0, hn1, hn2, hn3, hn4, hn5]) 10 (by decide) rfl rfl rfl rfl (Nat.le_of_ble_eq_true rfl) g_137 e_Board_init_41 ?_
  refine g_aload_n C e_Board_init_44 rfl ?_
  refine g_bipush C e_Board_init_45 (v := (7 : Int32)) bp_7 ?_
  refine g_newI C (N := 7) wacI rfl (by decide) (by omega) (by omega) e_Board_init_47 (fun q5 => ?_)
  refine g_put C hin fc_1 i (by omega) (fs := [.int 0, .int 0, .int 0, .int 0, .int 0, .int 0, .ref q0, .ref q1, .ref q2, .ref q3, .ref q4, .null]) (by simp [va_up, hz, hn0, hn1, hn2, hn3, hn4, hn5]) 11 (by decide) rfl rfl rfl rfl (Nat.le_of_ble_eq_true rfl) g_138 e_Board_init_49 ?_
  refine kend _ ?_ 52 53 _ e_Board_init_52
  refine ⟨fun j hj hji => ?_, ?_, ?_⟩
  · have z0 : ¬ j = n := by omega
    have z1 : ¬ j = n + 1 := by omega
    have z2 : ¬ j = n + 2 := by omega
    have z3 : ¬ j = n + 3 := by omega
    have z4 : ¬ j = n + 4 := by omega
    have z5 : ¬ j = n + 5 := by omega
    simp [va_up, hji, z0, z1, z2, z3, z4, z5]
  · simp [isBd, va_up, Nat.add_assoc, hk', hn0, hm0, hm1, hm2, hm3, hm4, hm5]
  · simp [va_up]
theorem isBd_congr {k : Nat → ClassId} {f f' : Nat → Nat × va_E} {i m : Nat} (h : isBd k f i m) (hi : f' i = f i) (hm : ∀ j, j < 6 → f' (m + j) = f (m + j)) : isBd k f' i m := by
  unfold isBd at h ⊢
  rw [hi, hm 0 (by omega), hm 1 (by omega), hm 2 (by omega), hm 3 (by omega), hm 4 (by omega), hm 5 (by omega)]
  exact h
theorem vq_up {α : Type} (f : Nat → α) (k : Nat) (v w : α) : va_up (va_up f k v) k w = va_up f k w := by
  funext j
  by_cases h : j = k <;> simp [va_up, h]
theorem vq_eq {α : Type} {f : Nat → α} {k : Nat} {v : α} : va_up f k v k = v := by simp [va_up]
theorem vq_ne {α : Type} {f : Nat → α} {k j : Nat} {v : α} (h : j ≠ k) : va_up f k v j = f j := by simp [va_up, h]
theorem hfsB : ∀ j, j < 12 → defaultValue (tyX1 j) = vp_V D0B j := by decide
theorem kc_Reader {l : Launch} {D : va_G} {k : Nat → ClassId} {n i a : Nat} {f : Nat → Nat × va_E} (hi : i < n) (hz : f i = (a, .inr (4, [.null, .int 0, .int 0, .int 0, .int 0, .int 0]))) : Kt l D k yX4_init cX4_init 1 1 20 1 130 [.ref a] n f (n + 1) (fun f' => (∀ j, j < n → j ≠ i → f' j = f j) ∧ f' i = (a, .inr (4, [.ref (f' n).1, .int 0, .int 0, .int 0, .int 0, .int 0])) ∧ (f' n).2 = .inl (k 0, 130, .inl (fun _ => 0))) := by
  have hn : ¬ i = n := by omega
  have hm : ¬ n = i := by omega
  refine Kt_of (by decide) rfl (Nat.le_of_ble_eq_true rfl) (fun p e s m args below meth c A Q C hin kend => ?_)
  refine g_aload_n C e_Reader_init_0 rfl ?_
  refine g_obj C gc_1 wobj ⟨by decide, Nat.le_of_ble_eq_true rfl⟩ e_Reader_init_1 ?_
  refine g_aload_n C e_Reader_init_4 rfl ?_
  refine g_sipush C e_Reader_init_5 (v := (130 : Int32)) sp_130 ?_
  refine g_newI C (N := 130) wacI rfl (by decide) (by omega) (by omega) e_Reader_init_8 (fun q => ?_)
  refine g_put C hin fc_4 i (by omega) (fs := [.null, .int 0, .int 0, .int 0, .int 0, .int 0]) (by simp [va_up, hz, hn]) 0 (by decide) rfl rfl rfl rfl (Nat.le_of_ble_eq_true rfl) g_49 e_Reader_init_10 ?_
  refine kend _ ⟨fun j hj hji => ?_, ?_, ?_⟩ 13 14 _ e_Reader_init_13
  · have z0 : ¬ j = n := by omega
    simp [va_up, hji, z0]
  · simp [va_up, hm]
  · simp [va_up, hm, hk']
theorem kc_Asks {l : Launch} {D : va_G} {k : Nat → ClassId} {n i a bd : Nat} {f : Nat → Nat × va_E} (hi : i < n) (hz : f i = (a, .inr (0, [.null, .int 0, .null]))) : Kt l D k yX0_init cX0_init 2 1 20 1 16 [.ref a, .ref bd] n f (n + 1) (fun f' => (∀ j, j < n → j ≠ i → f' j = f j) ∧ f' i = (a, .inr (0, [.ref (f' n).1, .int 0, .ref bd])) ∧ (f' n).2 = .inl (k 0, 16, .inl (fun _ => 0))) := by
  have hn : ¬ i = n := by omega
  have hm : ¬ n = i := by omega
  refine Kt_of (by decide) rfl (Nat.le_of_ble_eq_true rfl) (fun p e s m args below meth c A Q C hin kend => ?_)
  refine g_aload_n C e_Asks_init_0 rfl ?_
  refine g_obj C gc_2 wobj ⟨by decide, Nat.le_of_ble_eq_true rfl⟩ e_Asks_init_1 ?_
  refine g_aload_n C e_Asks_init_4 rfl ?_
  refine g_bipush C e_Asks_init_5 (v := (16 : Int32)) bp_16 ?_
  refine g_newI C (N := 16) wacI rfl (by decide) (by omega) (by omega) e_Asks_init_7 (fun q => ?_)
  refine g_put C hin fc_0 i (by omega) (fs := [.null, .int 0, .null]) (by simp [va_up, hz, hn]) 0 (by decide) rfl rfl rfl rfl (Nat.le_of_ble_eq_true rfl) g_381 e_Asks_init_9 ?_
  refine g_aload_n C e_Asks_init_12 rfl ?_
  refine g_aload_n C e_Asks_init_13 rfl ?_
  refine g_put C hin fc_0 i (by omega) (fs := [.ref q, .int 0, .null]) (by simp [va_up]) 2 (by decide) rfl rfl rfl rfl (Nat.le_of_ble_eq_true rfl) g_382 e_Asks_init_14 ?_
  refine kend _ ⟨fun j hj hji => ?_, ?_, ?_⟩ 17 18 _ e_Asks_init_17
  · have z0 : ¬ j = n := by omega
    simp [va_up, hji, z0]
  · simp [va_up, hm]
  · simp [va_up, hm, hk']
theorem kc_Fore {l : Launch} {D : va_G} {k : Nat → ClassId} {n i a bd : Nat} {f : Nat → Nat × va_E} (hi : i < n) (hz : f i = (a, .inr (2, [.null, .null]))) : Kt l D k yX2_init cX2_init 2 2 40 7 63 [.ref a, .ref bd] n f (n + 7) (fun f' => (∀ j, j < n → j ≠ i → f' j = f j) ∧ f' i = (a, .inr (2, [.ref (f' n).1, .ref bd])) ∧ isBd k f' n (n + 1)) := by
  have hn : ¬ i = n := by omega
  have hm : ¬ n = i := by omega
  refine Kt_of (by decide) rfl (Nat.le_of_ble_eq_true rfl) (fun p e s m args below meth c A Q C hin kend => ?_)
  refine g_aload_n C e_Fore_init_0 rfl ?_
  refine g_obj C gc_4 wobj ⟨by decide, Nat.le_of_ble_eq_true rfl⟩ e_Fore_init_1 ?_
  refine g_aload_n C e_Fore_init_4 rfl ?_
  refine g_new C fc_1 gc_5 wn_1 (fs := D0B) hfsB (by omega) (by omega) e_Fore_init_5 (fun q => ?_)
  refine g_dup C e_Fore_init_8 rfl ?_
  refine g_call (As := []) C (kc_Board (i := n) (by omega) vq_eq) rfl wk_Board_init (Or.inr ⟨RX6, gc_3⟩) ⟨by decide, by decide⟩ rfl (Nat.le_of_ble_eq_true rfl) (by omega) (by omega) e_Fore_init_9 (fun f1 hp => ?_)
  obtain ⟨hp1, hp2, hp3⟩ := hp
  have hz1 : f1 i = (a, .inr (2, [.null, .null])) := by rw [hp1 i (by omega) hn, vq_ne hn, hz]
  refine g_put C hin fc_2 i (by omega) (fs := [.null, .null]) hz1 0 (by decide) rfl rfl rfl rfl (Nat.le_of_ble_eq_true rfl) g_251 e_Fore_init_12 ?_
  refine g_aload_n C e_Fore_init_15 rfl ?_
  refine g_aload_n C e_Fore_init_16 rfl ?_
  refine g_put C hin fc_2 i (by omega) (fs := [.ref q, .null]) vq_eq 1 (by decide) rfl rfl rfl rfl (Nat.le_of_ble_eq_true rfl) g_252 e_Fore_init_17 ?_
  refine kend _ ⟨fun j hj hji => ?_, ?_, ?_⟩ 20 21 _ e_Fore_init_20
  · rw [vq_ne hji, vq_ne hji, hp1 j (by omega) (by omega), vq_ne (by omega)]
  · rw [vq_eq, vq_ne hm, vq_ne hm, hp3]
    rfl
  · exact isBd_congr hp2 (by rw [vq_ne hm, vq_ne hm]) (fun j hj => by rw [vq_ne (by omega), vq_ne (by omega)])
def isPs (k : Nat → ClassId) (n i a : Nat) (f : Nat → Nat × va_E) (j : Nat) (f' : Nat → Nat × va_E) : Prop := (∀ u, u < n → u ≠ i → f' u = f u) ∧ f' i = (a, .inr (3, [.int 0, .int 0, .ref (f' n).1])) ∧ (∃ g : Nat → Option Nat, (f' n).2 = .inl (k 2, 24, .inr (.inr (.inr (.inr g)))) ∧ (∀ u, u < j → g u = some (f' (n + 1 + 7 * u)).1) ∧ ∀ u, j ≤ u → g u = none) ∧ ∀ u, u < j → isBd k f' (n + 1 + 7 * u) (n + 2 + 7 * u)
set_option maxHeartbeats 4000000 in
theorem kc_Past {l : Launch} {D : va_G} {k : Nat → ClassId} {n i a : Nat} {f : Nat → Nat × va_E} (hi : i < n) (hz : f i = (a, .inr (3, [.int 0, .int 0, .null]))) : Kt l D k yX3_init cX3_init 2 2 40 169 1536 [.ref a] n f (n + 169) (isPs k n i a f 24) := by
  have hn : ¬ i = n := by omega
  have hm : ¬ n = i := by omega
  refine Kt_of (by decide) rfl (Nat.le_of_ble_eq_true rfl) (fun p e s m args below meth c A Q C hin kend => ?_)
  have loop : ∀ (t j : Nat), j + t = 24 → ∀ f' : Nat → Nat × va_E, isPs k n i a f j f' → Gs (p, l, e, { frames := 2, cells := 169, slots := 1536, locals := 40 }, s, m, args, below, meth, c, D, k, A, Q) 2 (n + 1 + 7 * j) f' (1 + 7 * j) (24 + 63 * j) [(0, .ref a), (1, .int (nI j))] 15 [] := by
    intro t
    induction t with
    | zero =>
      intro j hj f' hf
      have hj : j = 24 := by omega
      subst hj
      refine g_iload_n C e_Past_init_15 rfl ?_
      refine g_bipush C e_Past_init_16 (v := (24 : Int32)) bp_24 ?_
      refine g_ge (tgt := 40) C e_Past_init_18 rfl (fun _ => ?_) (fun h => absurd (by decide) h)
      exact kend _ hf 40 41 _ e_Past_init_40
    | succ t ih =>
      intro j hj f' hf
      obtain ⟨hf1, hf2, ⟨g, hg1, hg2, hg3⟩, hf4⟩ := hf
      refine g_iload_n C e_Past_init_15 rfl ?_
      refine g_bipush C e_Past_init_16 (v := (24 : Int32)) bp_24 ?_
      refine g_ge (tgt := 40) C e_Past_init_18 rfl (fun h => absurd h (nI_ge (a := j) (b := 24) (by omega) (by omega))) (fun _ => ?_)
      refine g_aload_n C e_Past_init_21 rfl ?_
      refine g_get C fc_3 i (by omega) hf2 2 (by decide) rfl g_165 e_Past_init_22 ?_
      refine g_iload_n C e_Past_init_25 rfl ?_
      refine g_new C fc_1 gc_7 wn_1 (fs := D0B) hfsB (by omega) (by omega) e_Past_init_26 (fun q => ?_)
      refine g_dup C e_Past_init_29 rfl ?_
      refine g_call (As := []) C (kc_Board (i := n + 1 + 7 * j) (by omega) vq_eq) rfl wk_Board_init (Or.inr ⟨RX6, gc_6⟩) ⟨by decide, by decide⟩ rfl (Nat.le_of_ble_eq_true rfl) (by omega) (by omega) e_Past_init_30 (fun f1 hp => ?_)
      obtain ⟨hp1, hp2, hp3⟩ := hp
      have hp3 : (f1 (n + 1 + 7 * j)).1 = q := hp3
      have k1 : ∀ u, u < n + 1 + 7 * j → f1 u = f' u := fun u hu => by rw [hp1 u (by omega) (by omega), vq_ne (by omega)]
      have hzn : f1 n = ((f' n).1, .inl (k 2, 24, .inr (.inr (.inr (.inr g))))) := by rw [k1 n (by omega), ← hg1]
      have hzb : f1 (n + 1 + 7 * j) = (q, .inr (1, [.int 0, .int 0, .int 0, .int 0, .int 0, .int 0, .ref (f1 (n + 1 + 7 * j + 1 + 0)).1, .ref (f1 (n + 1 + 7 * j + 1 + 1)).1, .ref (f1 (n + 1 + 7 * j + 1 + 2)).1, .ref (f1 (n + 1 + 7 * j + 1 + 3)).1, .ref (f1 (n + 1 + 7 * j + 1 + 4)).1, .ref (f1 (n + 1 + 7 * j + 1 + 5)).1])) := by
        rw [← hp2.1, ← hp3]
      refine g_aast C n (by omega) hzn (n + 1 + 7 * j) (by omega) hzb (j := j) rfl (by omega) (by decide) e_Past_init_33 ?_
      refine g_iinc C e_Past_init_34 (v := nI (j + 1)) rfl (by decide) (nI_add j 1) ?_
      refine g_goto (tgt := 15) C e_Past_init_37 rfl ?_
      have e1 : n + 1 + 7 * j + 1 + 6 = n + 1 + 7 * (j + 1) := by omega
      rw [e1]
      refine g_cut (g_widen (c2 := 1 + 7 * (j + 1)) (s2 := 24 + 63 * (j + 1)) (by omega) (by omega) (ih (j + 1) (by omega) _ ⟨?_, ?_, ⟨va_up g j (some q), ?_, ?_, ?_⟩, ?_⟩)) ⟨rfl, rfl, trivial⟩
      · intro u hu hui
        rw [vq_ne (by omega), k1 u (by omega), hf1 u hu hui]
      · rw [vq_ne hn, k1 i (by omega), hf2, vq_eq]
      · rw [vq_eq]
        rfl
      · intro u hu
        by_cases hj' : u = j
        · subst hj'
          rw [vq_eq, vq_ne (by omega), hp3]
        · rw [vq_ne hj', hg2 u (by omega), vq_ne (by omega), k1 _ (by omega)]
      · intro u hu
        rw [vq_ne (by omega), hg3 u (by omega)]
      · intro u hu
        by_cases hj' : u = j
        · subst hj'
          exact isBd_congr (m := n + 2 + 7 * u) (by rw [show n + 2 + 7 * u = n + 1 + 7 * u + 1 by omega]; exact hp2) (by rw [vq_ne (by omega)]) (fun v hv => by rw [vq_ne (by omega)])
        · exact isBd_congr (hf4 u (by omega)) (by rw [vq_ne (by omega), k1 _ (by omega)]) (fun v hv => by rw [vq_ne (by omega), k1 _ (by omega)])
  refine g_aload_n C e_Past_init_0 rfl ?_
  refine g_obj C gc_8 wobj ⟨by decide, Nat.le_of_ble_eq_true rfl⟩ e_Past_init_1 ?_
  refine g_aload_n C e_Past_init_4 rfl ?_
  refine g_bipush C e_Past_init_5 (v := (24 : Int32)) bp_24 ?_
  refine g_newQ C (N := 24) gc_7 rfl (by decide) (by omega) (by omega) e_Past_init_7 (fun q => ?_)
  refine g_put C hin fc_3 i (by omega) (fs := [.int 0, .int 0, .null]) (by rw [vq_ne hn, hz]) 2 (by decide) rfl rfl rfl rfl (Nat.le_of_ble_eq_true rfl) g_165 e_Past_init_10 ?_
  refine g_iconst C e_Past_init_13 (v := (0 : Int32)) ic_0 ?_
  refine g_istore_n C e_Past_init_14 (by decide) ?_
  refine g_cut (loop 24 0 rfl _ ⟨fun u hu hui => ?_, ?_, ⟨fun _ => none, ?_, fun u hu => absurd hu (by omega), fun u hu => rfl⟩, fun u hu => absurd hu (by omega)⟩) ⟨rfl, rfl, trivial⟩
  · rw [vq_ne hui, vq_ne (by omega)]
  · rw [vq_eq, vq_ne hm, vq_eq]
    rfl
  · rw [vq_ne hm, vq_eq]
    rfl
theorem vq_self {α : Type} {f : Nat → α} {k : Nat} {v : α} (h : f k = v) : va_up f k v = f := by
  funext j
  by_cases e : j = k
  · subst e
    rw [vq_eq, h]
  · rw [vq_ne e]
theorem lane_upd (v : Int32) (j : Nat) : upd (fun u => if u < j then v else 0) j v = fun u => if u < j + 1 then v else 0 := by
  funext u
  unfold upd
  by_cases h : u = j
  · subst h
    simp
  · rw [if_neg h]
    show (if u < j then v else 0) = _
    by_cases h2 : u < j
    · rw [if_pos h2, if_pos (by omega)]
    · rw [if_neg h2, if_neg (by omega)]
set_option maxHeartbeats 4000000 in
set_option maxRecDepth 100000 in
theorem kc_Model {l : Launch} {D : va_G} {k : Nat → ClassId} {n i a : Nat} {f : Nat → Nat × va_E} (hi : i < n) (hz : f i = (a, .inr (7, [.null, .null, .null, .null, .int 0, .null, .int 0, .int 0, .int 0, .int 0, .int 0, .int 0, .int 0, .null, .null, .null, .null, .int 0, .null, .null, .null, .null, .null, .null, .int 0]))) : Kt l D k yX7_init cX7_init 2 1 20 15 2410 [.ref a] n f (n + 15) (fun f' => (∀ j, j < n → j ≠ i → f' j = f j) ∧ f' i = (a, .inr (7, [.ref (f' (n + 0)).1, .ref (f' (n + 1)).1, .ref (f' (n + 2)).1, .ref (f' (n + 3)).1, .int 0, .ref (f' (n + 4)).1, .int 0, .int 0, .int 0, .int 0, .int 0, .int 0, .int 0, .ref (f' (n + 5)).1, .ref (f' (n + 6)).1, .ref (f' (n + 7)).1, .ref (f' (n + 8)).1, .int 0, .ref (f' (n + 9)).1, .ref (f' (n + 10)).1, .ref (f' (n + 11)).1, .ref (f' (n + 12)).1, .ref (f' (n + 13)).1, .ref (f' (n + 14)).1, .int 0])) ∧ (f' (n + 0)).2 = .inl (k 0, 8, .inl (fun u => if u < 8 then -1000000 else 0)) ∧ (f' (n + 1)).2 = .inl (k 0, 8, .inl (fun _ => 0)) ∧ (f' (n + 2)).2 = .inl (k 0, 320, .inl (fun _ => 0)) ∧ (f' (n + 3)).2 = .inl (k 0, 40, .inl (fun _ => 0)) ∧ (f' (n + 4)).2 = .inl (k 0, 130, .inl (fun _ => 0)) ∧ (f' (n + 5)).2 = .inl (k 0, 64, .inl (fun _ => 0)) ∧ (f' (n + 6)).2 = .inl (k 0, 64, .inl (fun _ => 0)) ∧ (f' (n + 7)).2 = .inl (k 0, 64, .inl (fun _ => 0)) ∧ (f' (n + 8)).2 = .inl (k 0, 1536, .inl (fun _ => 0)) ∧ (f' (n + 9)).2 = .inl (k 0, 128, .inl (fun _ => 0)) ∧ (f' (n + 10)).2 = .inl (k 1, 2, .inl (fun _ => 0)) ∧ (f' (n + 11)).2 = .inl (k 0, 7, .inl (fun _ => 0)) ∧ (f' (n + 12)).2 = .inl (k 0, 16, .inl (fun _ => 0)) ∧ (f' (n + 13)).2 = .inl (k 0, 7, .inl (fun _ => 0)) ∧ (f' (n + 14)).2 = .inl (k 0, 16, .inl (fun _ => 0))) := by
  refine Kt_of (by decide) rfl (Nat.le_of_ble_eq_true rfl) (fun p e s m args below meth c A Q C hin kend => ?_)
  refine g_aload_n C e_M_init_0 rfl ?_
  refine g_obj C gc_9 wobj ⟨by decide, Nat.le_of_ble_eq_true rfl⟩ e_M_init_1 ?_
  refine g_aload_n C e_M_init_4 rfl ?_
  refine g_bipush C e_M_init_5 (v := (8 : Int32)) bp_8 ?_
  refine g_newI C (N := 8) wacI rfl (by decide) (by omega) (by omega) e_M_init_7 (fun q0 => ?_)
  refine g_put C hin fc_7 i (by omega) (fs := [.null, .null, .null, .null, .int 0, .null, .int 0, .int 0, .int 0, .int 0, .int 0, .int 0, .int 0, .null, .null, .null, .null, .int 0, .null, .null, .null, .null, .null, .null, .int 0]) (by rw [vq_ne (by omega), hz]) 0 (by decide) rfl rfl rfl rfl (Nat.le_of_ble_eq_true rfl) g_451 e_M_init_9 ?_
  refine g_aload_n C e_M_init_12 rfl ?_
  refine g_bipush C e_M_init_13 (v := (8 : Int32)) bp_8 ?_
  refine g_newI C (N := 8) wacI rfl (by decide) (by omega) (by omega) e_M_init_15 (fun q1 => ?_)
  refine g_put C hin fc_7 i (by omega) (fs := [.ref q0, .null, .null, .null, .int 0, .null, .int 0, .int 0, .int 0, .int 0, .int 0, .int 0, .int 0, .null, .null, .null, .null, .int 0, .null, .null, .null, .null, .null, .null, .int 0]) (by rw [vq_ne (by omega), vq_eq]; rfl) 1 (by decide) rfl rfl rfl rfl (Nat.le_of_ble_eq_true rfl) g_454 e_M_init_17 ?_
  refine g_aload_n C e_M_init_20 rfl ?_
  refine g_sipush C e_M_init_21 (v := (320 : Int32)) sp_320 ?_
  refine g_newI C (N := 320) wacI rfl (by decide) (by omega) (by omega) e_M_init_24 (fun q2 => ?_)
  refine g_put C hin fc_7 i (by omega) (fs := [.ref q0, .ref q1, .null, .null, .int 0, .null, .int 0, .int 0, .int 0, .int 0, .int 0, .int 0, .int 0, .null, .null, .null, .null, .int 0, .null, .null, .null, .null, .null, .null, .int 0]) (by rw [vq_ne (by omega), vq_eq]; rfl) 2 (by decide) rfl rfl rfl rfl (Nat.le_of_ble_eq_true rfl) g_462 e_M_init_26 ?_
  refine g_aload_n C e_M_init_29 rfl ?_
  refine g_bipush C e_M_init_30 (v := (40 : Int32)) bp_40 ?_
  refine g_newI C (N := 40) wacI rfl (by decide) (by omega) (by omega) e_M_init_32 (fun q3 => ?_)
  refine g_put C hin fc_7 i (by omega) (fs := [.ref q0, .ref q1, .ref q2, .null, .int 0, .null, .int 0, .int 0, .int 0, .int 0, .int 0, .int 0, .int 0, .null, .null, .null, .null, .int 0, .null, .null, .null, .null, .null, .null, .int 0]) (by rw [vq_ne (by omega), vq_eq]; rfl) 3 (by decide) rfl rfl rfl rfl (Nat.le_of_ble_eq_true rfl) g_478 e_M_init_34 ?_
  refine g_aload_n C e_M_init_37 rfl ?_
  refine g_sipush C e_M_init_38 (v := (130 : Int32)) sp_130 ?_
  refine g_newI C (N := 130) wacI rfl (by decide) (by omega) (by omega) e_M_init_41 (fun q4 => ?_)
  refine g_put C hin fc_7 i (by omega) (fs := [.ref q0, .ref q1, .ref q2, .ref q3, .int 0, .null, .int 0, .int 0, .int 0, .int 0, .int 0, .int 0, .int 0, .null, .null, .null, .null, .int 0, .null, .null, .null, .null, .null, .null, .int 0]) (by rw [vq_ne (by omega), vq_eq]; rfl) 5 (by decide) rfl rfl rfl rfl (Nat.le_of_ble_eq_true rfl) g_480 e_M_init_43 ?_
  refine g_aload_n C e_M_init_46 rfl ?_
  refine g_bipush C e_M_init_47 (v := (64 : Int32)) bp_64 ?_
  refine g_newI C (N := 64) wacI rfl (by decide) (by omega) (by omega) e_M_init_49 (fun q5 => ?_)
  refine g_put C hin fc_7 i (by omega) (fs := [.ref q0, .ref q1, .ref q2, .ref q3, .int 0, .ref q4, .int 0, .int 0, .int 0, .int 0, .int 0, .int 0, .int 0, .null, .null, .null, .null, .int 0, .null, .null, .null, .null, .null, .null, .int 0]) (by rw [vq_ne (by omega), vq_eq]; rfl) 13 (by decide) rfl rfl rfl rfl (Nat.le_of_ble_eq_true rfl) g_535 e_M_init_51 ?_
  refine g_aload_n C e_M_init_54 rfl ?_
  refine g_bipush C e_M_init_55 (v := (64 : Int32)) bp_64 ?_
  refine g_newI C (N := 64) wacI rfl (by decide) (by omega) (by omega) e_M_init_57 (fun q6 => ?_)
  refine g_put C hin fc_7 i (by omega) (fs := [.ref q0, .ref q1, .ref q2, .ref q3, .int 0, .ref q4, .int 0, .int 0, .int 0, .int 0, .int 0, .int 0, .int 0, .ref q5, .null, .null, .null, .int 0, .null, .null, .null, .null, .null, .null, .int 0]) (by rw [vq_ne (by omega), vq_eq]; rfl) 14 (by decide) rfl rfl rfl rfl (Nat.le_of_ble_eq_true rfl) g_508 e_M_init_59 ?_
  refine g_aload_n C e_M_init_62 rfl ?_
  refine g_bipush C e_M_init_63 (v := (64 : Int32)) bp_64 ?_
  refine g_newI C (N := 64) wacI rfl (by decide) (by omega) (by omega) e_M_init_65 (fun q7 => ?_)
  refine g_put C hin fc_7 i (by omega) (fs := [.ref q0, .ref q1, .ref q2, .ref q3, .int 0, .ref q4, .int 0, .int 0, .int 0, .int 0, .int 0, .int 0, .int 0, .ref q5, .ref q6, .null, .null, .int 0, .null, .null, .null, .null, .null, .null, .int 0]) (by rw [vq_ne (by omega), vq_eq]; rfl) 15 (by decide) rfl rfl rfl rfl (Nat.le_of_ble_eq_true rfl) g_587 e_M_init_67 ?_
  refine g_aload_n C e_M_init_70 rfl ?_
  refine g_sipush C e_M_init_71 (v := (1536 : Int32)) sp_1536 ?_
  refine g_newI C (N := 1536) wacI rfl (by decide) (by omega) (by omega) e_M_init_74 (fun q8 => ?_)
  refine g_put C hin fc_7 i (by omega) (fs := [.ref q0, .ref q1, .ref q2, .ref q3, .int 0, .ref q4, .int 0, .int 0, .int 0, .int 0, .int 0, .int 0, .int 0, .ref q5, .ref q6, .ref q7, .null, .int 0, .null, .null, .null, .null, .null, .null, .int 0]) (by rw [vq_ne (by omega), vq_eq]; rfl) 16 (by decide) rfl rfl rfl rfl (Nat.le_of_ble_eq_true rfl) g_563 e_M_init_76 ?_
  refine g_aload_n C e_M_init_79 rfl ?_
  refine g_sipush C e_M_init_80 (v := (128 : Int32)) sp_128 ?_
  refine g_newI C (N := 128) wacI rfl (by decide) (by omega) (by omega) e_M_init_83 (fun q9 => ?_)
  refine g_put C hin fc_7 i (by omega) (fs := [.ref q0, .ref q1, .ref q2, .ref q3, .int 0, .ref q4, .int 0, .int 0, .int 0, .int 0, .int 0, .int 0, .int 0, .ref q5, .ref q6, .ref q7, .ref q8, .int 0, .null, .null, .null, .null, .null, .null, .int 0]) (by rw [vq_ne (by omega), vq_eq]; rfl) 18 (by decide) rfl rfl rfl rfl (Nat.le_of_ble_eq_true rfl) g_627 e_M_init_85 ?_
  refine g_aload_n C e_M_init_88 rfl ?_
  refine g_iconst C e_M_init_89 (v := (2 : Int32)) ic_2 ?_
  refine g_newZ C (N := 2) wacZ rfl (by decide) (by omega) (by omega) e_M_init_90 (fun q10 => ?_)
  refine g_put C hin fc_7 i (by omega) (fs := [.ref q0, .ref q1, .ref q2, .ref q3, .int 0, .ref q4, .int 0, .int 0, .int 0, .int 0, .int 0, .int 0, .int 0, .ref q5, .ref q6, .ref q7, .ref q8, .int 0, .ref q9, .null, .null, .null, .null, .null, .int 0]) (by rw [vq_ne (by omega), vq_eq]; rfl) 19 (by decide) rfl rfl rfl rfl (Nat.le_of_ble_eq_true rfl) g_628 e_M_init_92 ?_
  refine g_aload_n C e_M_init_95 rfl ?_
  refine g_bipush C e_M_init_96 (v := (7 : Int32)) bp_7 ?_
  refine g_newI C (N := 7) wacI rfl (by decide) (by omega) (by omega) e_M_init_98 (fun q11 => ?_)
  refine g_put C hin fc_7 i (by omega) (fs := [.ref q0, .ref q1, .ref q2, .ref q3, .int 0, .ref q4, .int 0, .int 0, .int 0, .int 0, .int 0, .int 0, .int 0, .ref q5, .ref q6, .ref q7, .ref q8, .int 0, .ref q9, .ref q10, .null, .null, .null, .null, .int 0]) (by rw [vq_ne (by omega), vq_eq]; rfl) 20 (by decide) rfl rfl rfl rfl (Nat.le_of_ble_eq_true rfl) g_599 e_M_init_100 ?_
  refine g_aload_n C e_M_init_103 rfl ?_
  refine g_bipush C e_M_init_104 (v := (16 : Int32)) bp_16 ?_
  refine g_newI C (N := 16) wacI rfl (by decide) (by omega) (by omega) e_M_init_106 (fun q12 => ?_)
  refine g_put C hin fc_7 i (by omega) (fs := [.ref q0, .ref q1, .ref q2, .ref q3, .int 0, .ref q4, .int 0, .int 0, .int 0, .int 0, .int 0, .int 0, .int 0, .ref q5, .ref q6, .ref q7, .ref q8, .int 0, .ref q9, .ref q10, .ref q11, .null, .null, .null, .int 0]) (by rw [vq_ne (by omega), vq_eq]; rfl) 21 (by decide) rfl rfl rfl rfl (Nat.le_of_ble_eq_true rfl) g_603 e_M_init_108 ?_
  refine g_aload_n C e_M_init_111 rfl ?_
  refine g_bipush C e_M_init_112 (v := (7 : Int32)) bp_7 ?_
  refine g_newI C (N := 7) wacI rfl (by decide) (by omega) (by omega) e_M_init_114 (fun q13 => ?_)
  refine g_put C hin fc_7 i (by omega) (fs := [.ref q0, .ref q1, .ref q2, .ref q3, .int 0, .ref q4, .int 0, .int 0, .int 0, .int 0, .int 0, .int 0, .int 0, .ref q5, .ref q6, .ref q7, .ref q8, .int 0, .ref q9, .ref q10, .ref q11, .ref q12, .null, .null, .int 0]) (by rw [vq_ne (by omega), vq_eq]; rfl) 22 (by decide) rfl rfl rfl rfl (Nat.le_of_ble_eq_true rfl) g_608 e_M_init_116 ?_
  refine g_aload_n C e_M_init_119 rfl ?_
  refine g_bipush C e_M_init_120 (v := (16 : Int32)) bp_16 ?_
  refine g_newI C (N := 16) wacI rfl (by decide) (by omega) (by omega) e_M_init_122 (fun q14 => ?_)
  refine g_put C hin fc_7 i (by omega) (fs := [.ref q0, .ref q1, .ref q2, .ref q3, .int 0, .ref q4, .int 0, .int 0, .int 0, .int 0, .int 0, .int 0, .int 0, .ref q5, .ref q6, .ref q7, .ref q8, .int 0, .ref q9, .ref q10, .ref q11, .ref q12, .ref q13, .null, .int 0]) (by rw [vq_ne (by omega), vq_eq]; rfl) 23 (by decide) rfl rfl rfl rfl (Nat.le_of_ble_eq_true rfl) g_634 e_M_init_124 ?_
  have main : ∀ F : Nat → Nat × va_E, F i = (a, .inr (7, [.ref q0, .ref q1, .ref q2, .ref q3, .int 0, .ref q4, .int 0, .int 0, .int 0, .int 0, .int 0, .int 0, .int 0, .ref q5, .ref q6, .ref q7, .ref q8, .int 0, .ref q9, .ref q10, .ref q11, .ref q12, .ref q13, .ref q14, .int 0])) → F n = (q0, .inl (k 0, 8, .inl (fun _ => 0))) → (∀ j, j < n → j ≠ i → F j = f j) → F (n + 1) = (q1, .inl (k 0, 8, .inl (fun _ => 0))) → F (n + 2) = (q2, .inl (k 0, 320, .inl (fun _ => 0))) → F (n + 3) = (q3, .inl (k 0, 40, .inl (fun _ => 0))) → F (n + 4) = (q4, .inl (k 0, 130, .inl (fun _ => 0))) → F (n + 5) = (q5, .inl (k 0, 64, .inl (fun _ => 0))) → F (n + 6) = (q6, .inl (k 0, 64, .inl (fun _ => 0))) → F (n + 7) = (q7, .inl (k 0, 64, .inl (fun _ => 0))) → F (n + 8) = (q8, .inl (k 0, 1536, .inl (fun _ => 0))) → F (n + 9) = (q9, .inl (k 0, 128, .inl (fun _ => 0))) → F (n + 10) = (q10, .inl (k 1, 2, .inl (fun _ => 0))) → F (n + 11) = (q11, .inl (k 0, 7, .inl (fun _ => 0))) → F (n + 12) = (q12, .inl (k 0, 16, .inl (fun _ => 0))) → F (n + 13) = (q13, .inl (k 0, 7, .inl (fun _ => 0))) → F (n + 14) = (q14, .inl (k 0, 16, .inl (fun _ => 0))) → Gs (p, l, e, { frames := 1, cells := 15, slots := 2410, locals := 20 }, s, m, args, below, meth, c, D, k, A, Q) 2 (n + 15) F 15 2410 [(0, .ref a)] 127 [] := by
    intro F hF hF0 hFk hF1 hF2 hF3 hF4 hF5 hF6 hF7 hF8 hF9 hF10 hF11 hF12 hF13 hF14
    have loop : ∀ (t j : Nat), j + t = 8 → Gs (p, l, e, { frames := 1, cells := 15, slots := 2410, locals := 20 }, s, m, args, below, meth, c, D, k, A, Q) 2 (n + 15) (va_up F n (q0, .inl (k 0, 8, .inl (fun u => if u < j then -1000000 else 0)))) 15 2410 [(0, .ref a), (1, .int (nI j))] 129 [] := by
      intro t
      induction t with
      | zero =>
        intro j hj
        have hj : j = 8 := by omega
        subst hj
        refine g_iload_n C e_M_init_129 rfl ?_
        refine g_bipush C e_M_init_130 (v := (8 : Int32)) bp_8 ?_
        refine g_ge (tgt := 149) C e_M_init_132 rfl (fun _ => ?_) (fun h => absurd (by decide) h)
        refine kend _ ⟨fun j hj hji => ?_, ?_, ?_, ?_, ?_, ?_, ?_, ?_, ?_, ?_, ?_, ?_, ?_, ?_, ?_, ?_, ?_⟩ 149 150 _ e_M_init_149
        · rw [vq_ne (by omega), hFk j hj hji]
        · rw [vq_ne (by omega), hF, Nat.add_zero, vq_eq, vq_ne (show n + 1 ≠ n by omega), hF1, vq_ne (show n + 2 ≠ n by omega), hF2, vq_ne (show n + 3 ≠ n by omega), hF3, vq_ne (show n + 4 ≠ n by omega), hF4, vq_ne (show n + 5 ≠ n by omega), hF5, vq_ne (show n + 6 ≠ n by omega), hF6, vq_ne (show n + 7 ≠ n by omega), hF7, vq_ne (show n + 8 ≠ n by omega), hF8, vq_ne (show n + 9 ≠ n by omega), hF9, vq_ne (show n + 10 ≠ n by omega), hF10, vq_ne (show n + 11 ≠ n by omega), hF11, vq_ne (show n + 12 ≠ n by omega), hF12, vq_ne (show n + 13 ≠ n by omega), hF13, vq_ne (show n + 14 ≠ n by omega), hF14]
        · rw [Nat.add_zero, vq_eq]
        · rw [vq_ne (by omega), hF1]
        · rw [vq_ne (by omega), hF2]
        · rw [vq_ne (by omega), hF3]
        · rw [vq_ne (by omega), hF4]
        · rw [vq_ne (by omega), hF5]
        · rw [vq_ne (by omega), hF6]
        · rw [vq_ne (by omega), hF7]
        · rw [vq_ne (by omega), hF8]
        · rw [vq_ne (by omega), hF9]
        · rw [vq_ne (by omega), hF10]
        · rw [vq_ne (by omega), hF11]
        · rw [vq_ne (by omega), hF12]
        · rw [vq_ne (by omega), hF13]
        · rw [vq_ne (by omega), hF14]
      | succ t ih =>
        intro j hj
        refine g_iload_n C e_M_init_129 rfl ?_
        refine g_bipush C e_M_init_130 (v := (8 : Int32)) bp_8 ?_
        refine g_ge (tgt := 149) C e_M_init_132 rfl (fun h => absurd h (nI_ge (a := j) (b := 8) (by omega) (by omega))) (fun _ => ?_)
        refine g_aload_n C e_M_init_135 rfl ?_
        refine g_get C fc_7 i (by omega) (fs := [.ref q0, .ref q1, .ref q2, .ref q3, .int 0, .ref q4, .int 0, .int 0, .int 0, .int 0, .int 0, .int 0, .int 0, .ref q5, .ref q6, .ref q7, .ref q8, .int 0, .ref q9, .ref q10, .ref q11, .ref q12, .ref q13, .ref q14, .int 0]) (by rw [vq_ne (by omega), hF]) 0 (by decide) rfl g_451 e_M_init_136 ?_
        refine g_iload_n C e_M_init_139 rfl ?_
        refine g_ldc C e_M_init_140 g_452 ?_
        refine g_iast C n (by omega) vq_eq (j := j) rfl (by omega) (by decide) e_M_init_142 ?_
        refine g_iinc C e_M_init_143 (v := nI (j + 1)) rfl (by decide) (nI_add j 1) ?_
        refine g_goto (tgt := 129) C e_M_init_146 rfl ?_
        rw [vq_up, lane_upd]
        exact g_cut (ih (j + 1) (by omega)) ⟨rfl, rfl, trivial⟩
    refine g_iconst C e_M_init_127 (v := (0 : Int32)) ic_0 ?_
    refine g_istore_n C e_M_init_128 (by decide) ?_
    have h0 := loop 8 0 rfl
    rw [vq_self (by rw [hF0]; rfl)] at h0
    exact g_cut h0 ⟨rfl, rfl, trivial⟩
  have hni : ∀ u : Nat, ¬ n + u = i := fun u => by omega
  have hn0 : ¬ n = i := by omega
  refine main _ ?_ ?_ ?_ ?_ ?_ ?_ ?_ ?_ ?_ ?_ ?_ ?_ ?_ ?_ ?_ ?_ ?_
  · rw [vq_eq]
    rfl
  · simp [va_up, Nat.add_assoc, hn0, hk']
  · intro j hj hji
    have z : ∀ u : Nat, ¬ j = n + u := fun u => by omega
    have z0 : ¬ j = n := by omega
    simp [va_up, Nat.add_assoc, hji, z, z0]
  · simp [va_up, Nat.add_assoc, hni, hk']
  · simp [va_up, Nat.add_assoc, hni, hk']
  · simp [va_up, Nat.add_assoc, hni, hk']
  · simp [va_up, Nat.add_assoc, hni, hk']
  · simp [va_up, Nat.add_assoc, hni, hk']
  · simp [va_up, Nat.add_assoc, hni, hk']
  · simp [va_up, Nat.add_assoc, hni, hk']
  · simp [va_up, Nat.add_assoc, hni, hk']
  · simp [va_up, Nat.add_assoc, hni, hk']
  · simp [va_up, Nat.add_assoc, hni, hk']
  · simp [va_up, Nat.add_assoc, hni, hk']
  · simp [va_up, Nat.add_assoc, hni, hk']
  · simp [va_up, Nat.add_assoc, hni, hk']
  · simp [va_up, Nat.add_assoc, hni, hk']
set_option maxHeartbeats 4000000 in
set_option maxRecDepth 100000 in
theorem kc_Rows {l : Launch} {D : va_G} {k : Nat → ClassId} {n i a : Nat} {f : Nat → Nat × va_E} (hi : i < n) (hz : f i = (a, .inr (5, [.null, .null, .null]))) : Kt l D k yX5_init cX5_init 2 1 20 11 344 [.ref a] n f (n + 11) (fun f' => (∀ j, j < n → j ≠ i → f' j = f j) ∧ f' i = (a, .inr (5, [.ref (f' n).1, .ref (f' (n + 1)).1, .ref (f' (n + 2)).1])) ∧ (f' n).2 = .inl (k 0, 8, .inl (fun u => if u < 8 then -1 else 0)) ∧ (f' (n + 1)).2 = .inl (k 0, 8, .inl (fun _ => 0)) ∧ (f' (n + 2)).2 = .inl (k 3, 8, .inr (.inr (.inr (.inr (fun u => if u < 8 then some (f' (n + 3 + u)).1 else none))))) ∧ ∀ u, u < 8 → (f' (n + 3 + u)).2 = .inl (k 0, 40, .inl (fun _ => 0))) := by
  refine Kt_of (by decide) rfl (Nat.le_of_ble_eq_true rfl) (fun p e s m args below meth c A Q C hin kend => ?_)
  refine g_aload_n C e_Rows_init_0 rfl ?_
  refine g_obj C gc_10 wobj ⟨by decide, Nat.le_of_ble_eq_true rfl⟩ e_Rows_init_1 ?_
  refine g_aload_n C e_Rows_init_4 rfl ?_
  refine g_bipush C e_Rows_init_5 (v := (8 : Int32)) bp_8 ?_
  refine g_newI C (N := 8) wacI rfl (by decide) (by omega) (by omega) e_Rows_init_7 (fun q0 => ?_)
  refine g_put C hin fc_5 i (by omega) (fs := [.null, .null, .null]) (by rw [vq_ne (by omega), hz]) 0 (by decide) rfl rfl rfl rfl (Nat.le_of_ble_eq_true rfl) g_6 e_Rows_init_9 ?_
  refine g_aload_n C e_Rows_init_12 rfl ?_
  refine g_bipush C e_Rows_init_13 (v := (8 : Int32)) bp_8 ?_
  refine g_newI C (N := 8) wacI rfl (by decide) (by omega) (by omega) e_Rows_init_15 (fun q1 => ?_)
  refine g_put C hin fc_5 i (by omega) (fs := [.ref q0, .null, .null]) (by rw [vq_ne (by omega), vq_eq]; rfl) 1 (by decide) rfl rfl rfl rfl (Nat.le_of_ble_eq_true rfl) g_7 e_Rows_init_17 ?_
  refine g_aload_n C e_Rows_init_20 rfl ?_
  refine g_bipush C e_Rows_init_21 (v := (8 : Int32)) bp_8 ?_
  refine g_bipush C e_Rows_init_23 (v := (40 : Int32)) bp_40 ?_
  refine g_mna C gc_11 wacI (by omega) (by omega) e_Rows_init_25 (fun q2 r => ?_)
  have hzi : gm (n + 1 + 1) (va_up (va_up (va_up (va_up f n (q0, .inl (k 0, 8, .inl (fun _ => 0)))) i (a, .inr (5, [.ref q0, .null, .null]))) (n + 1) (q1, .inl (k 0, 8, .inl (fun _ => 0)))) i (a, .inr (5, [.ref q0, .ref q1, .null]))) (k 3) (k 0) q2 r i = (a, .inr (5, [.ref q0, .ref q1, .null])) := by
    unfold gm
    rw [if_pos (by omega), vq_eq]
  refine g_put C hin fc_5 i (by omega) (fs := [.ref q0, .ref q1, .null]) hzi 2 (by decide) rfl rfl rfl rfl (Nat.le_of_ble_eq_true rfl) g_8 e_Rows_init_29 ?_
  have main : ∀ F : Nat → Nat × va_E, F i = (a, .inr (5, [.ref q0, .ref q1, .ref q2])) → F n = (q0, .inl (k 0, 8, .inl (fun _ => 0))) → (∀ j, j < n → j ≠ i → F j = f j) → F (n + 1) = (q1, .inl (k 0, 8, .inl (fun _ => 0))) → F (n + 2) = (q2, .inl (k 3, 8, .inr (.inr (.inr (.inr (fun u => if u < 8 then some (r u) else none)))))) → (∀ u, F (n + 3 + u) = (r u, .inl (k 0, 40, .inl (fun _ => 0)))) → Gs (p, l, e, { frames := 1, cells := 11, slots := 344, locals := 20 }, s, m, args, below, meth, c, D, k, A, Q) 2 (n + 11) F 11 344 [(0, .ref a)] 32 [] := by
    intro F hF hF0 hFk hF1 hF2 hF3
    have loop : ∀ (t j : Nat), j + t = 8 → Gs (p, l, e, { frames := 1, cells := 11, slots := 344, locals := 20 }, s, m, args, below, meth, c, D, k, A, Q) 2 (n + 11) (va_up F n (q0, .inl (k 0, 8, .inl (fun u => if u < j then -1 else 0)))) 11 344 [(0, .ref a), (1, .int (nI j))] 34 [] := by
      intro t
      induction t with
      | zero =>
        intro j hj
        have hj : j = 8 := by omega
        subst hj
        refine g_iload_n C e_Rows_init_34 rfl ?_
        refine g_bipush C e_Rows_init_35 (v := (8 : Int32)) bp_8 ?_
        refine g_ge (tgt := 53) C e_Rows_init_37 rfl (fun _ => ?_) (fun h => absurd (by decide) h)
        refine kend _ ⟨fun j hj hji => ?_, ?_, ?_, ?_, ?_, fun u hu => ?_⟩ 53 54 _ e_Rows_init_53
        · rw [vq_ne (by omega), hFk j hj hji]
        · rw [vq_ne (by omega), hF, vq_eq, vq_ne (show n + 1 ≠ n by omega), hF1, vq_ne (show n + 2 ≠ n by omega), hF2]
        · rw [vq_eq]
        · rw [vq_ne (by omega), hF1]
        · rw [vq_ne (by omega), hF2]
          have e0 : (fun u => if u < 8 then some (r u) else none) = (fun u => if u < 8 then some (va_up F n (q0, .inl (k 0, 8, .inl (fun u => if u < 8 then (-1 : Int32) else 0))) (n + 3 + u)).1 else none) := by
            funext u
            rw [vq_ne (show n + 3 + u ≠ n by omega), hF3]
          dsimp only
          rw [e0]
        · rw [vq_ne (by omega), hF3]
      | succ t ih =>
        intro j hj
        refine g_iload_n C e_Rows_init_34 rfl ?_
        refine g_bipush C e_Rows_init_35 (v := (8 : Int32)) bp_8 ?_
        refine g_ge (tgt := 53) C e_Rows_init_37 rfl (fun h => absurd h (nI_ge (a := j) (b := 8) (by omega) (by omega))) (fun _ => ?_)
        refine g_aload_n C e_Rows_init_40 rfl ?_
        refine g_get C fc_5 i (by omega) (fs := [.ref q0, .ref q1, .ref q2]) (by rw [vq_ne (by omega), hF]) 0 (by decide) rfl g_6 e_Rows_init_41 ?_
        refine g_iload_n C e_Rows_init_44 rfl ?_
        refine g_iconst C e_Rows_init_45 (v := (-1 : Int32)) ic_m1 ?_
        refine g_iast C n (by omega) vq_eq (j := j) rfl (by omega) (by decide) e_Rows_init_46 ?_
        refine g_iinc C e_Rows_init_47 (v := nI (j + 1)) rfl (by decide) (nI_add j 1) ?_
        refine g_goto (tgt := 34) C e_Rows_init_50 rfl ?_
        rw [vq_up, lane_upd]
        exact g_cut (ih (j + 1) (by omega)) ⟨rfl, rfl, trivial⟩
    refine g_iconst C e_Rows_init_32 (v := (0 : Int32)) ic_0 ?_
    refine g_istore_n C e_Rows_init_33 (by decide) ?_
    have h0 := loop 8 0 rfl
    rw [vq_self (by rw [hF0]; rfl)] at h0
    exact g_cut h0 ⟨rfl, rfl, trivial⟩
  have hn0 : ¬ n = i := by omega
  have hn1 : ¬ n + 1 = i := by omega
  have hn2 : ¬ n + 2 = i := by omega
  refine main _ ?_ ?_ ?_ ?_ ?_ (fun u => ?_)
  · rw [vq_eq]
    rfl
  · have z3 : n < n + 1 + 1 := by omega
    rw [vq_ne hn0]
    unfold gm
    rw [if_pos z3, vq_ne hn0, vq_ne (by omega), vq_ne hn0, vq_eq]
  · intro j hj hji
    have z1 : ¬ j = n := by omega
    have z2 : ¬ j = n + 1 := by omega
    have z3 : j < n + 1 + 1 := by omega
    simp [va_up, gm, hji, z1, z2, z3]
  · simp [va_up, gm, hn1, hk']
  · simp [va_up, gm, hn2, hk']
  · have z1 : ¬ n + 3 + u = i := by omega
    have z2 : ¬ n + 3 + u < n + 1 + 1 := by omega
    have z3 : ¬ n + 3 + u = n + 1 + 1 := by omega
    have z4 : n + 3 + u - (n + 1 + 1) - 1 = u := by omega
    simp only [va_up, gm, z1, z2, z3, z4, if_false, hk']
def PBp (k : Nat → ClassId) (a : Nat) (f' : Nat → Nat × va_E) : Prop := f' 0 = (a, .inr (6, [.ref (f' 1).1, .ref (f' 13).1, .ref (f' 15).1, .ref (f' 22).1, .ref (f' 30).1, .ref (f' 200).1, .ref (f' 202).1, .int 0])) ∧
  (f' 1).2 = .inr (5, [.ref (f' 2).1, .ref (f' 3).1, .ref (f' 4).1]) ∧ (f' 2).2 = .inl (k 0, 8, .inl (fun u => if u < 8 then -1 else 0)) ∧ (f' 3).2 = .inl (k 0, 8, .inl (fun _ => 0)) ∧ (f' 4).2 = .inl (k 3, 8, .inr (.inr (.inr (.inr (fun u => if u < 8 then some (f' (5 + u)).1 else none))))) ∧ (∀ u, u < 8 → (f' (5 + u)).2 = .inl (k 0, 40, .inl (fun _ => 0))) ∧
  (f' 13).2 = .inr (4, [.ref (f' 14).1, .int 0, .int 0, .int 0, .int 0, .int 0]) ∧ (f' 14).2 = .inl (k 0, 130, .inl (fun _ => 0)) ∧ isBd k f' 15 16 ∧
  (f' 22).2 = .inr (2, [.ref (f' 23).1, .ref (f' 15).1]) ∧ isBd k f' 23 24 ∧
  (f' 30).2 = .inr (3, [.int 0, .int 0, .ref (f' 31).1]) ∧ (f' 31).2 = .inl (k 2, 24, .inr (.inr (.inr (.inr (fun u => if u < 24 then some (f' (32 + 7 * u)).1 else none))))) ∧ (∀ u, u < 24 → isBd k f' (32 + 7 * u) (33 + 7 * u)) ∧
  (f' 200).2 = .inr (0, [.ref (f' 201).1, .int 0, .ref (f' 15).1]) ∧ (f' 201).2 = .inl (k 0, 16, .inl (fun _ => 0)) ∧
  (f' 202).2 = .inl (k 2, 2, .inr (.inr (.inr (.inr (fun u => if u < 2 then some (f' (203 + 7 * u)).1 else none))))) ∧ isBd k f' 203 204 ∧ isBd k f' 210 211
theorem g_sub {X : GX} {nL n : Nat} {f g : Nat → Nat × va_E} {cells slots : Nat} {lv : List (Nat × Value)} {pc : Nat} {st : List Value} (e : g = f) (h : Gs X nL n g cells slots lv pc st) : Gs X nL n f cells slots lv pc st := e ▸ h
set_option maxHeartbeats 8000000 in
set_option maxRecDepth 100000 in
theorem kc_PB {l : Launch} {D : va_G} {k : Nat → ClassId} {a : Nat} {f : Nat → Nat × va_E} (hz : f 0 = (a, .inr (6, [.null, .null, .null, .null, .null, .null, .null, .int 0]))) : Kt l D k yX6_init cX6_init 2 3 61 216 2297 [.ref a] 1 f 217 (PBp k a) := by
  refine Kt_of (by decide) rfl (Nat.le_of_ble_eq_true rfl) (fun p e s m args below meth c A Q C hin kend => ?_)
  refine g_aload_n C e_P_init_0 rfl ?_
  refine g_obj C gc_12 wobj ⟨by decide, Nat.le_of_ble_eq_true rfl⟩ e_P_init_1 ?_
  refine g_aload_n C e_P_init_4 rfl ?_
  refine g_new C fc_5 gc_13 wn_5 (fs := [.null, .null, .null]) (by decide) (by omega) (by omega) e_P_init_5 (fun q1 => ?_)
  refine g_dup C e_P_init_8 rfl ?_
  have z1 : va_up f 1 (q1, .inr (5, [.null, .null, .null])) 0 = (a, .inr (6, [.null, .null, .null, .null, .null, .null, .null, .int 0])) := by rw [vq_ne (by decide), hz]
  refine g_call (As := []) C (kc_Rows (i := 1) (n := 2) (by decide) vq_eq) rfl wk_Rows_init (Or.inl gc_14) ⟨by decide, by decide⟩ rfl (Nat.le_of_ble_eq_true rfl) (by omega) (by omega) e_P_init_9 (fun B1 p1 => ?_)
  obtain ⟨r1, p1⟩ := p1
  have u1 : B1 0 = (a, .inr (6, [.null, .null, .null, .null, .null, .null, .null, .int 0])) := by rw [r1 0 (by decide) (by decide), z1]
  refine g_put C hin fc_6 0 (by decide) (fs := [.null, .null, .null, .null, .null, .null, .null, .int 0]) u1 0 (by decide) rfl rfl rfl rfl (Nat.le_of_ble_eq_true rfl) g_9 e_P_init_12 ?_
  obtain ⟨C1, d1⟩ : ∃ F, F = va_up B1 0 (a, .inr (6, [.ref q1, .null, .null, .null, .null, .null, .null, .int 0])) := ⟨_, rfl⟩
  refine g_sub (g := C1) d1 ?_
  have v1 : C1 0 = (a, .inr (6, [.ref q1, .null, .null, .null, .null, .null, .null, .int 0])) := by rw [d1, vq_eq]
  have K1 : ∀ j, 1 ≤ j → j < 1 → C1 j = f j := fun j h1 h2 => by rw [d1, vq_ne (by omega), r1 j (by omega) (by omega), vq_ne (by omega)]
  have L1 : ∀ j, 1 ≤ j → C1 j = B1 j := fun j h1 => by rw [d1, vq_ne (by omega)]
  refine g_aload_n C e_P_init_15 rfl ?_
  refine g_new C fc_4 gc_15 wn_4 (fs := [.null, .int 0, .int 0, .int 0, .int 0, .int 0]) (by decide) (by omega) (by omega) e_P_init_16 (fun q2 => ?_)
  refine g_dup C e_P_init_19 rfl ?_
  have z2 : va_up C1 13 (q2, .inr (4, [.null, .int 0, .int 0, .int 0, .int 0, .int 0])) 0 = (a, .inr (6, [.ref q1, .null, .null, .null, .null, .null, .null, .int 0])) := by rw [vq_ne (by decide), v1]
  refine g_call (As := []) C (kc_Reader (i := 13) (n := 14) (by decide) vq_eq) rfl wk_Reader_init (Or.inr ⟨RX6, gc_16⟩) ⟨by decide, by decide⟩ rfl (Nat.le_of_ble_eq_true rfl) (by omega) (by omega) e_P_init_20 (fun B2 p2 => ?_)
  obtain ⟨r2, p2⟩ := p2
  have u2 : B2 0 = (a, .inr (6, [.ref q1, .null, .null, .null, .null, .null, .null, .int 0])) := by rw [r2 0 (by decide) (by decide), z2]
  refine g_put C hin fc_6 0 (by decide) (fs := [.ref q1, .null, .null, .null, .null, .null, .null, .int 0]) u2 1 (by decide) rfl rfl rfl rfl (Nat.le_of_ble_eq_true rfl) g_50 e_P_init_23 ?_
  obtain ⟨C2, d2⟩ : ∃ F, F = va_up B2 0 (a, .inr (6, [.ref q1, .ref q2, .null, .null, .null, .null, .null, .int 0])) := ⟨_, rfl⟩
  refine g_sub (g := C2) d2 ?_
  have v2 : C2 0 = (a, .inr (6, [.ref q1, .ref q2, .null, .null, .null, .null, .null, .int 0])) := by rw [d2, vq_eq]
  have K2 : ∀ j, 1 ≤ j → j < 13 → C2 j = C1 j := fun j h1 h2 => by rw [d2, vq_ne (by omega), r2 j (by omega) (by omega), vq_ne (by omega)]
  have L2 : ∀ j, 1 ≤ j → C2 j = B2 j := fun j h1 => by rw [d2, vq_ne (by omega)]
  refine g_aload_n C e_P_init_26 rfl ?_
  refine g_new C fc_1 gc_17 wn_1 (fs := D0B) hfsB (by omega) (by omega) e_P_init_27 (fun q3 => ?_)
  refine g_dup C e_P_init_30 rfl ?_
  have z3 : va_up C2 15 (q3, .inr (1, D0B)) 0 = (a, .inr (6, [.ref q1, .ref q2, .null, .null, .null, .null, .null, .int 0])) := by rw [vq_ne (by decide), v2]
  refine g_call (As := []) C (kc_Board (i := 15) (n := 16) (by decide) vq_eq) rfl wk_Board_init (Or.inr ⟨RX6, gc_18⟩) ⟨by decide, by decide⟩ rfl (Nat.le_of_ble_eq_true rfl) (by omega) (by omega) e_P_init_31 (fun B3 p3 => ?_)
  obtain ⟨r3, p3⟩ := p3
  have u3 : B3 0 = (a, .inr (6, [.ref q1, .ref q2, .null, .null, .null, .null, .null, .int 0])) := by rw [r3 0 (by decide) (by decide), z3]
  refine g_put C hin fc_6 0 (by decide) (fs := [.ref q1, .ref q2, .null, .null, .null, .null, .null, .int 0]) u3 2 (by decide) rfl rfl rfl rfl (Nat.le_of_ble_eq_true rfl) g_142 e_P_init_34 ?_
  obtain ⟨C3, d3⟩ : ∃ F, F = va_up B3 0 (a, .inr (6, [.ref q1, .ref q2, .ref q3, .null, .null, .null, .null, .int 0])) := ⟨_, rfl⟩
  refine g_sub (g := C3) d3 ?_
  have v3 : C3 0 = (a, .inr (6, [.ref q1, .ref q2, .ref q3, .null, .null, .null, .null, .int 0])) := by rw [d3, vq_eq]
  have K3 : ∀ j, 1 ≤ j → j < 15 → C3 j = C2 j := fun j h1 h2 => by rw [d3, vq_ne (by omega), r3 j (by omega) (by omega), vq_ne (by omega)]
  have L3 : ∀ j, 1 ≤ j → C3 j = B3 j := fun j h1 => by rw [d3, vq_ne (by omega)]
  refine g_aload_n C e_P_init_37 rfl ?_
  refine g_new C fc_2 gc_19 wn_2 (fs := [.null, .null]) (by decide) (by omega) (by omega) e_P_init_38 (fun q4 => ?_)
  refine g_dup C e_P_init_41 rfl ?_
  have z4 : va_up C3 22 (q4, .inr (2, [.null, .null])) 0 = (a, .inr (6, [.ref q1, .ref q2, .ref q3, .null, .null, .null, .null, .int 0])) := by rw [vq_ne (by decide), v3]
  refine g_aload_n C e_P_init_42 rfl ?_
  refine g_get C fc_6 0 (by decide) z4 2 (by decide) rfl g_142 e_P_init_43 ?_
  refine g_call (As := [.ref q3]) C (kc_Fore (i := 22) (n := 23) (by decide) vq_eq) rfl wk_Fore_init (Or.inl gc_20) ⟨by decide, by decide⟩ rfl (Nat.le_of_ble_eq_true rfl) (by omega) (by omega) e_P_init_46 (fun B4 p4 => ?_)
  obtain ⟨r4, p4⟩ := p4
  have u4 : B4 0 = (a, .inr (6, [.ref q1, .ref q2, .ref q3, .null, .null, .null, .null, .int 0])) := by rw [r4 0 (by decide) (by decide), z4]
  refine g_put C hin fc_6 0 (by decide) (fs := [.ref q1, .ref q2, .ref q3, .null, .null, .null, .null, .int 0]) u4 3 (by decide) rfl rfl rfl rfl (Nat.le_of_ble_eq_true rfl) g_140 e_P_init_49 ?_
  obtain ⟨C4, d4⟩ : ∃ F, F = va_up B4 0 (a, .inr (6, [.ref q1, .ref q2, .ref q3, .ref q4, .null, .null, .null, .int 0])) := ⟨_, rfl⟩
  refine g_sub (g := C4) d4 ?_
  have v4 : C4 0 = (a, .inr (6, [.ref q1, .ref q2, .ref q3, .ref q4, .null, .null, .null, .int 0])) := by rw [d4, vq_eq]
  have K4 : ∀ j, 1 ≤ j → j < 22 → C4 j = C3 j := fun j h1 h2 => by rw [d4, vq_ne (by omega), r4 j (by omega) (by omega), vq_ne (by omega)]
  have L4 : ∀ j, 1 ≤ j → C4 j = B4 j := fun j h1 => by rw [d4, vq_ne (by omega)]
  refine g_aload_n C e_P_init_52 rfl ?_
  refine g_new C fc_3 gc_21 wn_3 (fs := [.int 0, .int 0, .null]) (by decide) (by omega) (by omega) e_P_init_53 (fun q5 => ?_)
  refine g_dup C e_P_init_56 rfl ?_
  have z5 : va_up C4 30 (q5, .inr (3, [.int 0, .int 0, .null])) 0 = (a, .inr (6, [.ref q1, .ref q2, .ref q3, .ref q4, .null, .null, .null, .int 0])) := by rw [vq_ne (by decide), v4]
  refine g_call (As := []) C (kc_Past (i := 30) (n := 31) (by decide) vq_eq) rfl wk_Past_init (Or.inl gc_22) ⟨by decide, by decide⟩ rfl (Nat.le_of_ble_eq_true rfl) (by omega) (by omega) e_P_init_57 (fun B5 p5 => ?_)
  obtain ⟨r5, p5⟩ := p5
  have u5 : B5 0 = (a, .inr (6, [.ref q1, .ref q2, .ref q3, .ref q4, .null, .null, .null, .int 0])) := by rw [r5 0 (by decide) (by decide), z5]
  refine g_put C hin fc_6 0 (by decide) (fs := [.ref q1, .ref q2, .ref q3, .ref q4, .null, .null, .null, .int 0]) u5 4 (by decide) rfl rfl rfl rfl (Nat.le_of_ble_eq_true rfl) g_143 e_P_init_60 ?_
  obtain ⟨C5, d5⟩ : ∃ F, F = va_up B5 0 (a, .inr (6, [.ref q1, .ref q2, .ref q3, .ref q4, .ref q5, .null, .null, .int 0])) := ⟨_, rfl⟩
  refine g_sub (g := C5) d5 ?_
  have v5 : C5 0 = (a, .inr (6, [.ref q1, .ref q2, .ref q3, .ref q4, .ref q5, .null, .null, .int 0])) := by rw [d5, vq_eq]
  have K5 : ∀ j, 1 ≤ j → j < 30 → C5 j = C4 j := fun j h1 h2 => by rw [d5, vq_ne (by omega), r5 j (by omega) (by omega), vq_ne (by omega)]
  have L5 : ∀ j, 1 ≤ j → C5 j = B5 j := fun j h1 => by rw [d5, vq_ne (by omega)]
  refine g_aload_n C e_P_init_63 rfl ?_
  refine g_new C fc_0 gc_23 wn_0 (fs := [.null, .int 0, .null]) (by decide) (by omega) (by omega) e_P_init_64 (fun q6 => ?_)
  refine g_dup C e_P_init_67 rfl ?_
  have z6 : va_up C5 200 (q6, .inr (0, [.null, .int 0, .null])) 0 = (a, .inr (6, [.ref q1, .ref q2, .ref q3, .ref q4, .ref q5, .null, .null, .int 0])) := by rw [vq_ne (by decide), v5]
  refine g_aload_n C e_P_init_68 rfl ?_
  refine g_get C fc_6 0 (by decide) z6 2 (by decide) rfl g_142 e_P_init_69 ?_
  refine g_call (As := [.ref q3]) C (kc_Asks (i := 200) (n := 201) (by decide) vq_eq) rfl wk_Asks_init (Or.inl gc_24) ⟨by decide, by decide⟩ rfl (Nat.le_of_ble_eq_true rfl) (by omega) (by omega) e_P_init_72 (fun B6 p6 => ?_)
  obtain ⟨r6, p6⟩ := p6
  have u6 : B6 0 = (a, .inr (6, [.ref q1, .ref q2, .ref q3, .ref q4, .ref q5, .null, .null, .int 0])) := by rw [r6 0 (by decide) (by decide), z6]
  refine g_put C hin fc_6 0 (by decide) (fs := [.ref q1, .ref q2, .ref q3, .ref q4, .ref q5, .null, .null, .int 0]) u6 5 (by decide) rfl rfl rfl rfl (Nat.le_of_ble_eq_true rfl) g_424 e_P_init_75 ?_
  obtain ⟨C6, d6⟩ : ∃ F, F = va_up B6 0 (a, .inr (6, [.ref q1, .ref q2, .ref q3, .ref q4, .ref q5, .ref q6, .null, .int 0])) := ⟨_, rfl⟩
  refine g_sub (g := C6) d6 ?_
  have v6 : C6 0 = (a, .inr (6, [.ref q1, .ref q2, .ref q3, .ref q4, .ref q5, .ref q6, .null, .int 0])) := by rw [d6, vq_eq]
  have K6 : ∀ j, 1 ≤ j → j < 200 → C6 j = C5 j := fun j h1 h2 => by rw [d6, vq_ne (by omega), r6 j (by omega) (by omega), vq_ne (by omega)]
  have L6 : ∀ j, 1 ≤ j → C6 j = B6 j := fun j h1 => by rw [d6, vq_ne (by omega)]
  refine g_aload_n C e_P_init_78 rfl ?_
  refine g_iconst C e_P_init_79 (v := (2 : Int32)) ic_2 ?_
  refine g_newQ C (N := 2) gc_17 rfl (by decide) (by omega) (by omega) e_P_init_80 (fun q7 => ?_)
  refine g_put C hin fc_6 0 (by decide) (fs := [.ref q1, .ref q2, .ref q3, .ref q4, .ref q5, .ref q6, .null, .int 0]) (by rw [vq_ne (by decide), v6]) 6 (by decide) rfl rfl rfl rfl (Nat.le_of_ble_eq_true rfl) g_375 e_P_init_83 ?_
  obtain ⟨C7, d7⟩ : ∃ F, F = va_up (va_up C6 202 (q7, .inl (k 2, 2, .inr (.inr (.inr (.inr (fun _ => none))))))) 0 (a, .inr (6, [.ref q1, .ref q2, .ref q3, .ref q4, .ref q5, .ref q6, .ref q7, .int 0])) := ⟨_, rfl⟩
  refine g_sub (g := C7) d7 ?_
  have v7 : C7 0 = (a, .inr (6, [.ref q1, .ref q2, .ref q3, .ref q4, .ref q5, .ref q6, .ref q7, .int 0])) := by rw [d7, vq_eq]
  have w7 : C7 202 = (q7, .inl (k 2, 2, .inr (.inr (.inr (.inr (fun _ => none)))))) := by rw [d7, vq_ne (by decide), vq_eq]
  have K7 : ∀ j, 1 ≤ j → j < 202 → C7 j = C6 j := fun j h1 h2 => by rw [d7, vq_ne (by omega), vq_ne (by omega)]
  refine g_iconst C e_P_init_86 (v := (0 : Int32)) ic_0 ?_
  refine g_istore_n C e_P_init_87 (by decide) ?_
  refine g_iload_n C e_P_init_88 rfl ?_
  refine g_iconst C e_P_init_89 (v := (2 : Int32)) ic_2 ?_
  refine g_ge (tgt := 112) C e_P_init_90 rfl (fun h => absurd h (by decide)) (fun _ => ?_)
  refine g_aload_n C e_P_init_93 rfl ?_
  refine g_get C fc_6 0 (by decide) v7 6 (by decide) rfl g_375 e_P_init_94 ?_
  refine g_iload_n C e_P_init_97 rfl ?_
  refine g_new C fc_1 gc_17 wn_1 (fs := D0B) hfsB (by omega) (by omega) e_P_init_98 (fun q8 => ?_)
  refine g_dup C e_P_init_101 rfl ?_
  refine g_call (As := []) C (kc_Board (i := 203) (n := 204) (by decide) vq_eq) rfl wk_Board_init (Or.inr ⟨RX6, gc_18⟩) ⟨by decide, by decide⟩ rfl (Nat.le_of_ble_eq_true rfl) (by omega) (by omega) e_P_init_102 (fun B8 p8 => ?_)
  obtain ⟨r8, p8, t8⟩ := p8
  have t8 : (B8 203).1 = q8 := t8
  have x8 : B8 202 = (q7, .inl (k 2, 2, .inr (.inr (.inr (.inr (fun _ => none)))))) := by rw [r8 202 (by decide) (by decide), vq_ne (by decide), w7]
  have y8 : B8 203 = (q8, .inr (1, [.int 0, .int 0, .int 0, .int 0, .int 0, .int 0, .ref (B8 (204 + 0)).1, .ref (B8 (204 + 1)).1, .ref (B8 (204 + 2)).1, .ref (B8 (204 + 3)).1, .ref (B8 (204 + 4)).1, .ref (B8 (204 + 5)).1])) := by rw [← p8.1, ← t8]
  refine g_aast C 202 (by decide) x8 203 (by decide) y8 (j := 0) rfl (by decide) (by decide) e_P_init_105 ?_
  obtain ⟨C8, d8⟩ : ∃ F, F = va_up B8 202 (q7, .inl (k 2, 2, .inr (.inr (.inr (.inr (va_up (fun _ => none) 0 (some q8))))))) := ⟨_, rfl⟩
  refine g_sub (g := C8) d8 ?_
  have v8 : C8 0 = (a, .inr (6, [.ref q1, .ref q2, .ref q3, .ref q4, .ref q5, .ref q6, .ref q7, .int 0])) := by rw [d8, vq_ne (by decide), r8 0 (by decide) (by decide), vq_ne (by decide), v7]
  have w8 : C8 202 = (q7, .inl (k 2, 2, .inr (.inr (.inr (.inr (va_up (fun _ => none) 0 (some q8))))))) := by rw [d8, vq_eq]
  have K8 : ∀ j, 1 ≤ j → j < 203 → j ≠ 202 → C8 j = C7 j := fun j h1 h2 h3 => by rw [d8, vq_ne h3, r8 j (by omega) (by omega), vq_ne (by omega)]
  have L8 : ∀ j, 203 ≤ j → C8 j = B8 j := fun j h1 => by rw [d8, vq_ne (by omega)]
  refine g_iinc C e_P_init_106 (v := (1 : Int32)) rfl (by decide) (by decide) ?_
  refine g_goto (tgt := 88) C e_P_init_109 rfl ?_
  refine g_iload_n C e_P_init_88 rfl ?_
  refine g_iconst C e_P_init_89 (v := (2 : Int32)) ic_2 ?_
  refine g_ge (tgt := 112) C e_P_init_90 rfl (fun h => absurd h (by decide)) (fun _ => ?_)
  refine g_aload_n C e_P_init_93 rfl ?_
  refine g_get C fc_6 0 (by decide) v8 6 (by decide) rfl g_375 e_P_init_94 ?_
  refine g_iload_n C e_P_init_97 rfl ?_
  refine g_new C fc_1 gc_17 wn_1 (fs := D0B) hfsB (by omega) (by omega) e_P_init_98 (fun q9 => ?_)
  refine g_dup C e_P_init_101 rfl ?_
  refine g_call (As := []) C (kc_Board (i := 210) (n := 211) (by decide) vq_eq) rfl wk_Board_init (Or.inr ⟨RX6, gc_18⟩) ⟨by decide, by decide⟩ rfl (Nat.le_of_ble_eq_true rfl) (by omega) (by omega) e_P_init_102 (fun B9 p9 => ?_)
  obtain ⟨r9, p9, t9⟩ := p9
  have t9 : (B9 210).1 = q9 := t9
  have x9 : B9 202 = (q7, .inl (k 2, 2, .inr (.inr (.inr (.inr (va_up (fun _ => none) 0 (some q8))))))) := by rw [r9 202 (by decide) (by decide), vq_ne (by decide), w8]
  have y9 : B9 210 = (q9, .inr (1, [.int 0, .int 0, .int 0, .int 0, .int 0, .int 0, .ref (B9 (211 + 0)).1, .ref (B9 (211 + 1)).1, .ref (B9 (211 + 2)).1, .ref (B9 (211 + 3)).1, .ref (B9 (211 + 4)).1, .ref (B9 (211 + 5)).1])) := by rw [← p9.1, ← t9]
  refine g_aast C 202 (by decide) x9 210 (by decide) y9 (j := 1) rfl (by decide) (by decide) e_P_init_105 ?_
  obtain ⟨C9, d9⟩ : ∃ F, F = va_up B9 202 (q7, .inl (k 2, 2, .inr (.inr (.inr (.inr (va_up (va_up (fun _ => none) 0 (some q8)) 1 (some q9))))))) := ⟨_, rfl⟩
  refine g_sub (g := C9) d9 ?_
  have v9 : C9 0 = (a, .inr (6, [.ref q1, .ref q2, .ref q3, .ref q4, .ref q5, .ref q6, .ref q7, .int 0])) := by rw [d9, vq_ne (by decide), r9 0 (by decide) (by decide), vq_ne (by decide), v8]
  have w9 : C9 202 = (q7, .inl (k 2, 2, .inr (.inr (.inr (.inr (va_up (va_up (fun _ => none) 0 (some q8)) 1 (some q9))))))) := by rw [d9, vq_eq]
  have K9 : ∀ j, 1 ≤ j → j < 210 → j ≠ 202 → C9 j = C8 j := fun j h1 h2 h3 => by rw [d9, vq_ne h3, r9 j (by omega) (by omega), vq_ne (by omega)]
  have L9 : ∀ j, 203 ≤ j → C9 j = B9 j := fun j h1 => by rw [d9, vq_ne (by omega)]
  refine g_iinc C e_P_init_106 (v := (2 : Int32)) rfl (by decide) (by decide) ?_
  refine g_goto (tgt := 88) C e_P_init_109 rfl ?_
  refine g_iload_n C e_P_init_88 rfl ?_
  refine g_iconst C e_P_init_89 (v := (2 : Int32)) ic_2 ?_
  refine g_ge (tgt := 112) C e_P_init_90 rfl (fun _ => ?_) (fun h => absurd (by decide) h)
  have e9 : ∀ j, 203 ≤ j → C9 j = B9 j := L9
  have e8 : ∀ j, 203 ≤ j → j < 210 → C9 j = B8 j := fun j h1 h2 => by rw [K9 j (by omega) h2 (by omega), L8 j h1]
  have e7 : ∀ j, 1 ≤ j → j < 202 → C9 j = C6 j := fun j h1 h2 => by rw [K9 j h1 (by omega) (by omega), K8 j h1 (by omega) (by omega), K7 j h1 h2]
  have e6 : ∀ j, 1 ≤ j → j < 202 → C9 j = B6 j := fun j h1 h2 => by rw [e7 j h1 h2, L6 j h1]
  have e5 : ∀ j, 1 ≤ j → j < 200 → C9 j = B5 j := fun j h1 h2 => by rw [e7 j h1 (by omega), K6 j h1 (by omega), L5 j h1]
  have e4 : ∀ j, 1 ≤ j → j < 30 → C9 j = B4 j := fun j h1 h2 => by rw [e7 j h1 (by omega), K6 j h1 (by omega), K5 j h1 (by omega), L4 j h1]
  have e3 : ∀ j, 1 ≤ j → j < 22 → C9 j = B3 j := fun j h1 h2 => by rw [e7 j h1 (by omega), K6 j h1 (by omega), K5 j h1 (by omega), K4 j h1 (by omega), L3 j h1]
  have e2 : ∀ j, 1 ≤ j → j < 15 → C9 j = B2 j := fun j h1 h2 => by rw [e7 j h1 (by omega), K6 j h1 (by omega), K5 j h1 (by omega), K4 j h1 (by omega), K3 j h1 (by omega), L2 j h1]
  have e1 : ∀ j, 1 ≤ j → j < 13 → C9 j = B1 j := fun j h1 h2 => by rw [e7 j h1 (by omega), K6 j h1 (by omega), K5 j h1 (by omega), K4 j h1 (by omega), K3 j h1 (by omega), K2 j h1 (by omega), L1 j h1]
  refine kend C9 ?_ 112 113 _ e_P_init_112
  have a1 : (B1 1).1 = q1 := by rw [p1.1]
  have a2 : (B2 13).1 = q2 := by rw [p2.1]
  have a3 : (B3 15).1 = q3 := p3.2
  have a4 : (B4 22).1 = q4 := by rw [p4.1]
  have a5 : (B5 30).1 = q5 := by rw [p5.1]
  have a6 : (B6 200).1 = q6 := by rw [p6.1]
  have a7 : (C9 202).1 = q7 := by rw [w9]
  obtain ⟨s11, s12, s13, s14, s15⟩ := p1
  obtain ⟨s51, ⟨g5, s52, s53, s54⟩, s55⟩ := p5
  unfold PBp
  refine ⟨?_, ?_, ?_, ?_, ?_, ?_, ?_, ?_, ?_, ?_, ?_, ?_, ?_, ?_, ?_, ?_, ?_, ?_, ?_⟩
  · rw [v9, e1 1 (by omega) (by omega), e2 13 (by omega) (by omega), e3 15 (by omega) (by omega), e4 22 (by omega) (by omega), e5 30 (by omega) (by omega), e6 200 (by omega) (by omega), a1, a2, a3, a4, a5, a6, a7]
  · rw [e1 1 (by omega) (by omega), e1 2 (by omega) (by omega), e1 3 (by omega) (by omega), e1 4 (by omega) (by omega), s11]
  · rw [e1 2 (by omega) (by omega)]
    exact s12
  · rw [e1 3 (by omega) (by omega)]
    exact s13
  · rw [e1 4 (by omega) (by omega), show (B1 4).2 = _ from s14]
    refine congrArg (fun z => (Sum.inl (k 3, 8, Sum.inr (Sum.inr (Sum.inr (Sum.inr z)))) : va_E)) (funext fun u => ?_)
    by_cases hu : u < 8
    · rw [if_pos hu, if_pos hu, e1 (5 + u) (by omega) (by omega)]
    · rw [if_neg hu, if_neg hu]
  · intro u hu
    rw [e1 (5 + u) (by omega) (by omega)]
    exact s15 u hu
  · rw [e2 13 (by omega) (by omega), e2 14 (by omega) (by omega), p2.1]
  · rw [e2 14 (by omega) (by omega)]
    exact p2.2
  · exact isBd_congr p3.1 (e3 15 (by omega) (by omega)) (fun j hj => e3 (16 + j) (by omega) (by omega))
  · rw [e4 22 (by omega) (by omega), e4 23 (by omega) (by omega), e3 15 (by omega) (by omega), p4.1, a3]
  · exact isBd_congr p4.2 (e4 23 (by omega) (by omega)) (fun j hj => e4 (24 + j) (by omega) (by omega))
  · rw [e5 30 (by omega) (by omega), e5 31 (by omega) (by omega), s51]
  · rw [e5 31 (by omega) (by omega), show (B5 31).2 = _ from s52]
    refine congrArg (fun z => (Sum.inl (k 2, 24, Sum.inr (Sum.inr (Sum.inr (Sum.inr z)))) : va_E)) (funext fun u => ?_)
    by_cases hu : u < 24
    · rw [if_pos hu, s53 u hu, e5 (32 + 7 * u) (by omega) (by omega)]
    · rw [if_neg hu, s54 u (by omega)]
  · intro u hu
    exact isBd_congr (s55 u hu) (e5 (32 + 7 * u) (by omega) (by omega)) (fun j hj => e5 (33 + 7 * u + j) (by omega) (by omega))
  · rw [e6 200 (by omega) (by omega), e6 201 (by omega) (by omega), e3 15 (by omega) (by omega), p6.1, a3]
  · rw [e6 201 (by omega) (by omega)]
    exact p6.2
  · rw [w9]
    refine congrArg (fun z => (Sum.inl (k 2, 2, Sum.inr (Sum.inr (Sum.inr (Sum.inr z)))) : va_E)) (funext fun u => ?_)
    by_cases h0 : u = 0
    · subst h0
      rw [vq_ne (by decide), vq_eq, if_pos (by decide), e8 (203 + 7 * 0) (by omega) (by omega), show (B8 (203 + 7 * 0)).1 = q8 from t8]
    · by_cases h1 : u = 1
      · subst h1
        rw [vq_eq, if_pos (by decide), e9 (203 + 7 * 1) (by omega), show (B9 (203 + 7 * 1)).1 = q9 from t9]
      · rw [vq_ne h1, vq_ne h0, if_neg (by omega)]
  · exact isBd_congr p8 (e8 203 (by omega) (by omega)) (fun j hj => e8 (204 + j) (by omega) (by omega))
  · exact isBd_congr p9 (e9 210 (by omega)) (fun j hj => e9 (211 + j) (by omega))
