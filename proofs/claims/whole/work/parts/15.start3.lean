theorem gc_25 : Cond.classLink RL 7 RX6 ∈ gt := gt_of (by decide +kernel) rfl
theorem gc_26 : Cond.classLink RL 10 RX7 ∈ gt := gt_of (by decide +kernel) rfl
theorem wn_6 : Cond.instantiable RX6 8 ∈ gt ∧ Cond.initialized RX6 ∈ gt := ⟨gt_of (by decide +kernel) rfl, gt_of (by decide +kernel) rfl⟩
theorem wn_7 : Cond.instantiable RX7 25 ∈ gt ∧ Cond.initialized RX7 ∈ gt := ⟨gt_of (by decide +kernel) rfl, gt_of (by decide +kernel) rfl⟩
theorem gc_27 : Cond.methodLink RL 9 yX6_init ∈ gt := gt_of (by decide +kernel) rfl
theorem gc_28 : Cond.methodLink RL 12 yX7_init ∈ gt := gt_of (by decide +kernel) rfl
theorem wk_P_init : Cond.instanceMethod yX6_init ∈ gt ∧ Cond.initialized yX6_init.cls ∈ gt ∧ Cond.code yX6_init cX6_init 2 none ∈ gt ∧ (yX6_init.cls ≠ "java/lang/invoke/MethodHandle" ∧ yX6_init.cls ≠ "java/lang/invoke/VarHandle" ∧ (parseMethodDescriptor yX6_init.desc).map (fun d => d.parameters.length) = some 0) := ⟨gt_of (by decide +kernel) rfl, gt_of (by decide +kernel) rfl, gt_of (by decide +kernel) rfl, by decide +kernel⟩
theorem wk_M_init : Cond.instanceMethod yX7_init ∈ gt ∧ Cond.initialized yX7_init.cls ∈ gt ∧ Cond.code yX7_init cX7_init 2 none ∈ gt ∧ (yX7_init.cls ≠ "java/lang/invoke/MethodHandle" ∧ yX7_init.cls ≠ "java/lang/invoke/VarHandle" ∧ (parseMethodDescriptor yX7_init.desc).map (fun d => d.parameters.length) = some 0) := ⟨gt_of (by decide +kernel) rfl, gt_of (by decide +kernel) rfl, gt_of (by decide +kernel) rfl, by decide +kernel⟩
theorem px_M {k : Nat → ClassId} {f : Nat → Nat × va_E} {n a : Nat} (hf : f n = (a, .inr (7, [.ref (f (n + 1 + 0)).1, .ref (f (n + 1 + 1)).1, .ref (f (n + 1 + 2)).1, .ref (f (n + 1 + 3)).1, .int 0, .ref (f (n + 1 + 4)).1, .int 0, .int 0, .int 0, .int 0, .int 0, .int 0, .int 0, .ref (f (n + 1 + 5)).1, .ref (f (n + 1 + 6)).1, .ref (f (n + 1 + 7)).1, .ref (f (n + 1 + 8)).1, .int 0, .ref (f (n + 1 + 9)).1, .ref (f (n + 1 + 10)).1, .ref (f (n + 1 + 11)).1, .ref (f (n + 1 + 12)).1, .ref (f (n + 1 + 13)).1, .ref (f (n + 1 + 14)).1, .int 0]))) (h0 : (f (n + 1 + 0)).2 = .inl (k 0, 8, .inl (fun u => if u < 8 then -1000000 else 0))) (h1 : (f (n + 1 + 1)).2 = .inl (k 0, 8, .inl (fun _ => 0))) (h2 : (f (n + 1 + 2)).2 = .inl (k 0, 320, .inl (fun _ => 0))) (h3 : (f (n + 1 + 3)).2 = .inl (k 0, 40, .inl (fun _ => 0))) (h4 : (f (n + 1 + 4)).2 = .inl (k 0, 130, .inl (fun _ => 0))) (h5 : (f (n + 1 + 5)).2 = .inl (k 0, 64, .inl (fun _ => 0))) (h6 : (f (n + 1 + 6)).2 = .inl (k 0, 64, .inl (fun _ => 0))) (h7 : (f (n + 1 + 7)).2 = .inl (k 0, 64, .inl (fun _ => 0))) (h8 : (f (n + 1 + 8)).2 = .inl (k 0, 1536, .inl (fun _ => 0))) (h9 : (f (n + 1 + 9)).2 = .inl (k 0, 128, .inl (fun _ => 0))) (h10 : (f (n + 1 + 10)).2 = .inl (k 1, 2, .inl (fun _ => 0))) (h11 : (f (n + 1 + 11)).2 = .inl (k 0, 7, .inl (fun _ => 0))) (h12 : (f (n + 1 + 12)).2 = .inl (k 0, 16, .inl (fun _ => 0))) (h13 : (f (n + 1 + 13)).2 = .inl (k 0, 7, .inl (fun _ => 0))) (h14 : (f (n + 1 + 14)).2 = .inl (k 0, 16, .inl (fun _ => 0))) : ∀ j, j < 16 → (f (n + j)).2 = cellM (fun j => (f (n + j)).1) k sM0 j := by
  intro j hj
  rcases (show j = 0 ∨ j = 1 ∨ j = 2 ∨ j = 3 ∨ j = 4 ∨ j = 5 ∨ j = 6 ∨ j = 7 ∨ j = 8 ∨ j = 9 ∨ j = 10 ∨ j = 11 ∨ j = 12 ∨ j = 13 ∨ j = 14 ∨ j = 15 by omega) with rfl | rfl | rfl | rfl | rfl | rfl | rfl | rfl | rfl | rfl | rfl | rfl | rfl | rfl | rfl | rfl
  · show (f n).2 = _
    rw [hf]
    simp only [cellM, fsM, if_true, sM0_ne (show (0 : Nat) ≠ 1 by decide), Nat.add_assoc]
  · show (f (n + 1)).2 = _
    rw [show n + 1 = n + 1 + 0 by omega, h0]
    show _ = va_E_l k 0 8 (sM0 1)
    refine congrArg (fun z => va_E_l k 0 8 z) (funext fun u => ?_)
    simp [sM0]
  · show (f (n + 2)).2 = _
    rw [show n + 2 = n + 1 + 1 by omega, h1]
    show _ = va_E_l k 0 8 (sM0 2)
    rw [sM0_ne (by decide)]
  · show (f (n + 3)).2 = _
    rw [show n + 3 = n + 1 + 2 by omega, h2]
    show _ = va_E_l k 0 320 (sM0 3)
    rw [sM0_ne (by decide)]
  · show (f (n + 4)).2 = _
    rw [show n + 4 = n + 1 + 3 by omega, h3]
    show _ = va_E_l k 0 40 (sM0 4)
    rw [sM0_ne (by decide)]
  · show (f (n + 5)).2 = _
    rw [show n + 5 = n + 1 + 4 by omega, h4]
    show _ = va_E_l k 0 130 (sM0 5)
    rw [sM0_ne (by decide)]
  · show (f (n + 6)).2 = _
    rw [show n + 6 = n + 1 + 5 by omega, h5]
    show _ = va_E_l k 0 64 (sM0 6)
    rw [sM0_ne (by decide)]
  · show (f (n + 7)).2 = _
    rw [show n + 7 = n + 1 + 6 by omega, h6]
    show _ = va_E_l k 0 64 (sM0 7)
    rw [sM0_ne (by decide)]
  · show (f (n + 8)).2 = _
    rw [show n + 8 = n + 1 + 7 by omega, h7]
    show _ = va_E_l k 0 64 (sM0 8)
    rw [sM0_ne (by decide)]
  · show (f (n + 9)).2 = _
    rw [show n + 9 = n + 1 + 8 by omega, h8]
    show _ = va_E_l k 0 1536 (sM0 9)
    rw [sM0_ne (by decide)]
  · show (f (n + 10)).2 = _
    rw [show n + 10 = n + 1 + 9 by omega, h9]
    show _ = va_E_l k 0 128 (sM0 10)
    rw [sM0_ne (by decide)]
  · show (f (n + 11)).2 = _
    rw [show n + 11 = n + 1 + 10 by omega, h10]
    show _ = va_E_l k 1 2 (sM0 11)
    rw [sM0_ne (by decide)]
  · show (f (n + 12)).2 = _
    rw [show n + 12 = n + 1 + 11 by omega, h11]
    show _ = va_E_l k 0 7 (sM0 12)
    rw [sM0_ne (by decide)]
  · show (f (n + 13)).2 = _
    rw [show n + 13 = n + 1 + 12 by omega, h12]
    show _ = va_E_l k 0 16 (sM0 13)
    rw [sM0_ne (by decide)]
  · show (f (n + 14)).2 = _
    rw [show n + 14 = n + 1 + 13 by omega, h13]
    show _ = va_E_l k 0 7 (sM0 14)
    rw [sM0_ne (by decide)]
  · show (f (n + 15)).2 = _
    rw [show n + 15 = n + 1 + 14 by omega, h14]
    show _ = va_E_l k 0 16 (sM0 15)
    rw [sM0_ne (by decide)]
set_option maxHeartbeats 4000000 in
set_option maxRecDepth 100000 in
theorem law_start {Rel : St → St → Prop} (hO : Ops Rel) (h0 : Rel sX0 sM0) {p : Program} {e : Env} {s : State} {m : MethodId} {below : List Frame} {meth : Method} {c : Code} (l : Launch) {b L : Nat} {xs : Nat → Int32} (hL : L ≤ 384) (C0 : lw_At p s m meth c b L xs) : W p l e room_1 s m #[Value.ref b] below meth c s.heap [] 0 0 (lw_Z below #[Value.ref b] s) (entryFrame m ([Value.ref b] : List Value).toArray 4) := by
  obtain ⟨hx, hb, hr, hml, hown, hts, hX, hbl, hlocks, hgv⟩ := id C0
  obtain ⟨hAO, D, k, hK⟩ := k_words hts
  have C : Gc (p, l, e, room_1, s, m, #[Value.ref b], below, meth, c, D, k, (fun q : Nat => s.heap.size ≤ q), lw_Z below #[Value.ref b] s) RL cL_law 4 9 600000 7302250 326 := ⟨hx, hb, hml, hown, fun w h => hts w (gt_lw h), nw_of hts, rfl, hK, hAO, fun _ h => h⟩
  have key : Gs (p, l, e, room_1, s, m, #[Value.ref b], below, meth, c, D, k, (fun q : Nat => s.heap.size ≤ q), lw_Z below #[Value.ref b] s) 4 0 (fun _ => (0, .inr (0, []))) 0 0 [(0, .ref b)] 0 [] := by
    refine g_new C fc_6 gc_25 wn_6 (fs := [.null, .null, .null, .null, .null, .null, .null, .int 0]) (by decide) (by decide) (by decide) e_law_0 (fun q0 => ?_)
    refine g_dup C e_law_3 rfl ?_
    refine g_call (As := []) C (kc_PB vq_eq) rfl wk_P_init (Or.inl gc_27) ⟨by decide, by decide⟩ rfl (Nat.le_of_ble_eq_true rfl) (by decide) (by decide) e_law_4 (fun f1 hp => ?_)
    refine g_astore_n C e_law_7 (by decide) ?_
    refine g_new C fc_7 gc_26 wn_7 (fs := [.null, .null, .null, .null, .int 0, .null, .int 0, .int 0, .int 0, .int 0, .int 0, .int 0, .int 0, .null, .null, .null, .null, .int 0, .null, .null, .null, .null, .null, .null, .int 0]) (by decide) (by decide) (by decide) e_law_8 (fun q1 => ?_)
    refine g_dup C e_law_11 rfl ?_
    refine g_call (As := []) C (kc_Model (i := 217) (n := 218) (by decide) vq_eq) rfl wk_M_init (Or.inl gc_28) ⟨by decide, by decide⟩ rfl (Nat.le_of_ble_eq_true rfl) (by decide) (by decide) e_law_12 (fun f2 hq => ?_)
    refine g_astore_n C e_law_15 (by decide) ?_
    refine g_iconst C e_law_16 (v := (0 : Int32)) ic_0 ?_
    refine g_istore_n C e_law_17 (by decide) ?_
    obtain ⟨t0, t1, a0, a1, a2, a3, a4, a5, a6, a7, a8, a9, a10, a11, a12, a13, a14⟩ := hq
    have hcell := px_cell hp
    have e0 : q0 = (f1 (permX 0)).1 := by
      show q0 = (f1 0).1
      rw [hp.1]
    have e1 : q1 = (f2 (217 + 0)).1 := by
      show q1 = (f2 217).1
      rw [t1]
    have hk : ∀ i, i < 217 → f2 (permX i) = ((f1 (permX i)).1, cellX (fun i => (f1 (permX i)).1) k sX0 i) := by
      intro i hi
      have h1 := permX_lt i hi
      rw [t0 _ (by omega) (by omega), vq_ne (by omega)]
      exact Prod.ext rfl (hcell i hi)
    have hm := px_M (k := k) (f := f2) (n := 217) t1 a0 a1 a2 a3 a4 a5 a6 a7 a8 a9 a10 a11 a12 a13 a14
    intro H locs ls hl hP hD hS
    have hP1 : va_P D vwCl (wl ZX (fun i => (f1 (permX i)).1) k sX0) H := va_P.by (ws := gw (218 + 15) f2) hP permX (fun i x hx => by
      obtain ⟨hi, rfl⟩ := wl_at hx
      have h1 := permX_lt i hi
      rw [gw_get (by omega), hk i hi]
      rfl)
    have hP2 : va_P D vwCl (wl ZM (fun j => (f2 (217 + j)).1) k sM0) H := va_P.by (ws := gw (218 + 15) f2) hP (fun j => 217 + j) (fun j x hx => by
      obtain ⟨hj, rfl⟩ := wl_at hx
      have hj : j < 16 := hj
      rw [gw_get (by omega)]
      exact congrArg some (Prod.ext rfl (hm j hj)))
    have hne : ∀ i j : Nat, i < 233 → j < 233 → (f2 i).1 = (f2 j).1 → i = j := fun i j hi hj h => hD.1 i j (f2 i) (f2 j) (gw_get hi) (gw_get hj) h
    have hge : ∀ i : Nat, i < 233 → s.heap.size ≤ (f2 i).1 := fun i hi => hD.2 i (f2 i) (gw_get hi)
    have hq0 : ∀ i, i < 217 → (f1 (permX i)).1 = (f2 (permX i)).1 := fun i hi => by rw [hk i hi]
    have LL : LC (p, l, e, s, m, below, meth, c, b, L, xs, D, k, (fun i => (f1 (permX i)).1), (fun j => (f2 (217 + j)).1), 233, 4740) := by
      refine ⟨C0, hL, fun i j hi hj h => ?_, fun i j hi hj h => ?_, fun i j hi hj h => ?_, fun i hi => ?_, fun j hj => hge (217 + j) (by omega), hK, Nat.le_of_ble_eq_true rfl, Nat.le_of_ble_eq_true rfl⟩
      · have hi : i < 217 := hi
        have hj : j < 217 := hj
        have h1 := permX_lt i hi
        have h2 := permX_lt j hj
        have h : (f1 (permX i)).1 = (f1 (permX j)).1 := h
        rw [hq0 i hi, hq0 j hj] at h
        exact permX_inj i hi j hj (hne _ _ (by omega) (by omega) h)
      · have hi : i < 16 := hi
        have hj : j < 16 := hj
        have := hne (217 + i) (217 + j) (by omega) (by omega) h
        omega
      · have h1 := permX_lt i hi
        have h : (f1 (permX i)).1 = (f2 (217 + j)).1 := h
        rw [hq0 i hi] at h
        have := hne _ _ (by omega) (by omega) h
        omega
      · have h1 := permX_lt i hi
        show s.heap.size ≤ (f1 (permX i)).1
        rw [hq0 i hi]
        exact hge _ (by omega)
    subst e0
    subst e1
    exact l_loop LL hO (L + 1) 0 (Nat.zero_le _) (Nat.le_of_eq (Nat.zero_add (L + 1)).symm) sX0 sM0 h0 H locs ls (subl_has hl ⟨rfl, rfl, rfl, rfl, trivial⟩) hP1 hP2 hS
  have hl := lv_entry ([.ref b]) (n := 4) (Nat.le_of_ble_eq_true rfl)
  rw [lg_entry_eq]
  exact key s.heap [] _ hl (fun k q h => by simp [gw] at h) ⟨fun i j p q h => by simp [gw] at h, fun k q h => by simp [gw] at h⟩ va_S.rf
