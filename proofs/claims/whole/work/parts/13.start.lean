abbrev va_E_l (k : Nat → ClassId) (c n : Nat) (g : Nat → Int32) : va_E := .inl (k c, n, .inl g)
/-! from the growing world to the two worlds -/
def sX0 : St := fun a i => if a = 2 ∧ i < 8 then -1 else 0
def sM0 : St := fun a i => if a = 1 ∧ i < 8 then -1000000 else 0
def permX (i : Nat) : Nat := if i < 15 then i else if i = 15 then 22 else if i = 16 then 30 else if i = 17 then 31 else if i = 18 then 200 else if i = 19 then 201 else if i = 20 then 202 else if i < 28 then i - 6 else if i < 35 then i - 5 else if i < 49 then i + 168 else i - 17
theorem permX_lt : ∀ i, i < 217 → permX i < 217 := by decide +kernel
theorem permX_inj : ∀ i, i < 217 → ∀ j, j < 217 → permX i = permX j → i = j := by decide +kernel
theorem sX0_ne {a : Nat} (h : a ≠ 2) : sX0 a = fun _ => 0 := by
  funext i
  simp [sX0, h]
theorem sM0_ne {a : Nat} (h : a ≠ 1) : sM0 a = fun _ => 0 := by
  funext i
  simp [sM0, h]
theorem px_board {k : Nat → ClassId} {f : Nat → Nat × va_E} {b c : Nat} (hb : isB b) (h : isBd k f c (c + 1)) (hp : ∀ j, j < 7 → permX (b + j) = c + j) : ∀ j, j < 7 → (f (permX (b + j))).2 = cellX (fun i => (f (permX i)).1) k sX0 (b + j) := by
  have hb2 : 21 ≤ b := by
    obtain ⟨j, _, rfl⟩ := hb
    omega
  have hz : ∀ j, sX0 (b + j) = fun _ => 0 := fun j => sX0_ne (by omega)
  have hz0 : sX0 b = fun _ => 0 := sX0_ne (by omega)
  obtain ⟨h0, h1, h2, h3, h4, h5, h6⟩ := h
  intro j hj
  rw [hp j hj]
  rcases (show j = 0 ∨ j = 1 ∨ j = 2 ∨ j = 3 ∨ j = 4 ∨ j = 5 ∨ j = 6 by omega) with rfl | rfl | rfl | rfl | rfl | rfl | rfl
  · show (f c).2 = ZX.2 _ _ _ b
    rw [zb hb, h0]
    unfold fsB
    dsimp only
    rw [hz0, hp 1 (by omega), hp 2 (by omega), hp 3 (by omega), hp 4 (by omega), hp 5 (by omega), hp 6 (by omega)]
  · show _ = ZX.2 _ _ _ (b + 1)
    rw [zb1 hb, hz]
    exact h1
  · show _ = ZX.2 _ _ _ (b + 2)
    rw [zb2 hb, hz]
    exact h2
  · show _ = ZX.2 _ _ _ (b + 3)
    rw [zb3 hb, hz]
    exact h3
  · show _ = ZX.2 _ _ _ (b + 4)
    rw [zb4 hb, hz]
    exact h4
  · show _ = ZX.2 _ _ _ (b + 5)
    rw [zb5 hb, hz]
    exact h5
  · show _ = ZX.2 _ _ _ (b + 6)
    rw [zb6 hb, hz]
    exact h6
theorem px_at {b : Nat} {k : Nat → ClassId} {f : Nat → Nat × va_E} (h : ∀ j, j < 7 → (f (permX (b + j))).2 = cellX (fun i => (f (permX i)).1) k sX0 (b + j)) {i : Nat} (h1 : b ≤ i) (h2 : i < b + 7) : (f (permX i)).2 = cellX (fun i => (f (permX i)).1) k sX0 i := by
  have := h (i - b) (by omega)
  rw [show b + (i - b) = i by omega] at this
  exact this
theorem px_cell {k : Nat → ClassId} {a : Nat} {f : Nat → Nat × va_E} (h : PBp k a f) : ∀ i, i < 217 → (f (permX i)).2 = cellX (fun i => (f (permX i)).1) k sX0 i := by
  obtain ⟨p0, p1, p2, p3, p4, p5, p13, p14, p15, p22, p23, p30, p31, p32, p200, p201, p202, p203, p210⟩ := h
  intro i hi
  by_cases h21 : i < 21
  · rcases (show i = 0 ∨ i = 1 ∨ i = 2 ∨ i = 3 ∨ i = 4 ∨ (5 ≤ i ∧ i < 13) ∨ i = 13 ∨ i = 14 ∨ i = 15 ∨ i = 16 ∨ i = 17 ∨ i = 18 ∨ i = 19 ∨ i = 20 by omega) with rfl | rfl | rfl | rfl | rfl | h5 | rfl | rfl | rfl | rfl | rfl | rfl | rfl | rfl
    · show (f 0).2 = _
      rw [p0]
      rfl
    · show (f 1).2 = _
      rw [p1]
      rfl
    · show (f 2).2 = _
      rw [p2]
      show _ = va_E_l k 0 8 (sX0 2)
      refine congrArg (fun z => va_E_l k 0 8 z) (funext fun u => ?_)
      simp [sX0]
    · show (f 3).2 = _
      rw [p3]
      show _ = va_E_l k 0 8 (sX0 3)
      rw [sX0_ne (by decide)]
    · show (f 4).2 = _
      rw [p4]
      show _ = (Sum.inl (k 3, 8, Sum.inr (Sum.inr (Sum.inr (Sum.inr (fun j => if j < 8 then some (f (permX (gIt j))).1 else none))))) : va_E)
      refine congrArg (fun z => (Sum.inl (k 3, 8, Sum.inr (Sum.inr (Sum.inr (Sum.inr z)))) : va_E)) (funext fun u => ?_)
      by_cases hu : u < 8
      · rw [if_pos hu, if_pos hu]
        have e : permX (gIt u) = 5 + u := by
          unfold permX gIt
          rw [if_pos (by omega)]
        rw [e]
      · rw [if_neg hu, if_neg hu]
    · have e : permX i = 5 + (i - 5) := by
        unfold permX
        rw [if_pos (by omega)]
        omega
      rw [e, p5 (i - 5) (by omega)]
      show _ = ZX.2 _ k sX0 i
      rw [zi (show isI i from h5), sX0_ne (by omega)]
    · show (f 13).2 = _
      rw [p13]
      rfl
    · show (f 14).2 = _
      rw [p14]
      show _ = va_E_l k 0 130 (sX0 14)
      rw [sX0_ne (by decide)]
    · show (f 22).2 = _
      rw [p22]
      rfl
    · show (f 30).2 = _
      rw [p30]
      rfl
    · show (f 31).2 = _
      rw [p31]
      show _ = (Sum.inl (k 2, 24, Sum.inr (Sum.inr (Sum.inr (Sum.inr (fun j => if j < 24 then some (f (permX (gPast j))).1 else none))))) : va_E)
      refine congrArg (fun z => (Sum.inl (k 2, 24, Sum.inr (Sum.inr (Sum.inr (Sum.inr z)))) : va_E)) (funext fun u => ?_)
      by_cases hu : u < 24
      · rw [if_pos hu, if_pos hu]
        have e : permX (gPast u) = 32 + 7 * u := by
          unfold permX gPast
          rw [if_neg (by omega), if_neg (by omega), if_neg (by omega), if_neg (by omega), if_neg (by omega), if_neg (by omega), if_neg (by omega), if_neg (by omega), if_neg (by omega), if_neg (by omega)]
          omega
        rw [e]
      · rw [if_neg hu, if_neg hu]
    · show (f 200).2 = _
      rw [p200]
      rfl
    · show (f 201).2 = _
      rw [p201]
      show _ = va_E_l k 0 16 (sX0 19)
      rw [sX0_ne (by decide)]
    · show (f 202).2 = _
      rw [p202]
      show _ = (Sum.inl (k 2, 2, Sum.inr (Sum.inr (Sum.inr (Sum.inr (fun j => if j < 2 then some (f (permX (gImg j))).1 else none))))) : va_E)
      refine congrArg (fun z => (Sum.inl (k 2, 2, Sum.inr (Sum.inr (Sum.inr (Sum.inr z)))) : va_E)) (funext fun u => ?_)
      by_cases hu : u < 2
      · rw [if_pos hu, if_pos hu]
        have e : permX (gImg u) = 203 + 7 * u := by
          rcases (show u = 0 ∨ u = 1 by omega) with rfl | rfl <;> rfl
        rw [e]
      · rw [if_neg hu, if_neg hu]
  · by_cases h28 : i < 28
    · exact px_at (b := 21) (px_board hb21 p15 (by decide)) (by omega) (by omega)
    · by_cases h35 : i < 35
      · exact px_at (b := 28) (px_board hb28 p23 (by decide)) (by omega) (by omega)
      · by_cases h42 : i < 42
        · exact px_at (b := 35) (px_board (hb_img (j := 0) (by decide)) p203 (by decide)) (by omega) (by omega)
        · by_cases h49 : i < 49
          · exact px_at (b := 42) (px_board (hb_img (j := 1) (by decide)) p210 (by decide)) (by omega) (by omega)
          · have hu : (i - 49) / 7 < 24 := by omega
            have hpp : ∀ j, j < 7 → permX (gPast ((i - 49) / 7) + j) = 32 + 7 * ((i - 49) / 7) + j := by
              intro j hj
              unfold permX gPast
              rw [if_neg (by omega), if_neg (by omega), if_neg (by omega), if_neg (by omega), if_neg (by omega), if_neg (by omega), if_neg (by omega), if_neg (by omega), if_neg (by omega), if_neg (by omega)]
              omega
            refine px_at (b := gPast ((i - 49) / 7)) (px_board (hb_past hu) ?_ hpp) (by unfold gPast; omega) (by unfold gPast; omega)
            have := p32 _ hu
            rw [show 33 + 7 * ((i - 49) / 7) = 32 + 7 * ((i - 49) / 7) + 1 by omega] at this
            exact this
