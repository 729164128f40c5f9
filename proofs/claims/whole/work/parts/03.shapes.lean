/-! the shapes: the class's 217 cells, the reference's 16 -/
def isB (b : Nat) : Prop := ∃ j, j < 28 ∧ b = 21 + 7 * j
def isI (a : Nat) : Prop := 5 ≤ a ∧ a < 13
def isA (a : Nat) : Prop := 1 ≤ a ∧ a < 16 ∧ a ≠ 11
def gIt (j : Nat) : Nat := 5 + j
def gImg (j : Nat) : Nat := 35 + 7 * j
def gPast (j : Nat) : Nat := 49 + 7 * j
def fsB (q : Nat → Nat) (σ : St) (b : Nat) : List Value := [.int (σ b 0), .int (σ b 1), .int (σ b 2), .int (σ b 3), .int (σ b 4), .int (σ b 5), .ref (q (b + 1)), .ref (q (b + 2)), .ref (q (b + 3)), .ref (q (b + 4)), .ref (q (b + 5)), .ref (q (b + 6))]
def fsX0 (q : Nat → Nat) (σ : St) : List Value := [.ref (q 1), .ref (q 13), .ref (q 21), .ref (q 15), .ref (q 16), .ref (q 18), .ref (q 20), .int (σ 0 7)]
def fsX1 (q : Nat → Nat) (σ : St) : List Value := [.ref (q 2), .ref (q 3), .ref (q 4)]
def fsX13 (q : Nat → Nat) (σ : St) : List Value := [.ref (q 14), .int (σ 13 1), .int (σ 13 2), .int (σ 13 3), .int (σ 13 4), .int (σ 13 5)]
def fsX15 (q : Nat → Nat) (σ : St) : List Value := [.ref (q 28), .ref (q 21)]
def fsX16 (q : Nat → Nat) (σ : St) : List Value := [.int (σ 16 0), .int (σ 16 1), .ref (q 17)]
def fsX18 (q : Nat → Nat) (σ : St) : List Value := [.ref (q 19), .int (σ 18 1), .ref (q 21)]
def fsM (q : Nat → Nat) (σ : St) : List Value := [.ref (q 1), .ref (q 2), .ref (q 3), .ref (q 4), .int (σ 0 4), .ref (q 5), .int (σ 0 6), .int (σ 0 7), .int (σ 0 8), .int (σ 0 9), .int (σ 0 10), .int (σ 0 11), .int (σ 0 12), .ref (q 6), .ref (q 7), .ref (q 8), .ref (q 9), .int (σ 0 17), .ref (q 10), .ref (q 11), .ref (q 12), .ref (q 13), .ref (q 14), .ref (q 15), .int (σ 0 24)]
def cellX (q : Nat → Nat) (k : Nat → ClassId) (σ : St) (i : Nat) : va_E :=
  if 21 ≤ i then (if (i - 21) % 7 = 0 then .inr (1, fsB q σ i) else if (i - 21) % 7 = 1 then .inl (k 0, 16, .inl (σ i)) else .inl (k 0, 7, .inl (σ i)))
  else if 5 ≤ i ∧ i < 13 then .inl (k 0, 40, .inl (σ i))
  else match i with
  | 0 => .inr (6, fsX0 q σ)
  | 1 => .inr (5, fsX1 q σ)
  | 13 => .inr (4, fsX13 q σ)
  | 15 => .inr (2, fsX15 q σ)
  | 16 => .inr (3, fsX16 q σ)
  | 18 => .inr (0, fsX18 q σ)
  | 2 => .inl (k 0, 8, .inl (σ 2))
  | 3 => .inl (k 0, 8, .inl (σ 3))
  | 4 => .inl (k 3, 8, .inr (.inr (.inr (.inr (fun j => if j < 8 then some (q (gIt j)) else none)))))
  | 14 => .inl (k 0, 130, .inl (σ 14))
  | 17 => .inl (k 2, 24, .inr (.inr (.inr (.inr (fun j => if j < 24 then some (q (gPast j)) else none)))))
  | 19 => .inl (k 0, 16, .inl (σ 19))
  | _ => .inl (k 2, 2, .inr (.inr (.inr (.inr (fun j => if j < 2 then some (q (gImg j)) else none)))))
def ZX : Sh := (217, cellX)
def lenM (i : Nat) : Nat := match i with
  | 1 => 8
  | 2 => 8
  | 3 => 320
  | 4 => 40
  | 5 => 130
  | 6 => 64
  | 7 => 64
  | 8 => 64
  | 9 => 1536
  | 10 => 128
  | 11 => 2
  | 12 => 7
  | 13 => 16
  | 14 => 7
  | _ => 16
def cellM (q : Nat → Nat) (k : Nat → ClassId) (σ : St) (i : Nat) : va_E := if i = 0 then .inr (7, fsM q σ) else if i = 11 then .inl (k 1, 2, .inl (σ 11)) else .inl (k 0, lenM i, .inl (σ i))
def ZM : Sh := (16, cellM)
theorem lcX : Lc ZX := by
  intro q k σ σ' i h
  show cellX q k σ i = cellX q k σ' i
  unfold cellX
  by_cases h1 : 21 ≤ i
  · rw [if_pos h1, if_pos h1]
    unfold fsB
    rw [h]
  · rw [if_neg h1, if_neg h1]
    by_cases h2 : 5 ≤ i ∧ i < 13
    · rw [if_pos h2, if_pos h2, h]
    · rw [if_neg h2, if_neg h2]
      split <;> first | rfl | rw [h] | (simp only [fsX0, fsX1, fsX13, fsX15, fsX16, fsX18]; rw [h])
theorem lcM : Lc ZM := by
  intro q k σ σ' i h
  show cellM q k σ i = cellM q k σ' i
  unfold cellM
  by_cases h1 : i = 0
  · subst h1
    rw [if_pos rfl, if_pos rfl]
    unfold fsM
    rw [h]
  · rw [if_neg h1, if_neg h1]
    by_cases h2 : i = 11
    · subst h2
      rw [if_pos rfl, if_pos rfl, h]
    · rw [if_neg h2, if_neg h2, h]
theorem zx_lt_0 : 0 < ZX.1 := by decide
theorem zx_lt_1 : 1 < ZX.1 := by decide
theorem zx_lt_13 : 13 < ZX.1 := by decide
theorem zx_lt_15 : 15 < ZX.1 := by decide
theorem zx_lt_16 : 16 < ZX.1 := by decide
theorem zx_lt_18 : 18 < ZX.1 := by decide
theorem zx_lt_2 : 2 < ZX.1 := by decide
theorem zx_lt_3 : 3 < ZX.1 := by decide
theorem zx_lt_4 : 4 < ZX.1 := by decide
theorem zx_lt_14 : 14 < ZX.1 := by decide
theorem zx_lt_17 : 17 < ZX.1 := by decide
theorem zx_lt_19 : 19 < ZX.1 := by decide
theorem zx_lt_20 : 20 < ZX.1 := by decide
theorem zx_0 (q : Nat → Nat) (k : Nat → ClassId) (σ : St) : ZX.2 q k σ 0 = .inr (6, fsX0 q σ) := rfl
theorem zxp_0_7 (q : Nat → Nat) (k : Nat → ClassId) (σ : St) (v : Int32) : ZX.2 q k (up σ 0 7 v) 0 = .inr (6, (fsX0 q σ).set 7 (.int v)) := rfl
theorem zx_1 (q : Nat → Nat) (k : Nat → ClassId) (σ : St) : ZX.2 q k σ 1 = .inr (5, fsX1 q σ) := rfl
theorem zx_13 (q : Nat → Nat) (k : Nat → ClassId) (σ : St) : ZX.2 q k σ 13 = .inr (4, fsX13 q σ) := rfl
theorem zxp_13_1 (q : Nat → Nat) (k : Nat → ClassId) (σ : St) (v : Int32) : ZX.2 q k (up σ 13 1 v) 13 = .inr (4, (fsX13 q σ).set 1 (.int v)) := rfl
theorem zxp_13_2 (q : Nat → Nat) (k : Nat → ClassId) (σ : St) (v : Int32) : ZX.2 q k (up σ 13 2 v) 13 = .inr (4, (fsX13 q σ).set 2 (.int v)) := rfl
theorem zxp_13_3 (q : Nat → Nat) (k : Nat → ClassId) (σ : St) (v : Int32) : ZX.2 q k (up σ 13 3 v) 13 = .inr (4, (fsX13 q σ).set 3 (.int v)) := rfl
theorem zxp_13_4 (q : Nat → Nat) (k : Nat → ClassId) (σ : St) (v : Int32) : ZX.2 q k (up σ 13 4 v) 13 = .inr (4, (fsX13 q σ).set 4 (.int v)) := rfl
theorem zxp_13_5 (q : Nat → Nat) (k : Nat → ClassId) (σ : St) (v : Int32) : ZX.2 q k (up σ 13 5 v) 13 = .inr (4, (fsX13 q σ).set 5 (.int v)) := rfl
theorem zx_15 (q : Nat → Nat) (k : Nat → ClassId) (σ : St) : ZX.2 q k σ 15 = .inr (2, fsX15 q σ) := rfl
theorem zx_16 (q : Nat → Nat) (k : Nat → ClassId) (σ : St) : ZX.2 q k σ 16 = .inr (3, fsX16 q σ) := rfl
theorem zxp_16_0 (q : Nat → Nat) (k : Nat → ClassId) (σ : St) (v : Int32) : ZX.2 q k (up σ 16 0 v) 16 = .inr (3, (fsX16 q σ).set 0 (.int v)) := rfl
theorem zxp_16_1 (q : Nat → Nat) (k : Nat → ClassId) (σ : St) (v : Int32) : ZX.2 q k (up σ 16 1 v) 16 = .inr (3, (fsX16 q σ).set 1 (.int v)) := rfl
theorem zx_18 (q : Nat → Nat) (k : Nat → ClassId) (σ : St) : ZX.2 q k σ 18 = .inr (0, fsX18 q σ) := rfl
theorem zxp_18_1 (q : Nat → Nat) (k : Nat → ClassId) (σ : St) (v : Int32) : ZX.2 q k (up σ 18 1 v) 18 = .inr (0, (fsX18 q σ).set 1 (.int v)) := rfl
theorem zx_2 {q : Nat → Nat} {k : Nat → ClassId} (σ : St) : ZX.2 q k σ 2 = .inl (k 0, 8, .inl (σ 2)) := rfl
theorem zx_3 {q : Nat → Nat} {k : Nat → ClassId} (σ : St) : ZX.2 q k σ 3 = .inl (k 0, 8, .inl (σ 3)) := rfl
theorem zx_14 {q : Nat → Nat} {k : Nat → ClassId} (σ : St) : ZX.2 q k σ 14 = .inl (k 0, 130, .inl (σ 14)) := rfl
theorem zx_19 {q : Nat → Nat} {k : Nat → ClassId} (σ : St) : ZX.2 q k σ 19 = .inl (k 0, 16, .inl (σ 19)) := rfl
theorem zx_4 (q : Nat → Nat) (k : Nat → ClassId) (σ : St) : ZX.2 q k σ 4 = .inl (k 3, 8, .inr (.inr (.inr (.inr (fun j => if j < 8 then some (q (gIt j)) else none))))) := rfl
theorem zxf_4 {q : Nat → Nat} : ∀ j, j < 8 → (fun j => if j < 8 then some (q (gIt j)) else none) j = some (q (gIt j)) := fun j h => if_pos h
theorem zx_17 (q : Nat → Nat) (k : Nat → ClassId) (σ : St) : ZX.2 q k σ 17 = .inl (k 2, 24, .inr (.inr (.inr (.inr (fun j => if j < 24 then some (q (gPast j)) else none))))) := rfl
theorem zxf_17 {q : Nat → Nat} : ∀ j, j < 24 → (fun j => if j < 24 then some (q (gPast j)) else none) j = some (q (gPast j)) := fun j h => if_pos h
theorem zx_20 (q : Nat → Nat) (k : Nat → ClassId) (σ : St) : ZX.2 q k σ 20 = .inl (k 2, 2, .inr (.inr (.inr (.inr (fun j => if j < 2 then some (q (gImg j)) else none))))) := rfl
theorem zxf_20 {q : Nat → Nat} : ∀ j, j < 2 → (fun j => if j < 2 then some (q (gImg j)) else none) j = some (q (gImg j)) := fun j h => if_pos h
theorem zi_lt {a : Nat} (h : isI a) : a < ZX.1 := by
  unfold isI at h
  show a < 217
  omega
theorem zi {a : Nat} (h : isI a) {q : Nat → Nat} {k : Nat → ClassId} (σ : St) : ZX.2 q k σ a = .inl (k 0, 40, .inl (σ a)) := by
  show cellX q k σ a = _
  unfold isI at h
  unfold cellX
  rw [if_neg (by omega), if_pos (by omega)]
theorem isI_g {j : Nat} (h : j < 8) : isI (gIt j) := by
  unfold isI gIt
  omega
theorem hb_img {j : Nat} (h : j < 2) : isB (gImg j) := ⟨2 + j, by omega, by unfold gImg; omega⟩
theorem hb_past {j : Nat} (h : j < 24) : isB (gPast j) := ⟨4 + j, by omega, by unfold gPast; omega⟩
theorem hb21 : isB 21 := ⟨0, by omega, by omega⟩
theorem hb28 : isB 28 := ⟨1, by omega, by omega⟩
theorem zb_lt {b : Nat} (h : isB b) : b < ZX.1 := by
  obtain ⟨j, h1, rfl⟩ := h
  show _ < 217
  omega
theorem zb {b : Nat} (h : isB b) (q : Nat → Nat) (k : Nat → ClassId) (σ : St) : ZX.2 q k σ b = .inr (1, fsB q σ b) := by
  obtain ⟨j, h1, rfl⟩ := h
  show cellX q k σ _ = _
  unfold cellX
  rw [if_pos (by omega), if_pos (by omega)]
theorem zbp_0 {b : Nat} (h : isB b) (q : Nat → Nat) (k : Nat → ClassId) (σ : St) (v : Int32) : ZX.2 q k (up σ b 0 v) b = .inr (1, (fsB q σ b).set 0 (.int v)) := by
  rw [zb h]
  simp [fsB, up]
theorem zbp_1 {b : Nat} (h : isB b) (q : Nat → Nat) (k : Nat → ClassId) (σ : St) (v : Int32) : ZX.2 q k (up σ b 1 v) b = .inr (1, (fsB q σ b).set 1 (.int v)) := by
  rw [zb h]
  simp [fsB, up]
theorem zbp_2 {b : Nat} (h : isB b) (q : Nat → Nat) (k : Nat → ClassId) (σ : St) (v : Int32) : ZX.2 q k (up σ b 2 v) b = .inr (1, (fsB q σ b).set 2 (.int v)) := by
  rw [zb h]
  simp [fsB, up]
theorem zbp_3 {b : Nat} (h : isB b) (q : Nat → Nat) (k : Nat → ClassId) (σ : St) (v : Int32) : ZX.2 q k (up σ b 3 v) b = .inr (1, (fsB q σ b).set 3 (.int v)) := by
  rw [zb h]
  simp [fsB, up]
theorem zbp_4 {b : Nat} (h : isB b) (q : Nat → Nat) (k : Nat → ClassId) (σ : St) (v : Int32) : ZX.2 q k (up σ b 4 v) b = .inr (1, (fsB q σ b).set 4 (.int v)) := by
  rw [zb h]
  simp [fsB, up]
theorem zbp_5 {b : Nat} (h : isB b) (q : Nat → Nat) (k : Nat → ClassId) (σ : St) (v : Int32) : ZX.2 q k (up σ b 5 v) b = .inr (1, (fsB q σ b).set 5 (.int v)) := by
  rw [zb h]
  simp [fsB, up]
theorem zb1_lt {b : Nat} (h : isB b) : b + 1 < ZX.1 := by
  obtain ⟨j, h1, rfl⟩ := h
  show _ < 217
  omega
theorem zb1 {b : Nat} (h : isB b) {q : Nat → Nat} {k : Nat → ClassId} (σ : St) : ZX.2 q k σ (b + 1) = .inl (k 0, 16, .inl (σ (b + 1))) := by
  obtain ⟨j, h1, rfl⟩ := h
  show cellX q k σ _ = _
  unfold cellX
  rw [if_pos (by omega), if_neg (by omega), if_pos (by omega)]
theorem zb2_lt {b : Nat} (h : isB b) : b + 2 < ZX.1 := by
  obtain ⟨j, h1, rfl⟩ := h
  show _ < 217
  omega
theorem zb2 {b : Nat} (h : isB b) {q : Nat → Nat} {k : Nat → ClassId} (σ : St) : ZX.2 q k σ (b + 2) = .inl (k 0, 7, .inl (σ (b + 2))) := by
  obtain ⟨j, h1, rfl⟩ := h
  show cellX q k σ _ = _
  unfold cellX
  rw [if_pos (by omega), if_neg (by omega), if_neg (by omega)]
theorem zb3_lt {b : Nat} (h : isB b) : b + 3 < ZX.1 := by
  obtain ⟨j, h1, rfl⟩ := h
  show _ < 217
  omega
theorem zb3 {b : Nat} (h : isB b) {q : Nat → Nat} {k : Nat → ClassId} (σ : St) : ZX.2 q k σ (b + 3) = .inl (k 0, 7, .inl (σ (b + 3))) := by
  obtain ⟨j, h1, rfl⟩ := h
  show cellX q k σ _ = _
  unfold cellX
  rw [if_pos (by omega), if_neg (by omega), if_neg (by omega)]
theorem zb4_lt {b : Nat} (h : isB b) : b + 4 < ZX.1 := by
  obtain ⟨j, h1, rfl⟩ := h
  show _ < 217
  omega
theorem zb4 {b : Nat} (h : isB b) {q : Nat → Nat} {k : Nat → ClassId} (σ : St) : ZX.2 q k σ (b + 4) = .inl (k 0, 7, .inl (σ (b + 4))) := by
  obtain ⟨j, h1, rfl⟩ := h
  show cellX q k σ _ = _
  unfold cellX
  rw [if_pos (by omega), if_neg (by omega), if_neg (by omega)]
theorem zb5_lt {b : Nat} (h : isB b) : b + 5 < ZX.1 := by
  obtain ⟨j, h1, rfl⟩ := h
  show _ < 217
  omega
theorem zb5 {b : Nat} (h : isB b) {q : Nat → Nat} {k : Nat → ClassId} (σ : St) : ZX.2 q k σ (b + 5) = .inl (k 0, 7, .inl (σ (b + 5))) := by
  obtain ⟨j, h1, rfl⟩ := h
  show cellX q k σ _ = _
  unfold cellX
  rw [if_pos (by omega), if_neg (by omega), if_neg (by omega)]
theorem zb6_lt {b : Nat} (h : isB b) : b + 6 < ZX.1 := by
  obtain ⟨j, h1, rfl⟩ := h
  show _ < 217
  omega
theorem zb6 {b : Nat} (h : isB b) {q : Nat → Nat} {k : Nat → ClassId} (σ : St) : ZX.2 q k σ (b + 6) = .inl (k 0, 7, .inl (σ (b + 6))) := by
  obtain ⟨j, h1, rfl⟩ := h
  show cellX q k σ _ = _
  unfold cellX
  rw [if_pos (by omega), if_neg (by omega), if_neg (by omega)]
theorem zm_lt_0 : 0 < ZM.1 := by decide
theorem zm_0 (q : Nat → Nat) (k : Nat → ClassId) (σ : St) : ZM.2 q k σ 0 = .inr (7, fsM q σ) := rfl
theorem zmp_4 (q : Nat → Nat) (k : Nat → ClassId) (σ : St) (v : Int32) : ZM.2 q k (up σ 0 4 v) 0 = .inr (7, (fsM q σ).set 4 (.int v)) := rfl
theorem zmp_6 (q : Nat → Nat) (k : Nat → ClassId) (σ : St) (v : Int32) : ZM.2 q k (up σ 0 6 v) 0 = .inr (7, (fsM q σ).set 6 (.int v)) := rfl
theorem zmp_7 (q : Nat → Nat) (k : Nat → ClassId) (σ : St) (v : Int32) : ZM.2 q k (up σ 0 7 v) 0 = .inr (7, (fsM q σ).set 7 (.int v)) := rfl
theorem zmp_8 (q : Nat → Nat) (k : Nat → ClassId) (σ : St) (v : Int32) : ZM.2 q k (up σ 0 8 v) 0 = .inr (7, (fsM q σ).set 8 (.int v)) := rfl
theorem zmp_9 (q : Nat → Nat) (k : Nat → ClassId) (σ : St) (v : Int32) : ZM.2 q k (up σ 0 9 v) 0 = .inr (7, (fsM q σ).set 9 (.int v)) := rfl
theorem zmp_10 (q : Nat → Nat) (k : Nat → ClassId) (σ : St) (v : Int32) : ZM.2 q k (up σ 0 10 v) 0 = .inr (7, (fsM q σ).set 10 (.int v)) := rfl
theorem zmp_11 (q : Nat → Nat) (k : Nat → ClassId) (σ : St) (v : Int32) : ZM.2 q k (up σ 0 11 v) 0 = .inr (7, (fsM q σ).set 11 (.int v)) := rfl
theorem zmp_12 (q : Nat → Nat) (k : Nat → ClassId) (σ : St) (v : Int32) : ZM.2 q k (up σ 0 12 v) 0 = .inr (7, (fsM q σ).set 12 (.int v)) := rfl
theorem zmp_17 (q : Nat → Nat) (k : Nat → ClassId) (σ : St) (v : Int32) : ZM.2 q k (up σ 0 17 v) 0 = .inr (7, (fsM q σ).set 17 (.int v)) := rfl
theorem zmp_24 (q : Nat → Nat) (k : Nat → ClassId) (σ : St) (v : Int32) : ZM.2 q k (up σ 0 24 v) 0 = .inr (7, (fsM q σ).set 24 (.int v)) := rfl
theorem zm_lt_11 : 11 < ZM.1 := by decide
theorem zm_11 {q : Nat → Nat} {k : Nat → ClassId} (σ : St) : ZM.2 q k σ 11 = .inl (k 1, 2, .inl (σ 11)) := rfl
theorem za_lt {a : Nat} (h : isA a) : a < ZM.1 := h.2.1
theorem za {a : Nat} (h : isA a) {q : Nat → Nat} {k : Nat → ClassId} (σ : St) : ZM.2 q k σ a = .inl (k 0, lenM a, .inl (σ a)) := by
  show cellM q k σ a = _
  unfold cellM
  rw [if_neg (by have := h.1; omega), if_neg h.2.2]
theorem isA1 : isA 1 := ⟨by decide, by decide, by decide⟩
theorem isA2 : isA 2 := ⟨by decide, by decide, by decide⟩
theorem isA3 : isA 3 := ⟨by decide, by decide, by decide⟩
theorem isA4 : isA 4 := ⟨by decide, by decide, by decide⟩
theorem isA5 : isA 5 := ⟨by decide, by decide, by decide⟩
theorem isA6 : isA 6 := ⟨by decide, by decide, by decide⟩
theorem isA7 : isA 7 := ⟨by decide, by decide, by decide⟩
theorem isA8 : isA 8 := ⟨by decide, by decide, by decide⟩
theorem isA9 : isA 9 := ⟨by decide, by decide, by decide⟩
theorem isA10 : isA 10 := ⟨by decide, by decide, by decide⟩
theorem isA12 : isA 12 := ⟨by decide, by decide, by decide⟩
theorem isA13 : isA 13 := ⟨by decide, by decide, by decide⟩
theorem isA14 : isA 14 := ⟨by decide, by decide, by decide⟩
theorem isA15 : isA 15 := ⟨by decide, by decide, by decide⟩
theorem fcin_0 : ∀ w ∈ u_ws RX0 TX0 3, w ∈ lw_tbl := by decide +kernel
theorem fcgd_0 : (u_ws RX0 TX0 3).all goodWord = true := by decide +kernel
theorem fc_0 : FC 0 RX0 TX0 3 tyX0 := ⟨fun w h => gt_of (fcin_0 w h) (List.all_eq_true.mp fcgd_0 w h), rfl, tyX0_ok, nmX0⟩
theorem fcin_1 : ∀ w ∈ u_ws RX1 TX1 12, w ∈ lw_tbl := by decide +kernel
theorem fcgd_1 : (u_ws RX1 TX1 12).all goodWord = true := by decide +kernel
theorem fc_1 : FC 1 RX1 TX1 12 tyX1 := ⟨fun w h => gt_of (fcin_1 w h) (List.all_eq_true.mp fcgd_1 w h), rfl, tyX1_ok, nmX1⟩
theorem fcin_2 : ∀ w ∈ u_ws RX2 TX2 2, w ∈ lw_tbl := by decide +kernel
theorem fcgd_2 : (u_ws RX2 TX2 2).all goodWord = true := by decide +kernel
theorem fc_2 : FC 2 RX2 TX2 2 tyX2 := ⟨fun w h => gt_of (fcin_2 w h) (List.all_eq_true.mp fcgd_2 w h), rfl, tyX2_ok, nmX2⟩
theorem fcin_3 : ∀ w ∈ u_ws RX3 TX3 3, w ∈ lw_tbl := by decide +kernel
theorem fcgd_3 : (u_ws RX3 TX3 3).all goodWord = true := by decide +kernel
theorem fc_3 : FC 3 RX3 TX3 3 tyX3 := ⟨fun w h => gt_of (fcin_3 w h) (List.all_eq_true.mp fcgd_3 w h), rfl, tyX3_ok, nmX3⟩
theorem fcin_4 : ∀ w ∈ u_ws RX4 TX4 6, w ∈ lw_tbl := by decide +kernel
theorem fcgd_4 : (u_ws RX4 TX4 6).all goodWord = true := by decide +kernel
theorem fc_4 : FC 4 RX4 TX4 6 tyX4 := ⟨fun w h => gt_of (fcin_4 w h) (List.all_eq_true.mp fcgd_4 w h), rfl, tyX4_ok, nmX4⟩
theorem fcin_5 : ∀ w ∈ u_ws RX5 TX5 3, w ∈ lw_tbl := by decide +kernel
theorem fcgd_5 : (u_ws RX5 TX5 3).all goodWord = true := by decide +kernel
theorem fc_5 : FC 5 RX5 TX5 3 tyX5 := ⟨fun w h => gt_of (fcin_5 w h) (List.all_eq_true.mp fcgd_5 w h), rfl, tyX5_ok, nmX5⟩
theorem fcin_6 : ∀ w ∈ u_ws RX6 TX6 8, w ∈ lw_tbl := by decide +kernel
theorem fcgd_6 : (u_ws RX6 TX6 8).all goodWord = true := by decide +kernel
theorem fc_6 : FC 6 RX6 TX6 8 tyX6 := ⟨fun w h => gt_of (fcin_6 w h) (List.all_eq_true.mp fcgd_6 w h), rfl, tyX6_ok, nmX6⟩
theorem fcin_7 : ∀ w ∈ u_ws RX7 TX7 25, w ∈ lw_tbl := by decide +kernel
theorem fcgd_7 : (u_ws RX7 TX7 25).all goodWord = true := by decide +kernel
theorem fc_7 : FC 7 RX7 TX7 25 tyX7 := ⟨fun w h => gt_of (fcin_7 w h) (List.all_eq_true.mp fcgd_7 w h), rfl, tyX7_ok, nmX7⟩
def FU : Nat := 2000
theorem ic_m1 : Int32.ofInt (-1) = (-1 : Int32) := by decide
theorem ic_0 : Int32.ofInt (0) = (0 : Int32) := by decide
theorem ic_1 : Int32.ofInt (1) = (1 : Int32) := by decide
theorem ic_2 : Int32.ofInt (2) = (2 : Int32) := by decide
theorem ic_3 : Int32.ofInt (3) = (3 : Int32) := by decide
theorem ic_4 : Int32.ofInt (4) = (4 : Int32) := by decide
theorem ic_5 : Int32.ofInt (5) = (5 : Int32) := by decide
theorem ne_i {x v : Int32} {z : Int} (hz : v.toInt = z) (h : ¬ x = v) : x.toInt ≠ z := fun e => h (Int32.toInt_inj.mp (e.trans hz.symm))
