theorem aoa_spec {s : State} (h : va_AOA .int s) : ∃ (c comp : ClassId) (kA : Class), s.vm.classes[c]? = some kA ∧ kA.kind = .array comp (.array .int) ∧ s.vm.findClass ("[" ++ (FieldType.array .int).toString) = some c := by
  unfold va_AOA Cond.before Cond.holds at h
  simp only [Cond.value] at h
  cases hc : s.vm.findClass (FieldType.array .int).toString with
  | none =>
    rw [hc] at h
    simp at h
  | some comp =>
    rw [hc, Option.bind_some] at h
    generalize hi : (s.vm.classes.findIdx? _) = o at h
    cases o with
    | none => simp at h
    | some c =>
      rw [Option.bind_some] at h
      cases hk : s.vm.classes[c]? with
      | none => rw [hk] at h; simp at h
      | some kA =>
        rw [hk] at h
        simp only [Option.map_some] at h
        cases hkk : kA.kind with
        | array comp' ty =>
          rw [hkk] at h
          simp at h
          exact ⟨c, comp', kA, hk, by rw [hkk, h.1], h.2⟩
        | _ => rw [hkk] at h; simp at h
theorem k_words {s : State} {a : Array Value} (hts : ∀ w ∈ lw_tbl, w.before a s = true) : AO2 s ∧ ∃ (D : va_G) (k : Nat → ClassId), va_K D vwCl (tysOf k) s := by
  have h1 : (Cond.arrayOver (.object RX1)).before a s = true := hts _ (by decide +kernel)
  have h2 : (Cond.arrayOver (.array .int)).before a s = true := hts _ (by decide +kernel)
  refine ⟨⟨va_AO.of h1, va_AOA.of h2⟩, ?_⟩
  obtain ⟨c0, i0, hK0⟩ := u_known (C := RX0) (T := TX0) (N := 3) (n := 3) hts fcin_0 (hts (.instantiable RX0 3) (by decide +kernel))
  obtain ⟨c1, i1, hK1⟩ := u_known (C := RX1) (T := TX1) (N := 12) (n := 12) hts fcin_1 (hts (.instantiable RX1 12) (by decide +kernel))
  obtain ⟨c2, i2, hK2⟩ := u_known (C := RX2) (T := TX2) (N := 2) (n := 2) hts fcin_2 (hts (.instantiable RX2 2) (by decide +kernel))
  obtain ⟨c3, i3, hK3⟩ := u_known (C := RX3) (T := TX3) (N := 3) (n := 3) hts fcin_3 (hts (.instantiable RX3 3) (by decide +kernel))
  obtain ⟨c4, i4, hK4⟩ := u_known (C := RX4) (T := TX4) (N := 6) (n := 6) hts fcin_4 (hts (.instantiable RX4 6) (by decide +kernel))
  obtain ⟨c5, i5, hK5⟩ := u_known (C := RX5) (T := TX5) (N := 3) (n := 3) hts fcin_5 (hts (.instantiable RX5 3) (by decide +kernel))
  obtain ⟨c6, i6, hK6⟩ := u_known (C := RX6) (T := TX6) (N := 8) (n := 8) hts fcin_6 (hts (.instantiable RX6 8) (by decide +kernel))
  obtain ⟨c7, i7, hK7⟩ := u_known (C := RX7) (T := TX7) (N := 25) (n := 25) hts fcin_7 (hts (.instantiable RX7 25) (by decide +kernel))
  obtain ⟨a0, ka0, m0, e00, e01, e02⟩ := Cond.arrayClass_spec (hts (.arrayClass .int) (by decide +kernel))
  obtain ⟨a1, ka1, m1, e10, e11, e12⟩ := Cond.arrayClass_spec (hts (.arrayClass .boolean) (by decide +kernel))
  obtain ⟨m2, a2, ka2, e20, -, e21, e22, e23⟩ := Cond.arrayOver_spec h1
  obtain ⟨a3, m3, ka3, e30, e31, e32⟩ := aoa_spec (va_AOA.of h2)
  refine ⟨(fun j => if j = 0 then c0 else if j = 1 then c1 else if j = 2 then c2 else if j = 3 then c3 else if j = 4 then c4 else if j = 5 then c5 else if j = 6 then c6 else c7, fun j => if j = 0 then i0 else if j = 1 then i1 else if j = 2 then i2 else if j = 3 then i3 else if j = 4 then i4 else if j = 5 then i5 else if j = 6 then i6 else i7), fun j => if j = 0 then a0 else if j = 1 then a1 else if j = 2 then a2 else a3, ?_, ?_⟩
  · intro c q hq
    match c, hq with
    | 0, hq => cases hq; exact hK0
    | 1, hq => cases hq; exact hK1
    | 2, hq => cases hq; exact hK2
    | 3, hq => cases hq; exact hK3
    | 4, hq => cases hq; exact hK4
    | 5, hq => cases hq; exact hK5
    | 6, hq => cases hq; exact hK6
    | 7, hq => cases hq; exact hK7
    | c + 8, hq => simp [vwCl] at hq
  · intro c q hq
    match c, hq with
    | 0, hq => cases hq; exact ⟨fun n z => ⟨fun k h => (by cases h), ka0, e01, m0, e02⟩, e00⟩
    | 1, hq => cases hq; exact ⟨fun n z => ⟨fun k h => (by cases h), ka1, e11, m1, e12⟩, e10⟩
    | 2, hq => cases hq; exact ⟨fun n z => ⟨fun k h => (by cases h), ka2, e21, m2, e22⟩, ka2, m2, e21, e22, e20, e23⟩
    | 3, hq => cases hq; exact ⟨fun n z => ⟨fun k h => (by cases h), ka3, e30, m3, e31⟩, e32⟩
    | c + 4, hq => simp [tysOf] at hq
