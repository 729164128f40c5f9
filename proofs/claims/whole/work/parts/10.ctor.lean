/-! constructors: a world that grows, told as n cells f 0 .. f (n - 1) -/
def gw (n : Nat) (f : Nat → Nat × va_E) : va_W := (List.range n).map f
theorem gw_get {n : Nat} {f : Nat → Nat × va_E} {i : Nat} (h : i < n) : (gw n f)[i]? = some (f i) := by simp [gw, h]
theorem gw_at {n : Nat} {f : Nat → Nat × va_E} {i : Nat} {x : Nat × va_E} (h : (gw n f)[i]? = some x) : i < n ∧ x = f i := by
  have hl := (List.getElem?_eq_some_iff.mp h).1
  simp [gw] at hl
  rw [gw_get hl] at h
  exact ⟨hl, (Option.some.inj h).symm⟩
theorem gw_push (n : Nat) (f : Nat → Nat × va_E) (x : Nat × va_E) : gw n f ++ [x] = gw (n + 1) (va_up f n x) := by
  unfold gw
  rw [List.range_succ, List.map_append]
  congr 1
  · apply List.map_congr_left
    intro a ha
    have := List.mem_range.mp ha
    simp [va_up, show a ≠ n by omega]
  · simp [va_up]
theorem gw_set {n : Nat} {f : Nat → Nat × va_E} {i : Nat} (x : Nat × va_E) (h : i < n) : (gw n f).set i x = gw n (va_up f i x) := by
  apply List.ext_getElem?
  intro j
  by_cases hj : j = i
  · subst hj
    rw [List.getElem?_set_self (by simpa [gw] using h), gw_get h]
    simp [va_up]
  · rw [List.getElem?_set_ne (Ne.symm hj)]
    by_cases hl : j < n
    · rw [gw_get hl, gw_get hl]
      simp [va_up, hj]
    · rw [List.getElem?_eq_none (by simp [gw]; omega), List.getElem?_eq_none (by simp [gw]; omega)]
def va_AOA (ty : FieldType) (U : State) : Prop := (Cond.arrayOver (.array ty)).before #[] U = true
theorem va_AOA.use {ty : FieldType} {A : Array Value} {U : State} (h : va_AOA ty U) : (Cond.arrayOver (.array ty)).before A U = true := h
theorem va_AOA.of {ty : FieldType} {A : Array Value} {U : State} (h : (Cond.arrayOver (.array ty)).before A U = true) : va_AOA ty U := h
theorem va_AOA.moved {ty : FieldType} {u U : State} (hvm : u.vm.Alike U.vm) (h : va_AOA ty u) : va_AOA ty U := by
  have hidx : ∀ comp : ClassId, (U.vm.classes.findIdx? fun (x : Class) => match x.kind with | .array component _ => component == comp | _ => false) = (u.vm.classes.findIdx? fun (x : Class) => match x.kind with | .array component _ => component == comp | _ => false) := by
    intro comp
    have e : U.vm.bare = u.vm.bare := by first | exact hvm.bare_eq | exact hvm.bare_eq.symm
    exact Eq.trans (va_idx_bare U.vm comp).symm (Eq.trans (by rw [e]) (va_idx_bare u.vm comp))
  unfold va_AOA Cond.before Cond.holds at h ⊢
  simp only [Cond.value] at h ⊢
  rw [hvm.findClass, hvm.findClass]
  cases hc : u.vm.findClass (FieldType.array ty).toString with
  | none => rw [hc] at h; exact h
  | some comp =>
    rw [hc] at h
    rw [Option.bind_some] at h ⊢
    have hi := hidx comp
    cases hx : (u.vm.classes.findIdx? fun (x : Class) => match x.kind with | .array component _ => component == comp | _ => false) with
    | none =>
      have h2 := (congrArg (fun o : Option Nat => (o.bind (fun c => (u.vm.classes[c]?).map fun (k : Class) => match k.kind with | .array _ t => decide (t = FieldType.array ty) && decide (u.vm.findClass ("[" ++ (FieldType.array ty).toString) = some c) | _ => false) == some true)) hx).symm.trans h
      simp at h2
    | some c =>
      have h2 := (congrArg (fun o : Option Nat => (o.bind (fun c => (u.vm.classes[c]?).map fun (k : Class) => match k.kind with | .array _ t => decide (t = FieldType.array ty) && decide (u.vm.findClass ("[" ++ (FieldType.array ty).toString) = some c) | _ => false) == some true)) hx).symm.trans h
      refine (congrArg (fun o : Option Nat => (o.bind (fun c => (U.vm.classes[c]?).map fun (k : Class) => match k.kind with | .array _ t => decide (t = FieldType.array ty) && decide (u.vm.findClass ("[" ++ (FieldType.array ty).toString) = some c) | _ => false) == some true)) (hi.trans hx)).trans ?_
      try dsimp only at h2 ⊢
      try rw [Option.bind_some] at h2 ⊢
      cases hk : u.vm.classes[c]? with
      | none => rw [hk] at h2; simp at h2
      | some k =>
        obtain ⟨k', hk', he⟩ := hvm.2.2 _ _ hk
        rw [hk] at h2
        rw [hk']
        simp only [Option.map_some] at h2 ⊢
        rw [he]
        exact h2
def AO2 (U : State) : Prop := va_AO RX1 U ∧ va_AOA .int U
theorem AO2.moved {u U : State} (hvm : u.vm.Alike U.vm) (h : AO2 u) : AO2 U := ⟨h.1.moved hvm, h.2.moved hvm⟩
/-- the growing context: the machine, and what may be written -/
abbrev GX : Type := Program × Launch × Env × Room × State × MethodId × Array Value × List Frame × Method × Code × va_G × (Nat → ClassId) × (Nat → Prop) × (State → Prop)
def hp (X : GX) : Program := X.1
def hl' (X : GX) : Launch := X.2.1
def he' (X : GX) : Env := X.2.2.1
def hR (X : GX) : Room := X.2.2.2.1
def hs (X : GX) : State := X.2.2.2.2.1
def hm (X : GX) : MethodId := X.2.2.2.2.2.1
def ha (X : GX) : Array Value := X.2.2.2.2.2.2.1
def hb' (X : GX) : List Frame := X.2.2.2.2.2.2.2.1
def hM' (X : GX) : Method := X.2.2.2.2.2.2.2.2.1
def hc' (X : GX) : Code := X.2.2.2.2.2.2.2.2.2.1
def hD' (X : GX) : va_G := X.2.2.2.2.2.2.2.2.2.2.1
def hk' (X : GX) : Nat → ClassId := X.2.2.2.2.2.2.2.2.2.2.2.1
def hA' (X : GX) : Nat → Prop := X.2.2.2.2.2.2.2.2.2.2.2.2.1
def hQ' (X : GX) : State → Prop := X.2.2.2.2.2.2.2.2.2.2.2.2.2
def Gc (X : GX) (ow : String) (cc : ByteArray) (nL : Nat) (fr rc rs lo : Nat) : Prop :=
  (hp X).tables.exec = Jvm.exec ∧ (hc' X).code = cc ∧ (hc' X).maxLocals = nL ∧ (hs X).vm.findClass ow = some (hm X).cls ∧ (∀ w ∈ gt, w.before (ha X) (hs X) = true) ∧ (∀ w ∈ nw, va_Nw w (hs X)) ∧ hR X = { frames := fr, cells := rc, slots := rs, locals := lo } ∧ va_K (hD' X) vwCl (tysOf (hk' X)) (hs X) ∧ AO2 (hs X) ∧ ∀ q, (hs X).heap.size ≤ q → hA' X q
section GROWS
variable {X : GX} {ow : String} {cc : ByteArray} {nL fr rc rs lo : Nat}
theorem Gc.exec (C : Gc X ow cc nL fr rc rs lo) : (hp X).tables.exec = Jvm.exec := C.1
theorem Gc.bytes (C : Gc X ow cc nL fr rc rs lo) : (hc' X).code = cc := C.2.1
theorem Gc.maxl (C : Gc X ow cc nL fr rc rs lo) : (hc' X).maxLocals = nL := C.2.2.1
theorem Gc.own (C : Gc X ow cc nL fr rc rs lo) : (hs X).vm.findClass ow = some (hm X).cls := C.2.2.2.1
theorem Gc.hts (C : Gc X ow cc nL fr rc rs lo) : ∀ w ∈ gt, w.before (ha X) (hs X) = true := C.2.2.2.2.1
theorem Gc.hnw (C : Gc X ow cc nL fr rc rs lo) : ∀ w ∈ nw, va_Nw w (hs X) := C.2.2.2.2.2.1
theorem Gc.room (C : Gc X ow cc nL fr rc rs lo) : hR X = { frames := fr, cells := rc, slots := rs, locals := lo } := C.2.2.2.2.2.2.1
theorem Gc.hK (C : Gc X ow cc nL fr rc rs lo) : va_K (hD' X) vwCl (tysOf (hk' X)) (hs X) := C.2.2.2.2.2.2.2.1
theorem Gc.ao (C : Gc X ow cc nL fr rc rs lo) : AO2 (hs X) := C.2.2.2.2.2.2.2.2.1
theorem Gc.hA (C : Gc X ow cc nL fr rc rs lo) : ∀ q, (hs X).heap.size ≤ q → hA' X q := C.2.2.2.2.2.2.2.2.2
end GROWS
def Gs (X : GX) (nL : Nat) (n : Nat) (f : Nat → Nat × va_E) (cells slots : Nat) (lv : List (Nat × Value)) (pc : Nat) (st : List Value) : Prop :=
  ∀ (H : Heap) (locs : List Loc) (ls : Array Slot), lv_has ls nL lv → va_P (hD' X) vwCl (gw n f) H → va_D (hA' X) (gw n f) → va_S (hA' X) (hs X).heap H locs →
    W (hp X) (hl' X) (he' X) (hR X) (hs X) (hm X) (ha X) (hb' X) (hM' X) (hc' X) H locs cells slots (hQ' X) (F0 (hm X) pc ls st)
/-- a constructor's contract over a growing world -/
def Kt (l : Launch) (D : va_G) (k : Nat → ClassId) (y : MethodName) (cc : ByteArray) (nL fr lo mc ms : Nat) (av : List Value) (n : Nat) (f : Nat → Nat × va_E) (n' : Nat) (post : (Nat → Nat × va_E) → Prop) : Prop :=
  ∀ sz : Nat, Met l y (.code y cc nL none :: gt) ({ frames := fr, cells := mc, slots := ms, locals := lo }) (va_Pc av (fun U => U.heap.size = sz ∧ va_P D vwCl (gw n f) U.heap ∧ va_D (fun _ => True) (gw n f) ∧ va_K D vwCl (tysOf k) U ∧ AO2 U ∧ ∀ w ∈ nw, va_Nw w U)) (va_Qv post (fun f' t => va_P D vwCl (gw n' f') t.heap ∧ va_D (va_A (gw n f) sz) (gw n' f')) (va_A (gw n f) sz)) mc ms (va_A (gw n f) sz)
theorem Kt_blind {D : va_G} {k : Nat → ClassId} {n sz : Nat} {f : Nat → Nat × va_E} {av : List Value} : FrameBlind (va_Pc av (fun U => U.heap.size = sz ∧ va_P D vwCl (gw n f) U.heap ∧ va_D (fun _ => True) (gw n f) ∧ va_K D vwCl (tysOf k) U ∧ AO2 U ∧ ∀ w ∈ nw, va_Nw w U)) := fun a U g mk h =>
  ⟨h.1, h.2.1, h.2.2.1, h.2.2.2.1, va_K.moved (u := U) (U := U.calling g mk a) (Vm.Alike.refl U.vm) h.2.2.2.2.1, AO2.moved (u := U) (U := U.calling g mk a) (Vm.Alike.refl U.vm) h.2.2.2.2.2.1, nw_blind (s := U) (U := U.calling g mk a) rfl h.2.2.2.2.2.2⟩
theorem Kt_of {l : Launch} {D : va_G} {k : Nat → ClassId} {y : MethodName} {cc : ByteArray} {nL fr lo mc ms : Nat} {av : List Value} {n n' : Nat} {f : Nat → Nat × va_E} {post : (Nat → Nat × va_E) → Prop} (hy : plainName y.cls = true) (hin : y.name = "<init>") (hlen : (lg_sl av).length ≤ nL)
    (body : ∀ (p : Program) (e : Env) (s : State) (m : MethodId) (args : Array Value) (below : List Frame) (meth : Method) (c : Code) (A : Nat → Prop) (Q : State → Prop), Gc (p, l, e, { frames := fr, cells := mc, slots := ms, locals := lo }, s, m, args, below, meth, c, D, k, A, Q) y.cls cc nL fr mc ms lo → meth.name = "<init>" →
      (∀ (f' : Nat → Nat × va_E), post f' → ∀ (pc nx : Nat) (lv : List (Nat × Value)), dec cc pc .return_ 1 nx → Gs (p, l, e, { frames := fr, cells := mc, slots := ms, locals := lo }, s, m, args, below, meth, c, D, k, A, Q) nL n' f' mc ms lv pc []) → Gs (p, l, e, { frames := fr, cells := mc, slots := ms, locals := lo }, s, m, args, below, meth, c, D, k, A, Q) nL n f 0 0 (lv_args 0 av) 0 []) : Kt l D k y cc nL fr lo mc ms av n f n' post := by
  intro sz
  refine Met.ofW (cc := cc) (maxL := nL) (ret := none) hy rfl ?_
  intro p e s m args below meth c s₁ B hml hv
  obtain ⟨rfl, rfl, hP, hD0, hK, hO, hN⟩ := hv
  have hts0 := atoms_spec (ws := Cond.code y cc nL none :: gt) B.pre
  have hlocks := B.notSynchronized
  have hD : va_D (va_A (gw n f) s.heap.size) (gw n f) := hD0.self
  have h := body p e s m av.toArray below meth c (va_A (gw n f) s.heap.size) (MQ below (va_Qv post (fun f' t => va_P D vwCl (gw n' f') t.heap ∧ va_D (va_A (gw n f) s.heap.size) (gw n' f')) (va_A (gw n f) s.heap.size)) av.toArray s mc ms (va_A (gw n f) s.heap.size)) ⟨B.exec, B.bytes, hml, findClass_of_methodNamed B.named, fun w hw => hts0 w (List.mem_cons_of_mem _ hw), hN, rfl, hK, hO, fun q hq => Or.inr hq⟩ ((name_of_methodNamed B.named B.method).1.trans hin)
    (fun f' hf' pc nx lv hd H locs ls hl hP' hD' hS => W.vret B.exec B.bytes B.returns (fun t ht hW => ⟨⟨f', rfl, hf', by rw [ht]; exact hP', hD'⟩, hS.F ht⟩) hS.2.2 hd.1 hlocks) s.heap [] ((lg_sl av ++ List.replicate (nL - (lg_sl av).length) Slot.unset).toArray) (lv_entry av hlen) hP hD va_S.rf
  rw [lg_entry_eq]
  exact h
theorem tys_same {D : va_G} {k : Nat → ClassId} {s : State} {cA : ClassId} {ty : FieldType} (j : Nat) (hj : (tysOf k)[j]? = some (k j, ty)) (hK : va_K D vwCl (tysOf k ++ [(cA, ty)]) s) : cA = k j := by
  have h1 := (hK.2 4 (cA, ty) rfl).2
  have h2 := (hK.2 j (k j, ty) (by rw [List.getElem?_append_left (List.getElem?_eq_some_iff.mp hj).1]; exact hj)).2
  cases ty with
  | object C =>
    obtain ⟨_, _, _, _, _, e1⟩ := h1
    obtain ⟨_, _, _, _, _, e2⟩ := h2
    exact Option.some.inj (e1.symm.trans e2)
  | _ => exact Option.some.inj (h1.symm.trans h2)
section GROW2
variable {X : GX} {ow : String} {cc : ByteArray} {nL fr rc rs lo : Nat} {n : Nat} {f : Nat → Nat × va_E} {cells slots : Nat} {lv : List (Nat × Value)} {pc nx : Nat} {st : List Value}
theorem g_cut {lv' : List (Nat × Value)} (h : Gs X nL n f cells slots lv' pc st) (hs : subl lv' lv) : Gs X nL n f cells slots lv pc st :=
  fun H locs ls hl hP hD hS => h H locs ls (subl_has hl hs) hP hD hS
theorem g_widen {c2 s2 : Nat} (h1 : cells ≤ c2) (h2 : slots ≤ s2) (h : Gs X nL n f c2 s2 lv pc st) : Gs X nL n f cells slots lv pc st :=
  fun H locs ls hl hP hD hS => W.widen (k := c2) (n := s2) h1 h2 (h H locs ls hl hP hD hS)
theorem g_iload_n (C : Gc X ow cc nL fr rc rs lo) {i : Fin 4} {x : Int32} (hd : dec cc pc (.iload_n i) 1 nx) (hv : lkp lv i.val = some (.int x)) (kk : Gs X nL n f cells slots lv nx (.int x :: st)) : Gs X nL n f cells slots lv pc st :=
  fun H locs ls hl hP hD hS => by
    obtain ⟨hd, rfl⟩ := hd
    exact lv_iload_n C.exec C.bytes hd rfl (lkp_has hl hv) (kk H locs ls hl hP hD hS)
theorem g_aload_n (C : Gc X ow cc nL fr rc rs lo) {i : Fin 4} {x : Nat} (hd : dec cc pc (.aload_n i) 1 nx) (hv : lkp lv i.val = some (.ref x)) (kk : Gs X nL n f cells slots lv nx (.ref x :: st)) : Gs X nL n f cells slots lv pc st :=
  fun H locs ls hl hP hD hS => by
    obtain ⟨hd, rfl⟩ := hd
    exact lv_aload_n C.exec C.bytes hd rfl (lkp_has hl hv) (kk H locs ls hl hP hD hS)
theorem g_istore_n (C : Gc X ow cc nL fr rc rs lo) {i : Fin 4} {x : Int32} (hd : dec cc pc (.istore_n i) 1 nx) (hn : i.val < nL) (kk : Gs X nL n f cells slots (sto lv i.val (.int x)) nx st) : Gs X nL n f cells slots lv pc (.int x :: st) :=
  fun H locs ls hl hP hD hS => by
    obtain ⟨hd, rfl⟩ := hd
    exact lv_istore_n C.exec C.bytes hd rfl hl hn rfl (fun ls' hl' => kk H locs ls' hl' hP hD hS)
theorem g_astore_n (C : Gc X ow cc nL fr rc rs lo) {i : Fin 4} {x : Nat} (hd : dec cc pc (.astore_n i) 1 nx) (hn : i.val < nL) (kk : Gs X nL n f cells slots (sto lv i.val (.ref x)) nx st) : Gs X nL n f cells slots lv pc (.ref x :: st) :=
  fun H locs ls hl hP hD hS => by
    obtain ⟨hd, rfl⟩ := hd
    exact lv_astore_n C.exec C.bytes hd rfl hl hn rfl (fun ls' hl' => kk H locs ls' hl' hP hD hS)
theorem g_iconst (C : Gc X ow cc nL fr rc rs lo) {z : Int} {v : Int32} (hd : dec cc pc (.iconst z) 1 nx) (hv : Int32.ofInt z = v) (kk : Gs X nL n f cells slots lv nx (.int v :: st)) : Gs X nL n f cells slots lv pc st :=
  fun H locs ls hl hP hD hS => by
    obtain ⟨hd, rfl⟩ := hd
    exact lv_iconst C.exec C.bytes hd hv (kk H locs ls hl hP hD hS)
theorem g_bipush (C : Gc X ow cc nL fr rc rs lo) {z : Int} {v : Int32} (hd : dec cc pc (.bipush z) 2 nx) (hv : (Int8.ofInt z).toInt32 = v) (kk : Gs X nL n f cells slots lv nx (.int v :: st)) : Gs X nL n f cells slots lv pc st :=
  fun H locs ls hl hP hD hS => by
    obtain ⟨hd, rfl⟩ := hd
    exact lv_bipush C.exec C.bytes hd hv (kk H locs ls hl hP hD hS)
theorem g_sipush (C : Gc X ow cc nL fr rc rs lo) {z : Int} {v : Int32} (hd : dec cc pc (.sipush z) 3 nx) (hv : (Int16.ofInt z).toInt32 = v) (kk : Gs X nL n f cells slots lv nx (.int v :: st)) : Gs X nL n f cells slots lv pc st :=
  fun H locs ls hl hP hD hS => by
    obtain ⟨hd, rfl⟩ := hd
    exact lv_sipush C.exec C.bytes hd hv (kk H locs ls hl hP hD hS)
theorem g_ldc (C : Gc X ow cc nL fr rc rs lo) {ix : Nat} {v : Int32} (hd : dec cc pc (.ldc ix) 2 nx) (hw : Cond.constant ow ix v ∈ gt) (kk : Gs X nL n f cells slots lv nx (.int v :: st)) : Gs X nL n f cells slots lv pc st :=
  fun H locs ls hl hP hD hS => by
    obtain ⟨hd, rfl⟩ := hd
    exact lv_ldc C.exec C.bytes C.own (C.hts _ hw) hd (kk H locs ls hl hP hD hS)
theorem g_dup (C : Gc X ow cc nL fr rc rs lo) {v : Value} (hd : dec cc pc .dup 1 nx) (hv : v.category = 1) (kk : Gs X nL n f cells slots lv nx (v :: v :: st)) : Gs X nL n f cells slots lv pc (v :: st) :=
  fun H locs ls hl hP hD hS => by
    obtain ⟨hd, rfl⟩ := hd
    exact lv_dup C.exec C.bytes hd hv (kk H locs ls hl hP hD hS)
theorem g_goto (C : Gc X ow cc nL fr rc rs lo) {off : Int} {tgt : Nat} (hd : dec cc pc (.goto off) 3 nx) (ht : (pc : Int) + off = (tgt : Int)) (kk : Gs X nL n f cells slots lv tgt st) : Gs X nL n f cells slots lv pc st :=
  fun H locs ls hl hP hD hS => lv_goto C.exec C.bytes hd.1 ht (kk H locs ls hl hP hD hS)
theorem g_iinc (C : Gc X ow cc nL fr rc rs lo) {i : Nat} {z : Int} {x v : Int32} (hd : dec cc pc (.iinc i z) 3 nx) (hv : lkp lv i = some (.int x)) (hn : i < nL) (he : x + Int32.ofInt z = v) (kk : Gs X nL n f cells slots (sto lv i (.int v)) nx st) : Gs X nL n f cells slots lv pc st :=
  fun H locs ls hl hP hD hS => by
    obtain ⟨hd, rfl⟩ := hd
    obtain ⟨k, hk, hke⟩ := List.getElem_of_mem (lkp_mem hv)
    exact lv_iinc C.exec C.bytes hd hl (k := k) (by rw [List.getElem?_eq_getElem hk, hke]) he hn rfl (fun ls' hl' => kk H locs ls' hl' hP hD hS)
theorem g_ge (C : Gc X ow cc nL fr rc rs lo) {x y : Int32} {off : Int} {tgt : Nat} (hd : dec cc pc (.if_icmp .ge off) 3 nx) (ht : (pc : Int) + off = (tgt : Int)) (k1 : y ≤ x → Gs X nL n f cells slots lv tgt st) (k2 : ¬ y ≤ x → Gs X nL n f cells slots lv nx st) : Gs X nL n f cells slots lv pc (.int y :: .int x :: st) :=
  fun H locs ls hl hP hD hS => by
    obtain ⟨hd, rfl⟩ := hd
    exact lv_icmp_ge C.exec C.bytes hd ht (fun h => k1 h H locs ls hl hP hD hS) (fun h => k2 h H locs ls hl hP hD hS)
theorem g_obj (C : Gc X ow cc nL fr rc rs lo) {ix a : Nat} (hl0 : Cond.methodLink ow ix objectInit ∈ gt) (hw : Cond.instanceMethod objectInit ∈ gt ∧ Cond.code objectInit ⟨#[0xb1]⟩ 1 none ∈ gt) (hR : 1 ≤ fr ∧ (st.map fun v => v.category).sum + 12 ≤ lo) (hd : dec cc pc (.invokespecial ix) 3 nx) (kk : Gs X nL n f cells slots lv nx st) : Gs X nL n f cells slots lv pc (.ref a :: st) :=
  fun H locs ls hl hP hD hS => by
    obtain ⟨hd, rfl⟩ := hd
    refine W.objInit C.exec C.bytes C.own (C.hts _ hl0) (C.hts _ hw.1) (C.hts _ hw.2) rfl (by rw [C.maxl]; exact hl.1) rfl hd (by rw [C.room]; exact hR.1) (by rw [C.room]; show 2 * 0 + _ + 12 ≤ lo; omega) ?_
    exact kk H locs ls hl hP hD hS
theorem g_newI (C : Gc X ow cc nL fr rc rs lo) {v : Int32} {N : Nat} (hw : Cond.arrayClass .int ∈ gt) (hv : v = nI N) (hN : N < 2 ^ 20) (hc : cells + 1 ≤ rc) (hs0 : slots + N ≤ rs) (hd : dec cc pc (.newarray .int) 2 nx) (kk : ∀ q : Nat, Gs X nL (n + 1) (va_up f n (q, .inl (hk' X 0, N, .inl (fun _ => 0)))) (cells + 1) (slots + N) lv nx (.ref q :: st)) : Gs X nL n f cells slots lv pc (.int v :: st) :=
  fun H locs ls hl hP hD hS => by
    obtain ⟨hd, rfl⟩ := hd
    subst hv
    refine va_newa (atype := .int) (ty := .int) (a0 := (N, .inl (fun _ => 0))) C.exec C.bytes (C.hts _ hw) rfl C.hK hP hD hS C.hA (fun cA => by rw [vp_cell_i]; rfl) (nI_pos (by omega)) (nI_clamp (by omega)) (by show N * 4 ≤ _; omega) (by rw [C.room]; exact hc) (by rw [C.room]; exact hs0) hd (fun q cA H1 hK1 hP1 hD1 hS1 => ?_)
    have e := tys_same 0 rfl hK1
    subst e
    rw [gw_push] at hP1 hD1
    exact kk q H1 locs ls hl hP1 hD1 hS1
theorem g_newZ (C : Gc X ow cc nL fr rc rs lo) {v : Int32} {N : Nat} (hw : Cond.arrayClass .boolean ∈ gt) (hv : v = nI N) (hN : N < 2 ^ 20) (hc : cells + 1 ≤ rc) (hs0 : slots + N ≤ rs) (hd : dec cc pc (.newarray .boolean) 2 nx) (kk : ∀ q : Nat, Gs X nL (n + 1) (va_up f n (q, .inl (hk' X 1, N, .inl (fun _ => 0)))) (cells + 1) (slots + N) lv nx (.ref q :: st)) : Gs X nL n f cells slots lv pc (.int v :: st) :=
  fun H locs ls hl hP hD hS => by
    obtain ⟨hd, rfl⟩ := hd
    subst hv
    refine va_newa (atype := .boolean) (ty := .boolean) (a0 := (N, .inl (fun _ => 0))) C.exec C.bytes (C.hts _ hw) rfl C.hK hP hD hS C.hA (fun cA => by rw [vp_cell_i]; rfl) (nI_pos (by omega)) (nI_clamp (by omega)) (by show N * 1 ≤ _; omega) (by rw [C.room]; exact hc) (by rw [C.room]; exact hs0) hd (fun q cA H1 hK1 hP1 hD1 hS1 => ?_)
    have e := tys_same 1 rfl hK1
    subst e
    rw [gw_push] at hP1 hD1
    exact kk q H1 locs ls hl hP1 hD1 hS1
theorem g_newQ (C : Gc X ow cc nL fr rc rs lo) {v : Int32} {N ix : Nat} (hl0 : Cond.classLink ow ix RX1 ∈ gt) (hv : v = nI N) (hN : N < 2 ^ 20) (hc : cells + 1 ≤ rc) (hs0 : slots + N ≤ rs) (hd : dec cc pc (.anewarray ix) 3 nx) (kk : ∀ q : Nat, Gs X nL (n + 1) (va_up f n (q, .inl (hk' X 2, N, .inr (.inr (.inr (.inr (fun _ => none))))))) (cells + 1) (slots + N) lv nx (.ref q :: st)) : Gs X nL n f cells slots lv pc (.int v :: st) :=
  fun H locs ls hl hP hD hS => by
    obtain ⟨hd, rfl⟩ := hd
    subst hv
    refine va_newq (C := RX1) C.exec C.bytes C.own (C.hts _ hl0) C.ao.1 C.hK hP hD hS C.hA (nI_pos (by omega)) (nI_clamp (by omega)) (by omega) (by rw [C.room]; exact hc) (by rw [C.room]; exact hs0) hd (fun q cA H1 hK1 hP1 hD1 hS1 => ?_)
    have e := tys_same 2 rfl hK1
    subst e
    rw [gw_push] at hP1 hD1
    exact kk q H1 locs ls hl hP1 hD1 hS1
theorem g_new (C : Gc X ow cc nL fr rc rs lo) {ci : Nat} {Cn : String} {T : u_T} {N ix : Nat} {ty : Nat → FieldType} (hF : FC ci Cn T N ty) (hl0 : Cond.classLink ow ix Cn ∈ gt) (hw : Cond.instantiable Cn N ∈ gt ∧ Cond.initialized Cn ∈ gt) {fs : List Value} (hfs : ∀ j, j < N → defaultValue (ty j) = vp_V fs j) (hc : cells + 1 ≤ rc) (hs0 : slots + N ≤ rs) (hd : dec cc pc (.new ix) 3 nx) (kk : ∀ q : Nat, Gs X nL (n + 1) (va_up f n (q, .inr (ci, fs))) (cells + 1) (slots + N) lv nx (.ref q :: st)) : Gs X nL n f cells slots lv pc st :=
  fun H locs ls hl hP hD hS => by
    obtain ⟨hd, rfl⟩ := hd
    refine va_new (ci := ci) (fs := fs) (C := Cn) (T := T) (N := N) C.exec C.bytes C.hts hF.1 ty hF.2.2.1 C.own (C.hts _ hl0) (C.hts _ hw.1) (C.hts _ hw.2) C.hK hP hD hS C.hA hF.2.1 hfs (by rw [C.room]; exact hc) (by rw [C.room]; exact hs0) hd (fun q H1 hP1 hD1 hS1 => ?_)
    rw [gw_push] at hP1 hD1
    exact kk q H1 locs ls hl hP1 hD1 hS1
theorem g_put (C : Gc X ow cc nL fr rc rs lo) (hin : (hM' X).name = "<init>") {ci : Nat} {Cn : String} {T : u_T} {N : Nat} {ty : Nat → FieldType} (hF : FC ci Cn T N ty) (i : Nat) (hi : i < n) {a : Nat} {fs : List Value} (hz : f i = (a, .inr (ci, fs))) (j : Nat) (hj : j < N) (hfin : (T j).2.2.2 = true) (hdecl : (T j).1 = ow) {v : Value} (hn : narrow (ty j) v = v) (hfit : fits (ty j) v = true) (hl0 : j < fs.length) {ix : Nat} (hw : Cond.fieldLink ow ix (T j).1 (T j).2.1 (T j).2.2.1 ∈ gt) (hd : dec cc pc (.putfield ix) 3 nx) (kk : Gs X nL n (va_up f i (a, .inr (ci, fs.set j v))) cells slots lv nx st) : Gs X nL n f cells slots lv pc (v :: .ref a :: st) :=
  fun H locs ls hl hP hD hS => by
    obtain ⟨hd, rfl⟩ := hd
    refine va_putF (D := hD' X) (ci := ci) (v := v) (ty := ty j) (C := Cn) (T := T) (N := N) C.exec C.bytes C.hts hF.1 ty hF.2.2.1 hF.2.2.2 C.own C.hK hP hD hS i (by rw [gw_get hi, hz]) hF.2.1 j hj (C.hts _ hw) (fun _ h9 => h9) hfin hin hdecl (hF.2.2.1 j hj) hn hfit hl0 hd (fun H1 locs1 hP1 hD1 hS1 => ?_)
    rw [gw_set _ hi] at hP1 hD1
    exact kk H1 locs1 ls hl hP1 hD1 hS1
theorem g_get (C : Gc X ow cc nL fr rc rs lo) {ci : Nat} {Cn : String} {T : u_T} {N : Nat} {ty : Nat → FieldType} (hF : FC ci Cn T N ty) (i : Nat) (hi : i < n) {a : Nat} {fs : List Value} (hz : f i = (a, .inr (ci, fs))) (j : Nat) (hj : j < N) {v : Value} (hv : fs[j]? = some v) {ix : Nat} (hw : Cond.fieldLink ow ix (T j).1 (T j).2.1 (T j).2.2.1 ∈ gt) (hd : dec cc pc (.getfield ix) 3 nx) (kk : Gs X nL n f cells slots lv nx (v :: st)) : Gs X nL n f cells slots lv pc (.ref a :: st) :=
  fun H locs ls hl hP hD hS => by
    obtain ⟨hd, rfl⟩ := hd
    exact va_get (D := hD' X) (ci := ci) (v := v) (C := Cn) (T := T) (N := N) C.exec C.bytes C.hts hF.1 C.own C.hK hP i (by rw [gw_get hi, hz]) hF.2.1 j hj (C.hts _ hw) (fun _ h9 => h9) hv hd (kk H locs ls hl hP hD hS)
theorem g_iast (C : Gc X ow cc nL fr rc rs lo) (i : Nat) (hi : i < n) {a N : Nat} {g : Nat → Int32} (hz : f i = (a, .inl (hk' X 0, N, .inl g))) {z x : Int32} {j : Nat} (hj : z = nI j) (hjN : j < N) (hN : N < 2 ^ 31) (hd : dec cc pc .iastore 1 nx) (kk : Gs X nL n (va_up f i (a, .inl (hk' X 0, N, .inl (upd g j x)))) cells slots lv nx st) : Gs X nL n f cells slots lv pc (.int x :: .int z :: .ref a :: st) :=
  fun H locs ls hl hP hD hS => by
    obtain ⟨hd, rfl⟩ := hd
    subst hj
    refine va_iast C.exec C.bytes C.hK hP hD hS i 0 (by rw [gw_get hi, hz]) rfl (vp_in_nI hjN hN) hd (fun H1 locs1 hP1 hD1 hS1 => ?_)
    rw [gw_set _ hi, nI_clamp (by omega)] at hP1 hD1
    exact kk H1 locs1 ls hl hP1 hD1 hS1
theorem g_aast (C : Gc X ow cc nL fr rc rs lo) (i : Nat) (hi : i < n) {a N : Nat} {g : Nat → Option Nat} (hz : f i = (a, .inl (hk' X 2, N, .inr (.inr (.inr (.inr g)))))) (b : Nat) (hb : b < n) {v : Nat} {vs : List Value} (hzb : f b = (v, .inr (1, vs))) {z : Int32} {j : Nat} (hj : z = nI j) (hjN : j < N) (hN : N < 2 ^ 31) (hd : dec cc pc .aastore 1 nx) (kk : Gs X nL n (va_up f i (a, .inl (hk' X 2, N, .inr (.inr (.inr (.inr (va_up g j (some v)))))))) cells slots lv nx st) : Gs X nL n f cells slots lv pc (.ref v :: .int z :: .ref a :: st) :=
  fun H locs ls hl hP hD hS => by
    obtain ⟨hd, rfl⟩ := hd
    subst hj
    refine va_astq (r := (RX1, TX1, 12)) (n := N) C.exec C.bytes C.hK hP hD hS i 2 b 1 (by rw [gw_get hi, hz]) rfl (by rw [gw_get hb, hzb]) rfl (vp_in_nI hjN hN) hd (fun H1 locs1 hP1 hD1 hS1 => ?_)
    rw [gw_set _ hi, nI_clamp (by omega)] at hP1 hD1
    exact kk H1 locs1 ls hl hP1 hD1 hS1
/-- a constructor that is called by a plain link, or over the nest -/
theorem g_call (C : Gc X ow cc nL fr rc rs lo) {y : MethodName} {bytes : ByteArray} {nL' fr' lo' mc ms np ix n' : Nat} {a : Nat} {As : List Value} {post : (Nat → Nat × va_E) → Prop} (hM : Kt (hl' X) (hD' X) (hk' X) y bytes nL' fr' lo' mc ms (.ref a :: As) n f n' post) (hy1 : y.name = "<init>") (hw : Cond.instanceMethod y ∈ gt ∧ Cond.initialized y.cls ∈ gt ∧ Cond.code y bytes nL' none ∈ gt ∧ (y.cls ≠ "java/lang/invoke/MethodHandle" ∧ y.cls ≠ "java/lang/invoke/VarHandle" ∧ (parseMethodDescriptor y.desc).map (fun d => d.parameters.length) = some np))
    (hl0 : Cond.methodLink ow ix y ∈ gt ∨ ∃ host, Cond.methodLinkNest ow ix y host ∈ nw) (hRm : fr' + 1 ≤ fr ∧ 8 + (nL' + 11) + lo' ≤ lo) (hn : As.length = np) (hcat : (st.map fun v => v.category).sum ≤ 8) (hc : cells + mc ≤ rc) (hs0 : slots + ms ≤ rs) (hd : dec cc pc (.invokespecial ix) 3 nx) (kk : ∀ f' : Nat → Nat × va_E, post f' → Gs X nL n' f' (cells + mc) (slots + ms) lv nx st) : Gs X nL n f cells slots lv pc (As.reverse ++ .ref a :: st) :=
  fun H locs ls hl hP hD hS => by
    obtain ⟨hd, rfl⟩ := hd
    have hmem : ∀ w ∈ Cond.code y bytes nL' none :: gt, w ∈ gt := fun w hw' => (List.mem_cons.mp hw').elim (fun z => z ▸ hw.2.2.1) id
    have hG : GoodIn gt (Cond.code y bytes nL' none :: gt) := gt_in hmem
    have hFc : ∀ q, va_A (gw n f) H.size q → hA' X q := by
      intro q h
      rcases h with ⟨i, e, h⟩ | h
      · exact hD.2 i _ h
      · exact C.hA q (Nat.le_trans hS.1 h)
    have hpre : PreS (hs X) H (va_Pc (.ref a :: As) (fun U => U.heap.size = H.size ∧ va_P (hD' X) vwCl (gw n f) U.heap ∧ va_D (fun _ => True) (gw n f) ∧ va_K (hD' X) vwCl (tysOf (hk' X)) U ∧ AO2 U ∧ ∀ w ∈ nw, va_Nw w U)) (.ref a :: As) := ⟨Kt_blind, fun U hU hW => ⟨rfl, by rw [hU], by rw [hU]; exact hP, hD.weaken (fun _ _ _ _ => trivial), va_K.moved hW.alike C.hK, C.ao.moved hW.alike, nw_warm hW C.hnw⟩⟩
    have hrun : va_Run (hp X) (hl' X) (he' X) (hR X) (hs X) (hm X) (ha X) (hb' X) (hM' X) (hc' X) H locs cells slots mc ms (F0 (hm X) pc ls (As.reverse ++ .ref a :: st)) st (va_Qv post (fun f' t => va_P (hD' X) vwCl (gw n' f') t.heap ∧ va_D (va_A (gw n f) H.size) (gw n' f')) (va_A (gw n f) H.size) (Value.ref a :: As).toArray) (va_A (gw n f) H.size) := by
      rcases hl0 with h0 | ⟨host, h0⟩
      · exact va_runI (As := As) (rest := st) (Ts := gt) ⟨C.exec, C.bytes, C.maxl, C.own, C.hts⟩ (hM H.size) (cwI np C.hts hG rfl rfl rfl (C.hts _ hw.2.1) (C.hts _ h0) (C.hts _ hw.1) hy1 hw.2.2.2 (by rw [C.room]; exact hRm)) hpre rfl hn hl.1 rfl (lv_room hcat) hd ⟨by rw [C.room]; exact hc, by rw [C.room]; exact hs0⟩
      · exact va_runIN (As := As) (rest := st) (Ts := gt) ⟨C.exec, C.bytes, C.maxl, C.own, C.hts⟩ (hM H.size) ⟨va_cnB np C.hts hG rfl rfl rfl (C.hnw _ h0) (C.hts _ hw.2.1) hw.2.2.2 (by rw [C.room]; exact hRm), hy1, C.hts _ hw.1⟩ hpre rfl hn hl.1 rfl (lv_room hcat) hd ⟨by rw [C.room]; exact hc, by rw [C.room]; exact hs0⟩
    refine va_callv hrun hS (fun q _ h => hFc q h) hFc (fun u t H1 locs1 ht hvm hpost hB hsz hk1 hS1 => ?_)
    rw [ht] at hB
    exact kk u hpost H1 locs1 ls hl hB.1 (hB.2.weaken (fun _ _ _ h => hFc _ h)) hS1
end GROW2
