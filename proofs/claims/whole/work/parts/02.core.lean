/-! the layer: a pure state (cell number, place) -> int; a world of cells whose shape never changes; one row an instruction -/
abbrev St : Type := Nat → Nat → Int32
def up (σ : St) (a i : Nat) (v : Int32) : St := fun a' i' => if a' = a ∧ i' = i then v else σ a' i'
def upR (σ : St) (a : Nat) (f : Nat → Int32) : St := fun a' i' => if a' = a then f i' else σ a' i'
abbrev Rt : Type := Option (Int32 × St)
def bd (i : Int32) (n : Nat) (t : Rt) : Rt := if 0 ≤ i.toInt ∧ i.toInt < n then t else none
def nz (y : Int32) (t : Rt) : Rt := if y = 0 then none else t
def nzl (y : Int64) (t : Rt) : Rt := if y = 0 then none else t
def vB (v : Int32) (t : Rt) : Rt := if v = 0 ∨ v = 1 then t else none
def bnd (o : Rt) (k : Int32 → St → Rt) : Rt := match o with
  | none => none
  | some p => k p.1 p.2
def nm (e : Int32) (k : Int32 → Rt) : Rt := k e
def nml (e : Int64) (k : Int64 → Rt) : Rt := k e
def nmS (e : St) (k : St → Rt) : Rt := k e
/-- arraycopy's bounds -/
def bdc (sp dp n : Int32) (n0 n1 : Nat) (t : Rt) : Rt := if ¬ sp < 0 ∧ ¬ dp < 0 ∧ ¬ n < 0 ∧ sp.toNatClampNeg + n.toNatClampNeg ≤ n0 ∧ dp.toNatClampNeg + n.toNatClampNeg ≤ n1 then t else none
/-- the words that any method may lean on -/
def gt : List Cond := lw_tbl.filter goodWord
def cx_isN : Cond → Bool
  | .methodLinkNest _ _ _ _ => true
  | _ => false
def nw : List Cond := lw_tbl.filter cx_isN
theorem gt_of {w : Cond} (h : w ∈ lw_tbl) (g : goodWord w = true) : w ∈ gt := List.mem_filter.mpr ⟨h, g⟩
theorem gt_good : ∀ {w : Cond}, w ∈ gt → (w.onTables && w.keeps) = true ∨ ∃ ty, w = .arrayClass ty := fun h => good_of_word (List.mem_filter.mp h).2
theorem gt_in {ws : List Cond} (h : ∀ w ∈ ws, w ∈ gt) : GoodIn gt ws := fun w hw => ⟨h w hw, gt_good (h w hw)⟩
theorem nw_warm {s U : State} (hW : s.WarmedH U.vm) (h : ∀ w ∈ nw, va_Nw w s) : ∀ w ∈ nw, va_Nw w U := by
  intro w hw
  have h2 := (List.mem_filter.mp hw).2
  cases w <;> first | exact va_Nw.warmM hW (h _ hw) | (simp [cx_isN] at h2)
theorem nw_blind {s U : State} (hv : s.vm = U.vm) (h : ∀ w ∈ nw, va_Nw w s) : ∀ w ∈ nw, va_Nw w U := by
  intro w hw
  have h2 := (List.mem_filter.mp hw).2
  cases w <;> first | exact va_Nw.same rfl hv (h _ hw) | (simp [cx_isN] at h2)
/-- a shape: how many cells, and what each holds -/
abbrev Sh : Type := Nat × ((Nat → Nat) → (Nat → ClassId) → St → Nat → va_E)
def wl (Z : Sh) (q : Nat → Nat) (k : Nat → ClassId) (σ : St) : va_W := (List.range Z.1).map fun i => (q i, Z.2 q k σ i)
theorem wl_get {Z : Sh} {q : Nat → Nat} {k : Nat → ClassId} {σ : St} {i : Nat} (h : i < Z.1) : (wl Z q k σ)[i]? = some (q i, Z.2 q k σ i) := by simp [wl, h]
theorem wl_at {Z : Sh} {q : Nat → Nat} {k : Nat → ClassId} {σ : St} {i : Nat} {x : Nat × va_E} (h : (wl Z q k σ)[i]? = some x) : i < Z.1 ∧ x = (q i, Z.2 q k σ i) := by
  have hl := (List.getElem?_eq_some_iff.mp h).1
  simp [wl] at hl
  rw [wl_get hl] at h
  exact ⟨hl, (Option.some.inj h).symm⟩
theorem wl_set {Z : Sh} {q : Nat → Nat} {k : Nat → ClassId} {σ σ' : St} {i : Nat} {e : va_E} (h : i < Z.1) (he : e = Z.2 q k σ' i) (ho : ∀ j, j ≠ i → Z.2 q k σ' j = Z.2 q k σ j) : (wl Z q k σ).set i (q i, e) = wl Z q k σ' := by
  subst he
  apply List.ext_getElem?
  intro j
  by_cases hj : j = i
  · subst hj
    rw [List.getElem?_set_self (by simpa [wl] using h), wl_get h]
  · rw [List.getElem?_set_ne (Ne.symm hj)]
    by_cases hl : j < Z.1
    · rw [wl_get hl, wl_get hl, ho j hj]
    · rw [List.getElem?_eq_none (by simp [wl]; omega), List.getElem?_eq_none (by simp [wl]; omega)]
def Inj (Z : Sh) (q : Nat → Nat) : Prop := ∀ i j : Nat, i < Z.1 → j < Z.1 → q i = q j → i = j
/-- what a cell holds lies in its own row of the state -/
def Lc (Z : Sh) : Prop := ∀ (q : Nat → Nat) (k : Nat → ClassId) (σ σ' : St) (i : Nat), σ i = σ' i → Z.2 q k σ i = Z.2 q k σ' i
def own (Z : Sh) (q : Nat → Nat) : Nat → Prop := fun a => ∃ i, i < Z.1 ∧ a = q i
theorem wl_D {Z : Sh} {q : Nat → Nat} {k : Nat → ClassId} {σ : St} (h : Inj Z q) : va_D (own Z q) (wl Z q k σ) := by
  refine ⟨fun i j x y hi hj hxy => ?_, fun i x hi => ?_⟩
  · obtain ⟨h1, rfl⟩ := wl_at hi
    obtain ⟨h2, rfl⟩ := wl_at hj
    exact h i j h1 h2 hxy
  · obtain ⟨h1, rfl⟩ := wl_at hi
    exact ⟨i, h1, rfl⟩
/-- the array classes: 0 int[], 1 boolean[], 2 Board[], 3 int[][] -/
def tysOf (k : Nat → ClassId) : List (ClassId × FieldType) := [(k 0, .int), (k 1, .boolean), (k 2, .object "PinBoards$Board"), (k 3, .array .int)]
/-- what a state holds -/
def hold (Z : Sh) (D : va_G) (k : Nat → ClassId) (q : Nat → Nat) (σ : St) (U : State) : Prop := va_P D vwCl (wl Z q k σ) U.heap ∧ va_K D vwCl (tysOf k) U ∧ ∀ w ∈ nw, va_Nw w U
def Qo (Z : Sh) (D : va_G) (k : Nat → ClassId) (q : Nat → Nat) (ret : Option FieldType) (x : Int32 × St) : Array Value → State → Outcome → State → Prop := match ret with
  | none => va_Qv (fun u : St => u = x.2) (fun u t => va_P D vwCl (wl Z q k u) t.heap) (own Z q)
  | some _ => va_Qi (fun (r : Int32) (u : St) => r = x.1 ∧ u = x.2) (fun u t => va_P D vwCl (wl Z q k u) t.heap) (own Z q)
/-- a method's contract at a pure state: where its pure text has an answer, it returns that -/
def Ct (l : Launch) (Z : Sh) (D : va_G) (k : Nat → ClassId) (q : Nat → Nat) (y : MethodName) (cc : ByteArray) (nL : Nat) (ret : Option FieldType) (fr lo : Nat) (av : List Value) (σ : St) (o : Rt) : Prop :=
  ∀ x : Int32 × St, o = some x → Met l y (.code y cc nL ret :: gt) ({ frames := fr, cells := 0, slots := 0, locals := lo }) (va_Pc av (hold Z D k q σ)) (Qo Z D k q ret x) 0 0 (own Z q)
/-- where a walk stands, all that never changes in it -/
abbrev CX : Type := Program × Launch × Env × Room × State × MethodId × Array Value × List Frame × Method × Code × va_G × (Nat → ClassId) × (Nat → Nat) × (Int32 × St)
def cp (X : CX) : Program := X.1
def cl (X : CX) : Launch := X.2.1
def ce (X : CX) : Env := X.2.2.1
def cR (X : CX) : Room := X.2.2.2.1
def cs (X : CX) : State := X.2.2.2.2.1
def cm (X : CX) : MethodId := X.2.2.2.2.2.1
def ca (X : CX) : Array Value := X.2.2.2.2.2.2.1
def cb (X : CX) : List Frame := X.2.2.2.2.2.2.2.1
def cM (X : CX) : Method := X.2.2.2.2.2.2.2.2.1
def cc_ (X : CX) : Code := X.2.2.2.2.2.2.2.2.2.1
def cD (X : CX) : va_G := X.2.2.2.2.2.2.2.2.2.2.1
def ck (X : CX) : Nat → ClassId := X.2.2.2.2.2.2.2.2.2.2.2.1
def cq (X : CX) : Nat → Nat := X.2.2.2.2.2.2.2.2.2.2.2.2.1
def cx (X : CX) : Int32 × St := X.2.2.2.2.2.2.2.2.2.2.2.2.2
def Cx (X : CX) (Z : Sh) (ow : String) (cc : ByteArray) (nL : Nat) (ret : Option FieldType) (fr lo : Nat) : Prop :=
  (cp X).tables.exec = Jvm.exec ∧ (cc_ X).code = cc ∧ (cc_ X).maxLocals = nL ∧ (cs X).vm.findClass ow = some (cm X).cls ∧ (∀ w ∈ gt, w.before (ca X) (cs X) = true) ∧ (∀ w ∈ nw, va_Nw w (cs X)) ∧ (cM X).sig.returnType = ret ∧ (cM X).locks = false ∧ cR X = { frames := fr, cells := 0, slots := 0, locals := lo } ∧ va_K (cD X) vwCl (tysOf (ck X)) (cs X) ∧ Inj Z (cq X) ∧ Lc Z
/-- from this frame, where the pure text has the answer that is due, the machine comes to its end with it -/
def Sm (X : CX) (Z : Sh) (nL : Nat) (ret : Option FieldType) (σ : St) (lv : List (Nat × Value)) (pc : Nat) (st : List Value) (t : Rt) : Prop :=
  t = some (cx X) → ∀ (H : Heap) (locs : List Loc) (ls : Array Slot), lv_has ls nL lv → va_P (cD X) vwCl (wl Z (cq X) (ck X) σ) H → va_S (own Z (cq X)) (cs X).heap H locs →
    W (cp X) (cl X) (ce X) (cR X) (cs X) (cm X) (ca X) (cb X) (cM X) (cc_ X) H locs 0 0 (MQ (cb X) (Qo Z (cD X) (ck X) (cq X) ret (cx X)) (ca X) (cs X) 0 0 (own Z (cq X))) (F0 (cm X) pc ls st)
def dec (cc : ByteArray) (pc : Nat) (i : Instr) (n nx : Nat) : Prop := decode cc pc = .ok (i, n) ∧ pc + n = nx
def lkp : List (Nat × Value) → Nat → Option Value
  | [], _ => none
  | (j, v) :: l, i => if j = i then some v else lkp l i
theorem lkp_mem : ∀ {l : List (Nat × Value)} {i : Nat} {v : Value}, lkp l i = some v → (i, v) ∈ l
  | (j, w) :: l, i, v, h => by
    unfold lkp at h
    by_cases e : j = i
    · subst e
      rw [if_pos rfl] at h
      cases h
      exact List.mem_cons_self
    · rw [if_neg e] at h
      exact List.mem_cons_of_mem _ (lkp_mem h)
theorem lkp_has {ls : Array Slot} {nL : Nat} {l : List (Nat × Value)} (h : lv_has ls nL l) {i : Nat} {v : Value} (e : lkp l i = some v) : ls[i]? = some (.val v) := h.2.2 (i, v) (lkp_mem e)
def sto (l : List (Nat × Value)) (i : Nat) (v : Value) : List (Nat × Value) := (i, v) :: l.filter (fun q => !(q.1 == i) && !(q.1 + 1 == i && q.2.category == 2))
def stoL (l : List (Nat × Value)) (i : Nat) (v : Value) : List (Nat × Value) := (i, v) :: l.filter (fun q => !(q.1 == i) && (!(q.1 == i + 1) && !(q.1 + 1 == i && q.2.category == 2)))
def subl : List (Nat × Value) → List (Nat × Value) → Prop
  | [], _ => True
  | (i, v) :: r, l => lkp l i = some v ∧ subl r l
theorem subl_has {ls : Array Slot} {nL : Nat} {l : List (Nat × Value)} (h : lv_has ls nL l) : ∀ {r : List (Nat × Value)}, subl r l → lv_has ls nL r
  | [], _ => ⟨h.1, h.2.1, fun q hq => by cases hq⟩
  | (i, v) :: r, ⟨h1, h2⟩ => by
    have ih := subl_has h h2
    refine ⟨h.1, h.2.1, fun q hq => ?_⟩
    rcases List.mem_cons.mp hq with rfl | hq
    · exact lkp_has h h1
    · exact ih.2.2 q hq
section ROWS
variable {X : CX} {Z : Sh} {ow : String} {cc : ByteArray} {nL : Nat} {ret : Option FieldType} {fr lo : Nat} {σ : St} {lv : List (Nat × Value)} {pc nx : Nat} {st : List Value} {t : Rt}
/-- a cut: fewer locals are told -/
theorem s_cut {lv' : List (Nat × Value)} (h : Sm X Z nL ret σ lv' pc st t) (hs : subl lv' lv) : Sm X Z nL ret σ lv pc st t :=
  fun e H locs ls hl hP hS => h e H locs ls (subl_has hl hs) hP hS
theorem s_none : Sm X Z nL ret σ lv pc st none := fun e => by cases e
theorem s_nm {e : Int32} {kt : Int32 → Rt} (kk : ∀ y : Int32, Sm X Z nL ret σ lv pc (.int y :: st) (kt y)) : Sm X Z nL ret σ lv pc (.int e :: st) (nm e kt) := kk e
theorem s_nml {e : Int64} {kt : Int64 → Rt} (kk : ∀ y : Int64, Sm X Z nL ret σ lv pc (.long y :: st) (kt y)) : Sm X Z nL ret σ lv pc (.long e :: st) (nml e kt) := kk e
theorem s_iload_n (C : Cx X Z ow cc nL ret fr lo) {i : Fin 4} {x : Int32} (hd : dec cc pc (.iload_n i) 1 nx) (hv : lkp lv i.val = some (.int x)) (kk : Sm X Z nL ret σ lv nx (.int x :: st) t) : Sm X Z nL ret σ lv pc st t :=
  fun e H locs ls hl hP hS => by
    obtain ⟨hd, rfl⟩ := hd
    exact lv_iload_n C.1 C.2.1 hd rfl (lkp_has hl hv) (kk e H locs ls hl hP hS)
theorem s_iload (C : Cx X Z ow cc nL ret fr lo) {i : Nat} {x : Int32} (hd : dec cc pc (.iload i) 2 nx) (hv : lkp lv i = some (.int x)) (kk : Sm X Z nL ret σ lv nx (.int x :: st) t) : Sm X Z nL ret σ lv pc st t :=
  fun e H locs ls hl hP hS => by
    obtain ⟨hd, rfl⟩ := hd
    exact lv_iload C.1 C.2.1 hd (lkp_has hl hv) (kk e H locs ls hl hP hS)
theorem s_lload_n (C : Cx X Z ow cc nL ret fr lo) {i : Fin 4} {x : Int64} (hd : dec cc pc (.lload_n i) 1 nx) (hv : lkp lv i.val = some (.long x)) (kk : Sm X Z nL ret σ lv nx (.long x :: st) t) : Sm X Z nL ret σ lv pc st t :=
  fun e H locs ls hl hP hS => by
    obtain ⟨hd, rfl⟩ := hd
    exact lv_lload_n C.1 C.2.1 hd rfl (lkp_has hl hv) (kk e H locs ls hl hP hS)
theorem s_lload (C : Cx X Z ow cc nL ret fr lo) {i : Nat} {x : Int64} (hd : dec cc pc (.lload i) 2 nx) (hv : lkp lv i = some (.long x)) (kk : Sm X Z nL ret σ lv nx (.long x :: st) t) : Sm X Z nL ret σ lv pc st t :=
  fun e H locs ls hl hP hS => by
    obtain ⟨hd, rfl⟩ := hd
    exact lv_lload C.1 C.2.1 hd (lkp_has hl hv) (kk e H locs ls hl hP hS)
theorem s_aload_n (C : Cx X Z ow cc nL ret fr lo) {i : Fin 4} {x : Nat} (hd : dec cc pc (.aload_n i) 1 nx) (hv : lkp lv i.val = some (.ref x)) (kk : Sm X Z nL ret σ lv nx (.ref x :: st) t) : Sm X Z nL ret σ lv pc st t :=
  fun e H locs ls hl hP hS => by
    obtain ⟨hd, rfl⟩ := hd
    exact lv_aload_n C.1 C.2.1 hd rfl (lkp_has hl hv) (kk e H locs ls hl hP hS)
theorem s_istore_n (C : Cx X Z ow cc nL ret fr lo) {i : Fin 4} {x : Int32} (hd : dec cc pc (.istore_n i) 1 nx) (hn : i.val < nL) (kk : Sm X Z nL ret σ (sto lv i.val (.int x)) nx st t) : Sm X Z nL ret σ lv pc (.int x :: st) t :=
  fun e H locs ls hl hP hS => by
    obtain ⟨hd, rfl⟩ := hd
    exact lv_istore_n C.1 C.2.1 hd rfl hl hn rfl (fun ls' hl' => kk e H locs ls' hl' hP hS)
theorem s_istore (C : Cx X Z ow cc nL ret fr lo) {i : Nat} {x : Int32} (hd : dec cc pc (.istore i) 2 nx) (hn : i < nL) (kk : Sm X Z nL ret σ (sto lv i (.int x)) nx st t) : Sm X Z nL ret σ lv pc (.int x :: st) t :=
  fun e H locs ls hl hP hS => by
    obtain ⟨hd, rfl⟩ := hd
    exact lv_istore C.1 C.2.1 hd hl hn rfl (fun ls' hl' => kk e H locs ls' hl' hP hS)
theorem s_astore_n (C : Cx X Z ow cc nL ret fr lo) {i : Fin 4} {x : Nat} (hd : dec cc pc (.astore_n i) 1 nx) (hn : i.val < nL) (kk : Sm X Z nL ret σ (sto lv i.val (.ref x)) nx st t) : Sm X Z nL ret σ lv pc (.ref x :: st) t :=
  fun e H locs ls hl hP hS => by
    obtain ⟨hd, rfl⟩ := hd
    exact lv_astore_n C.1 C.2.1 hd rfl hl hn rfl (fun ls' hl' => kk e H locs ls' hl' hP hS)
theorem s_lstore_n (C : Cx X Z ow cc nL ret fr lo) {i : Fin 4} {x : Int64} (hd : dec cc pc (.lstore_n i) 1 nx) (hn : i.val + 1 < nL) (kk : Sm X Z nL ret σ (stoL lv i.val (.long x)) nx st t) : Sm X Z nL ret σ lv pc (.long x :: st) t :=
  fun e H locs ls hl hP hS => by
    obtain ⟨hd, rfl⟩ := hd
    exact lv_lstore_n C.1 C.2.1 hd rfl hl hn rfl (fun ls' hl' => kk e H locs ls' hl' hP hS)
theorem s_lstore (C : Cx X Z ow cc nL ret fr lo) {i : Nat} {x : Int64} (hd : dec cc pc (.lstore i) 2 nx) (hn : i + 1 < nL) (kk : Sm X Z nL ret σ (stoL lv i (.long x)) nx st t) : Sm X Z nL ret σ lv pc (.long x :: st) t :=
  fun e H locs ls hl hP hS => by
    obtain ⟨hd, rfl⟩ := hd
    exact lv_lstore C.1 C.2.1 hd hl hn rfl (fun ls' hl' => kk e H locs ls' hl' hP hS)
theorem s_iinc (C : Cx X Z ow cc nL ret fr lo) {i : Nat} {n : Int} {x v : Int32} (hd : dec cc pc (.iinc i n) 3 nx) (hv : lkp lv i = some (.int x)) (hn : i < nL) (he : Int32.ofInt n = v) (kk : Sm X Z nL ret σ (sto lv i (.int (x + v))) nx st t) : Sm X Z nL ret σ lv pc st t :=
  fun e H locs ls hl hP hS => by
    obtain ⟨hd, rfl⟩ := hd
    subst he
    obtain ⟨k, hk, hke⟩ := List.getElem_of_mem (lkp_mem hv)
    exact lv_iinc C.1 C.2.1 hd hl (k := k) (by rw [List.getElem?_eq_getElem hk, hke]) rfl hn rfl (fun ls' hl' => kk e H locs ls' hl' hP hS)
theorem s_iconst (C : Cx X Z ow cc nL ret fr lo) {n : Int} {v : Int32} (hd : dec cc pc (.iconst n) 1 nx) (hv : Int32.ofInt n = v) (kk : Sm X Z nL ret σ lv nx (.int v :: st) t) : Sm X Z nL ret σ lv pc st t :=
  fun e H locs ls hl hP hS => by
    obtain ⟨hd, rfl⟩ := hd
    exact lv_iconst C.1 C.2.1 hd hv (kk e H locs ls hl hP hS)
theorem s_bipush (C : Cx X Z ow cc nL ret fr lo) {n : Int} {v : Int32} (hd : dec cc pc (.bipush n) 2 nx) (hv : (Int8.ofInt n).toInt32 = v) (kk : Sm X Z nL ret σ lv nx (.int v :: st) t) : Sm X Z nL ret σ lv pc st t :=
  fun e H locs ls hl hP hS => by
    obtain ⟨hd, rfl⟩ := hd
    exact lv_bipush C.1 C.2.1 hd hv (kk e H locs ls hl hP hS)
theorem s_sipush (C : Cx X Z ow cc nL ret fr lo) {n : Int} {v : Int32} (hd : dec cc pc (.sipush n) 3 nx) (hv : (Int16.ofInt n).toInt32 = v) (kk : Sm X Z nL ret σ lv nx (.int v :: st) t) : Sm X Z nL ret σ lv pc st t :=
  fun e H locs ls hl hP hS => by
    obtain ⟨hd, rfl⟩ := hd
    exact lv_sipush C.1 C.2.1 hd hv (kk e H locs ls hl hP hS)
theorem s_ldc (C : Cx X Z ow cc nL ret fr lo) {ix : Nat} {v : Int32} (hd : dec cc pc (.ldc ix) 2 nx) (hw : Cond.constant ow ix v ∈ gt) (kk : Sm X Z nL ret σ lv nx (.int v :: st) t) : Sm X Z nL ret σ lv pc st t :=
  fun e H locs ls hl hP hS => by
    obtain ⟨hd, rfl⟩ := hd
    exact lv_ldc C.1 C.2.1 C.2.2.2.1 (C.2.2.2.2.1 _ hw) hd (kk e H locs ls hl hP hS)
theorem s_ldcw (C : Cx X Z ow cc nL ret fr lo) {ix : Nat} {v : Int32} (hd : dec cc pc (.ldc_w ix) 3 nx) (hw : Cond.constant ow ix v ∈ gt) (kk : Sm X Z nL ret σ lv nx (.int v :: st) t) : Sm X Z nL ret σ lv pc st t :=
  fun e H locs ls hl hP hS => by
    obtain ⟨hd, rfl⟩ := hd
    exact lv_ldcw C.1 C.2.1 C.2.2.2.1 (C.2.2.2.2.1 _ hw) hd (kk e H locs ls hl hP hS)
theorem s_ldc2 (C : Cx X Z ow cc nL ret fr lo) {ix : Nat} {v : Int64} (hd : dec cc pc (.ldc2_w ix) 3 nx) (hw : Cond.constantLong ow ix v ∈ gt) (kk : Sm X Z nL ret σ lv nx (.long v :: st) t) : Sm X Z nL ret σ lv pc st t :=
  fun e H locs ls hl hP hS => by
    obtain ⟨hd, rfl⟩ := hd
    exact lv_ldc2 C.1 C.2.1 C.2.2.2.1 (C.2.2.2.2.1 _ hw) hd (kk e H locs ls hl hP hS)
theorem s_dup (C : Cx X Z ow cc nL ret fr lo) {v : Value} (hd : dec cc pc .dup 1 nx) (hv : v.category = 1) (kk : Sm X Z nL ret σ lv nx (v :: v :: st) t) : Sm X Z nL ret σ lv pc (v :: st) t :=
  fun e H locs ls hl hP hS => by
    obtain ⟨hd, rfl⟩ := hd
    exact lv_dup C.1 C.2.1 hd hv (kk e H locs ls hl hP hS)
theorem s_dup2 (C : Cx X Z ow cc nL ret fr lo) {v w : Value} (hd : dec cc pc .dup2 1 nx) (hv : v.category = 1) (hw : w.category = 1) (kk : Sm X Z nL ret σ lv nx (v :: w :: v :: w :: st) t) : Sm X Z nL ret σ lv pc (v :: w :: st) t :=
  fun e H locs ls hl hP hS => by
    obtain ⟨hd, rfl⟩ := hd
    exact lv_dup2_11 C.1 C.2.1 hd hv hw (kk e H locs ls hl hP hS)
theorem s_pop (C : Cx X Z ow cc nL ret fr lo) {v : Value} (hd : dec cc pc .pop 1 nx) (hv : v.category = 1) (kk : Sm X Z nL ret σ lv nx st t) : Sm X Z nL ret σ lv pc (v :: st) t :=
  fun e H locs ls hl hP hS => by
    obtain ⟨hd, rfl⟩ := hd
    exact lv_pop C.1 C.2.1 hd hv (kk e H locs ls hl hP hS)
theorem s_goto (C : Cx X Z ow cc nL ret fr lo) {off : Int} {tgt : Nat} (hd : dec cc pc (.goto off) 3 nx) (ht : (pc : Int) + off = (tgt : Int)) (kk : Sm X Z nL ret σ lv tgt st t) : Sm X Z nL ret σ lv pc st t :=
  fun e H locs ls hl hP hS => lv_goto C.1 C.2.1 hd.1 ht (kk e H locs ls hl hP hS)
theorem s_iadd (C : Cx X Z ow cc nL ret fr lo) {x y : Int32} (hd : dec cc pc .iadd 1 nx) (kk : Sm X Z nL ret σ lv nx (.int (x + y) :: st) t) : Sm X Z nL ret σ lv pc (.int y :: .int x :: st) t :=
  fun e H locs ls hl hP hS => by
    obtain ⟨hd, rfl⟩ := hd
    exact lv_iadd C.1 C.2.1 hd (kk e H locs ls hl hP hS)
theorem s_isub (C : Cx X Z ow cc nL ret fr lo) {x y : Int32} (hd : dec cc pc .isub 1 nx) (kk : Sm X Z nL ret σ lv nx (.int (x - y) :: st) t) : Sm X Z nL ret σ lv pc (.int y :: .int x :: st) t :=
  fun e H locs ls hl hP hS => by
    obtain ⟨hd, rfl⟩ := hd
    exact lv_isub C.1 C.2.1 hd (kk e H locs ls hl hP hS)
theorem s_imul (C : Cx X Z ow cc nL ret fr lo) {x y : Int32} (hd : dec cc pc .imul 1 nx) (kk : Sm X Z nL ret σ lv nx (.int (x * y) :: st) t) : Sm X Z nL ret σ lv pc (.int y :: .int x :: st) t :=
  fun e H locs ls hl hP hS => by
    obtain ⟨hd, rfl⟩ := hd
    exact lv_imul C.1 C.2.1 hd (kk e H locs ls hl hP hS)
theorem s_iand (C : Cx X Z ow cc nL ret fr lo) {x y : Int32} (hd : dec cc pc .iand 1 nx) (kk : Sm X Z nL ret σ lv nx (.int (x &&& y) :: st) t) : Sm X Z nL ret σ lv pc (.int y :: .int x :: st) t :=
  fun e H locs ls hl hP hS => by
    obtain ⟨hd, rfl⟩ := hd
    exact lv_iand C.1 C.2.1 hd (kk e H locs ls hl hP hS)
theorem s_ior (C : Cx X Z ow cc nL ret fr lo) {x y : Int32} (hd : dec cc pc .ior 1 nx) (kk : Sm X Z nL ret σ lv nx (.int (x ||| y) :: st) t) : Sm X Z nL ret σ lv pc (.int y :: .int x :: st) t :=
  fun e H locs ls hl hP hS => by
    obtain ⟨hd, rfl⟩ := hd
    exact lv_ior C.1 C.2.1 hd (kk e H locs ls hl hP hS)
theorem s_ixor (C : Cx X Z ow cc nL ret fr lo) {x y : Int32} (hd : dec cc pc .ixor 1 nx) (kk : Sm X Z nL ret σ lv nx (.int (x ^^^ y) :: st) t) : Sm X Z nL ret σ lv pc (.int y :: .int x :: st) t :=
  fun e H locs ls hl hP hS => by
    obtain ⟨hd, rfl⟩ := hd
    exact lv_ixor C.1 C.2.1 hd (kk e H locs ls hl hP hS)
theorem s_ishl (C : Cx X Z ow cc nL ret fr lo) {x y : Int32} (hd : dec cc pc .ishl 1 nx) (kk : Sm X Z nL ret σ lv nx (.int (x <<< (y &&& 31)) :: st) t) : Sm X Z nL ret σ lv pc (.int y :: .int x :: st) t :=
  fun e H locs ls hl hP hS => by
    obtain ⟨hd, rfl⟩ := hd
    exact lv_ishl C.1 C.2.1 hd (kk e H locs ls hl hP hS)
theorem s_ishr (C : Cx X Z ow cc nL ret fr lo) {x y : Int32} (hd : dec cc pc .ishr 1 nx) (kk : Sm X Z nL ret σ lv nx (.int (x >>> (y &&& 31)) :: st) t) : Sm X Z nL ret σ lv pc (.int y :: .int x :: st) t :=
  fun e H locs ls hl hP hS => by
    obtain ⟨hd, rfl⟩ := hd
    exact lv_ishr C.1 C.2.1 hd (kk e H locs ls hl hP hS)
theorem s_idiv (C : Cx X Z ow cc nL ret fr lo) {x y : Int32} (hd : dec cc pc .idiv 1 nx) (kk : Sm X Z nL ret σ lv nx (.int (x / y) :: st) t) : Sm X Z nL ret σ lv pc (.int y :: .int x :: st) (nz y t) :=
  fun e H locs ls hl hP hS => by
    obtain ⟨hd, rfl⟩ := hd
    unfold nz at e
    by_cases h0 : y = 0
    · rw [if_pos h0] at e
      cases e
    · rw [if_neg h0] at e
      exact lv_idiv C.1 C.2.1 hd h0 (kk e H locs ls hl hP hS)
theorem s_irem (C : Cx X Z ow cc nL ret fr lo) {x y : Int32} (hd : dec cc pc .irem 1 nx) (kk : Sm X Z nL ret σ lv nx (.int (x - x / y * y) :: st) t) : Sm X Z nL ret σ lv pc (.int y :: .int x :: st) (nz y t) :=
  fun e H locs ls hl hP hS => by
    obtain ⟨hd, rfl⟩ := hd
    unfold nz at e
    by_cases h0 : y = 0
    · rw [if_pos h0] at e
      cases e
    · rw [if_neg h0] at e
      exact lv_irem C.1 C.2.1 hd h0 (kk e H locs ls hl hP hS)
theorem s_lmul (C : Cx X Z ow cc nL ret fr lo) {x y : Int64} (hd : dec cc pc .lmul 1 nx) (kk : Sm X Z nL ret σ lv nx (.long (x * y) :: st) t) : Sm X Z nL ret σ lv pc (.long y :: .long x :: st) t :=
  fun e H locs ls hl hP hS => by
    obtain ⟨hd, rfl⟩ := hd
    exact lv_lmul C.1 C.2.1 hd (kk e H locs ls hl hP hS)
theorem s_lrem (C : Cx X Z ow cc nL ret fr lo) {x y : Int64} (hd : dec cc pc .lrem 1 nx) (kk : Sm X Z nL ret σ lv nx (.long (x - x / y * y) :: st) t) : Sm X Z nL ret σ lv pc (.long y :: .long x :: st) (nzl y t) :=
  fun e H locs ls hl hP hS => by
    obtain ⟨hd, rfl⟩ := hd
    unfold nzl at e
    by_cases h0 : y = 0
    · rw [if_pos h0] at e
      cases e
    · rw [if_neg h0] at e
      exact lv_lrem C.1 C.2.1 hd h0 (kk e H locs ls hl hP hS)
theorem s_iushr (C : Cx X Z ow cc nL ret fr lo) {x y : Int32} (hd : dec cc pc .iushr 1 nx) (kk : Sm X Z nL ret σ lv nx (.int ((x.toUInt32 >>> (y.toUInt32 &&& Int32.toUInt32 31)).toInt32) :: st) t) : Sm X Z nL ret σ lv pc (.int y :: .int x :: st) t :=
  fun e H locs ls hl hP hS => by
    obtain ⟨hd, rfl⟩ := hd
    exact lv_iushr C.1 C.2.1 hd rfl (kk e H locs ls hl hP hS)
theorem s_ineg (C : Cx X Z ow cc nL ret fr lo) {x : Int32} (hd : dec cc pc .ineg 1 nx) (kk : Sm X Z nL ret σ lv nx (.int (-x) :: st) t) : Sm X Z nL ret σ lv pc (.int x :: st) t :=
  fun e H locs ls hl hP hS => by
    obtain ⟨hd, rfl⟩ := hd
    exact lv_ineg C.1 C.2.1 hd (kk e H locs ls hl hP hS)
theorem s_i2l (C : Cx X Z ow cc nL ret fr lo) {x : Int32} (hd : dec cc pc .i2l 1 nx) (kk : Sm X Z nL ret σ lv nx (.long (x.toInt64) :: st) t) : Sm X Z nL ret σ lv pc (.int x :: st) t :=
  fun e H locs ls hl hP hS => by
    obtain ⟨hd, rfl⟩ := hd
    exact lv_i2l C.1 C.2.1 hd rfl (kk e H locs ls hl hP hS)
theorem s_l2i (C : Cx X Z ow cc nL ret fr lo) {x : Int64} (hd : dec cc pc .l2i 1 nx) (kk : Sm X Z nL ret σ lv nx (.int (x.toInt32) :: st) t) : Sm X Z nL ret σ lv pc (.long x :: st) t :=
  fun e H locs ls hl hP hS => by
    obtain ⟨hd, rfl⟩ := hd
    exact lv_l2i C.1 C.2.1 hd rfl (kk e H locs ls hl hP hS)
theorem s_i2b (C : Cx X Z ow cc nL ret fr lo) {x : Int32} (hd : dec cc pc .i2b 1 nx) (kk : Sm X Z nL ret σ lv nx (.int (x.toInt8.toInt32) :: st) t) : Sm X Z nL ret σ lv pc (.int x :: st) t :=
  fun e H locs ls hl hP hS => by
    obtain ⟨hd, rfl⟩ := hd
    exact lv_i2b C.1 C.2.1 hd rfl (kk e H locs ls hl hP hS)
theorem s_i2s (C : Cx X Z ow cc nL ret fr lo) {x : Int32} (hd : dec cc pc .i2s 1 nx) (kk : Sm X Z nL ret σ lv nx (.int (x.toInt16.toInt32) :: st) t) : Sm X Z nL ret σ lv pc (.int x :: st) t :=
  fun e H locs ls hl hP hS => by
    obtain ⟨hd, rfl⟩ := hd
    exact lv_i2s C.1 C.2.1 hd rfl (kk e H locs ls hl hP hS)
theorem s_icmp_eq (C : Cx X Z ow cc nL ret fr lo) {x y : Int32} {off : Int} {tgt : Nat} {t1 t2 : Rt} {dc : Decidable (x = y)} (hd : dec cc pc (.if_icmp .eq off) 3 nx) (ht : (pc : Int) + off = (tgt : Int)) (k1 : Sm X Z nL ret σ lv tgt st t1) (k2 : Sm X Z nL ret σ lv nx st t2) : Sm X Z nL ret σ lv pc (.int y :: .int x :: st) (@ite Rt (x = y) dc t1 t2) :=
  fun e H locs ls hl hP hS => by
    obtain ⟨hd, rfl⟩ := hd
    exact lv_icmp_eq C.1 C.2.1 hd ht (fun h => k1 (by rw [if_pos h] at e; exact e) H locs ls hl hP hS) (fun h => k2 (by rw [if_neg h] at e; exact e) H locs ls hl hP hS)
theorem s_if_eq (C : Cx X Z ow cc nL ret fr lo) {x : Int32} {off : Int} {tgt : Nat} {t1 t2 : Rt} {dc : Decidable (x = 0)} (hd : dec cc pc (.ifCond .eq off) 3 nx) (ht : (pc : Int) + off = (tgt : Int)) (k1 : Sm X Z nL ret σ lv tgt st t1) (k2 : Sm X Z nL ret σ lv nx st t2) : Sm X Z nL ret σ lv pc (.int x :: st) (@ite Rt (x = 0) dc t1 t2) :=
  fun e H locs ls hl hP hS => by
    obtain ⟨hd, rfl⟩ := hd
    exact lv_if_eq C.1 C.2.1 hd ht (fun h => k1 (by rw [if_pos h] at e; exact e) H locs ls hl hP hS) (fun h => k2 (by rw [if_neg h] at e; exact e) H locs ls hl hP hS)
theorem s_icmp_ne (C : Cx X Z ow cc nL ret fr lo) {x y : Int32} {off : Int} {tgt : Nat} {t1 t2 : Rt} {dc : Decidable (x = y)} (hd : dec cc pc (.if_icmp .ne off) 3 nx) (ht : (pc : Int) + off = (tgt : Int)) (k2 : Sm X Z nL ret σ lv nx st t2) (k1 : Sm X Z nL ret σ lv tgt st t1) : Sm X Z nL ret σ lv pc (.int y :: .int x :: st) (@ite Rt (x = y) dc t2 t1) :=
  fun e H locs ls hl hP hS => by
    obtain ⟨hd, rfl⟩ := hd
    exact lv_icmp_ne C.1 C.2.1 hd ht (fun h => k1 (by rw [if_neg h] at e; exact e) H locs ls hl hP hS) (fun h => k2 (by rw [if_pos h] at e; exact e) H locs ls hl hP hS)
theorem s_if_ne (C : Cx X Z ow cc nL ret fr lo) {x : Int32} {off : Int} {tgt : Nat} {t1 t2 : Rt} {dc : Decidable (x = 0)} (hd : dec cc pc (.ifCond .ne off) 3 nx) (ht : (pc : Int) + off = (tgt : Int)) (k2 : Sm X Z nL ret σ lv nx st t2) (k1 : Sm X Z nL ret σ lv tgt st t1) : Sm X Z nL ret σ lv pc (.int x :: st) (@ite Rt (x = 0) dc t2 t1) :=
  fun e H locs ls hl hP hS => by
    obtain ⟨hd, rfl⟩ := hd
    exact lv_if_ne C.1 C.2.1 hd ht (fun h => k1 (by rw [if_neg h] at e; exact e) H locs ls hl hP hS) (fun h => k2 (by rw [if_pos h] at e; exact e) H locs ls hl hP hS)
theorem s_icmp_lt (C : Cx X Z ow cc nL ret fr lo) {x y : Int32} {off : Int} {tgt : Nat} {t1 t2 : Rt} {dc : Decidable (x < y)} (hd : dec cc pc (.if_icmp .lt off) 3 nx) (ht : (pc : Int) + off = (tgt : Int)) (k1 : Sm X Z nL ret σ lv tgt st t1) (k2 : Sm X Z nL ret σ lv nx st t2) : Sm X Z nL ret σ lv pc (.int y :: .int x :: st) (@ite Rt (x < y) dc t1 t2) :=
  fun e H locs ls hl hP hS => by
    obtain ⟨hd, rfl⟩ := hd
    exact lv_icmp_lt C.1 C.2.1 hd ht (fun h => k1 (by rw [if_pos h] at e; exact e) H locs ls hl hP hS) (fun h => k2 (by rw [if_neg h] at e; exact e) H locs ls hl hP hS)
theorem s_if_lt (C : Cx X Z ow cc nL ret fr lo) {x : Int32} {off : Int} {tgt : Nat} {t1 t2 : Rt} {dc : Decidable (x < 0)} (hd : dec cc pc (.ifCond .lt off) 3 nx) (ht : (pc : Int) + off = (tgt : Int)) (k1 : Sm X Z nL ret σ lv tgt st t1) (k2 : Sm X Z nL ret σ lv nx st t2) : Sm X Z nL ret σ lv pc (.int x :: st) (@ite Rt (x < 0) dc t1 t2) :=
  fun e H locs ls hl hP hS => by
    obtain ⟨hd, rfl⟩ := hd
    exact lv_if_lt C.1 C.2.1 hd ht (fun h => k1 (by rw [if_pos h] at e; exact e) H locs ls hl hP hS) (fun h => k2 (by rw [if_neg h] at e; exact e) H locs ls hl hP hS)
theorem s_icmp_ge (C : Cx X Z ow cc nL ret fr lo) {x y : Int32} {off : Int} {tgt : Nat} {t1 t2 : Rt} {dc : Decidable (y ≤ x)} (hd : dec cc pc (.if_icmp .ge off) 3 nx) (ht : (pc : Int) + off = (tgt : Int)) (k1 : Sm X Z nL ret σ lv tgt st t1) (k2 : Sm X Z nL ret σ lv nx st t2) : Sm X Z nL ret σ lv pc (.int y :: .int x :: st) (@ite Rt (y ≤ x) dc t1 t2) :=
  fun e H locs ls hl hP hS => by
    obtain ⟨hd, rfl⟩ := hd
    exact lv_icmp_ge C.1 C.2.1 hd ht (fun h => k1 (by rw [if_pos h] at e; exact e) H locs ls hl hP hS) (fun h => k2 (by rw [if_neg h] at e; exact e) H locs ls hl hP hS)
theorem s_if_ge (C : Cx X Z ow cc nL ret fr lo) {x : Int32} {off : Int} {tgt : Nat} {t1 t2 : Rt} {dc : Decidable (0 ≤ x)} (hd : dec cc pc (.ifCond .ge off) 3 nx) (ht : (pc : Int) + off = (tgt : Int)) (k1 : Sm X Z nL ret σ lv tgt st t1) (k2 : Sm X Z nL ret σ lv nx st t2) : Sm X Z nL ret σ lv pc (.int x :: st) (@ite Rt (0 ≤ x) dc t1 t2) :=
  fun e H locs ls hl hP hS => by
    obtain ⟨hd, rfl⟩ := hd
    exact lv_if_ge C.1 C.2.1 hd ht (fun h => k1 (by rw [if_pos h] at e; exact e) H locs ls hl hP hS) (fun h => k2 (by rw [if_neg h] at e; exact e) H locs ls hl hP hS)
theorem s_icmp_gt (C : Cx X Z ow cc nL ret fr lo) {x y : Int32} {off : Int} {tgt : Nat} {t1 t2 : Rt} {dc : Decidable (y < x)} (hd : dec cc pc (.if_icmp .gt off) 3 nx) (ht : (pc : Int) + off = (tgt : Int)) (k1 : Sm X Z nL ret σ lv tgt st t1) (k2 : Sm X Z nL ret σ lv nx st t2) : Sm X Z nL ret σ lv pc (.int y :: .int x :: st) (@ite Rt (y < x) dc t1 t2) :=
  fun e H locs ls hl hP hS => by
    obtain ⟨hd, rfl⟩ := hd
    exact lv_icmp_gt C.1 C.2.1 hd ht (fun h => k1 (by rw [if_pos h] at e; exact e) H locs ls hl hP hS) (fun h => k2 (by rw [if_neg h] at e; exact e) H locs ls hl hP hS)
theorem s_if_gt (C : Cx X Z ow cc nL ret fr lo) {x : Int32} {off : Int} {tgt : Nat} {t1 t2 : Rt} {dc : Decidable (0 < x)} (hd : dec cc pc (.ifCond .gt off) 3 nx) (ht : (pc : Int) + off = (tgt : Int)) (k1 : Sm X Z nL ret σ lv tgt st t1) (k2 : Sm X Z nL ret σ lv nx st t2) : Sm X Z nL ret σ lv pc (.int x :: st) (@ite Rt (0 < x) dc t1 t2) :=
  fun e H locs ls hl hP hS => by
    obtain ⟨hd, rfl⟩ := hd
    exact lv_if_gt C.1 C.2.1 hd ht (fun h => k1 (by rw [if_pos h] at e; exact e) H locs ls hl hP hS) (fun h => k2 (by rw [if_neg h] at e; exact e) H locs ls hl hP hS)
theorem s_icmp_le (C : Cx X Z ow cc nL ret fr lo) {x y : Int32} {off : Int} {tgt : Nat} {t1 t2 : Rt} {dc : Decidable (x ≤ y)} (hd : dec cc pc (.if_icmp .le off) 3 nx) (ht : (pc : Int) + off = (tgt : Int)) (k1 : Sm X Z nL ret σ lv tgt st t1) (k2 : Sm X Z nL ret σ lv nx st t2) : Sm X Z nL ret σ lv pc (.int y :: .int x :: st) (@ite Rt (x ≤ y) dc t1 t2) :=
  fun e H locs ls hl hP hS => by
    obtain ⟨hd, rfl⟩ := hd
    exact lv_icmp_le C.1 C.2.1 hd ht (fun h => k1 (by rw [if_pos h] at e; exact e) H locs ls hl hP hS) (fun h => k2 (by rw [if_neg h] at e; exact e) H locs ls hl hP hS)
theorem s_if_le (C : Cx X Z ow cc nL ret fr lo) {x : Int32} {off : Int} {tgt : Nat} {t1 t2 : Rt} {dc : Decidable (x ≤ 0)} (hd : dec cc pc (.ifCond .le off) 3 nx) (ht : (pc : Int) + off = (tgt : Int)) (k1 : Sm X Z nL ret σ lv tgt st t1) (k2 : Sm X Z nL ret σ lv nx st t2) : Sm X Z nL ret σ lv pc (.int x :: st) (@ite Rt (x ≤ 0) dc t1 t2) :=
  fun e H locs ls hl hP hS => by
    obtain ⟨hd, rfl⟩ := hd
    exact lv_if_le C.1 C.2.1 hd ht (fun h => k1 (by rw [if_pos h] at e; exact e) H locs ls hl hP hS) (fun h => k2 (by rw [if_neg h] at e; exact e) H locs ls hl hP hS)
end ROWS
theorem Cx.exec {X : CX} {Z : Sh} {ow : String} {cc : ByteArray} {nL : Nat} {ret : Option FieldType} {fr lo : Nat} (C : Cx X Z ow cc nL ret fr lo) : (cp X).tables.exec = Jvm.exec := C.1
theorem Cx.bytes {X : CX} {Z : Sh} {ow : String} {cc : ByteArray} {nL : Nat} {ret : Option FieldType} {fr lo : Nat} (C : Cx X Z ow cc nL ret fr lo) : (cc_ X).code = cc := C.2.1
theorem Cx.maxl {X : CX} {Z : Sh} {ow : String} {cc : ByteArray} {nL : Nat} {ret : Option FieldType} {fr lo : Nat} (C : Cx X Z ow cc nL ret fr lo) : (cc_ X).maxLocals = nL := C.2.2.1
theorem Cx.own {X : CX} {Z : Sh} {ow : String} {cc : ByteArray} {nL : Nat} {ret : Option FieldType} {fr lo : Nat} (C : Cx X Z ow cc nL ret fr lo) : (cs X).vm.findClass ow = some (cm X).cls := C.2.2.2.1
theorem Cx.hts {X : CX} {Z : Sh} {ow : String} {cc : ByteArray} {nL : Nat} {ret : Option FieldType} {fr lo : Nat} (C : Cx X Z ow cc nL ret fr lo) : ∀ w ∈ gt, w.before (ca X) (cs X) = true := C.2.2.2.2.1
theorem Cx.hnw {X : CX} {Z : Sh} {ow : String} {cc : ByteArray} {nL : Nat} {ret : Option FieldType} {fr lo : Nat} (C : Cx X Z ow cc nL ret fr lo) : ∀ w ∈ nw, va_Nw w (cs X) := C.2.2.2.2.2.1
theorem Cx.sig {X : CX} {Z : Sh} {ow : String} {cc : ByteArray} {nL : Nat} {ret : Option FieldType} {fr lo : Nat} (C : Cx X Z ow cc nL ret fr lo) : (cM X).sig.returnType = ret := C.2.2.2.2.2.2.1
theorem Cx.locks {X : CX} {Z : Sh} {ow : String} {cc : ByteArray} {nL : Nat} {ret : Option FieldType} {fr lo : Nat} (C : Cx X Z ow cc nL ret fr lo) : (cM X).locks = false := C.2.2.2.2.2.2.2.1
theorem Cx.room {X : CX} {Z : Sh} {ow : String} {cc : ByteArray} {nL : Nat} {ret : Option FieldType} {fr lo : Nat} (C : Cx X Z ow cc nL ret fr lo) : cR X = { frames := fr, cells := 0, slots := 0, locals := lo } := C.2.2.2.2.2.2.2.2.1
theorem Cx.hK {X : CX} {Z : Sh} {ow : String} {cc : ByteArray} {nL : Nat} {ret : Option FieldType} {fr lo : Nat} (C : Cx X Z ow cc nL ret fr lo) : va_K (cD X) vwCl (tysOf (ck X)) (cs X) := C.2.2.2.2.2.2.2.2.2.1
theorem Cx.inj {X : CX} {Z : Sh} {ow : String} {cc : ByteArray} {nL : Nat} {ret : Option FieldType} {fr lo : Nat} (C : Cx X Z ow cc nL ret fr lo) : Inj Z (cq X) := C.2.2.2.2.2.2.2.2.2.2.1
theorem Cx.lc {X : CX} {Z : Sh} {ow : String} {cc : ByteArray} {nL : Nat} {ret : Option FieldType} {fr lo : Nat} (C : Cx X Z ow cc nL ret fr lo) : Lc Z := C.2.2.2.2.2.2.2.2.2.2.2
/-- a class, as the rows of its fields want it -/
def FC (ci : Nat) (Cn : String) (T : u_T) (N : Nat) (ty : Nat → FieldType) : Prop := (∀ w ∈ u_ws Cn T N, w ∈ gt) ∧ vwCl[ci]? = some (Cn, T, N) ∧ (∀ k, k < N → parseFieldDescriptor (T k).2.2.1 = some (ty k)) ∧ ∀ a, a < N → ∀ b, b < N → a ≠ b → (T a).2.1 ≠ (T b).2.1
/-- a method that is called by its own name -/
def WV (y : MethodName) (bytes : ByteArray) (nL : Nat) (ret : Option FieldType) (n : Nat) : Prop :=
  Cond.instanceMethod y ∈ gt ∧ Cond.selects y.cls y y ∈ gt ∧ Cond.initialized y.cls ∈ gt ∧ Cond.code y bytes nL ret ∈ gt ∧ (y.cls ≠ "java/lang/invoke/MethodHandle" ∧ y.cls ≠ "java/lang/invoke/VarHandle" ∧ (parseMethodDescriptor y.desc).map (fun d => d.parameters.length) = some n)
def WS (y : MethodName) (bytes : ByteArray) (nL : Nat) (ret : Option FieldType) (n : Nat) : Prop :=
  Cond.static y ∈ gt ∧ Cond.initialized y.cls ∈ gt ∧ Cond.code y bytes nL ret ∈ gt ∧ (y.cls ≠ "java/lang/invoke/MethodHandle" ∧ y.cls ≠ "java/lang/invoke/VarHandle" ∧ (parseMethodDescriptor y.desc).map (fun d => d.parameters.length) = some n)
theorem fits_bool {v : Int32} (h : v = 0 ∨ v = 1) : narrow .boolean (.int v) = .int v ∧ vp_nar .boolean v = v := by
  rcases h with rfl | rfl <;> exact ⟨rfl, rfl⟩
theorem hold_blind {Z : Sh} {D : va_G} {k : Nat → ClassId} {q : Nat → Nat} {σ : St} {av : List Value} : FrameBlind (va_Pc av (hold Z D k q σ)) := fun a U g mk h =>
  ⟨h.1, h.2.1, va_K.moved (u := U) (U := U.calling g mk a) (Vm.Alike.refl U.vm) h.2.2.1, nw_blind (s := U) (U := U.calling g mk a) rfl h.2.2.2⟩
section ROWS2
variable {X : CX} {Z : Sh} {ow : String} {cc : ByteArray} {nL : Nat} {ret : Option FieldType} {fr lo : Nat} {σ : St} {lv : List (Nat × Value)} {pc nx : Nat} {st : List Value} {t : Rt}
theorem hold_at (C : Cx X Z ow cc nL ret fr lo) {H : Heap} (hP : va_P (cD X) vwCl (wl Z (cq X) (ck X) σ) H) {U : State} (hU : U.heap = H) (hW : (cs X).WarmedH U.vm) : hold Z (cD X) (ck X) (cq X) σ U :=
  ⟨by rw [hU]; exact hP, va_K.moved hW.alike C.hK, nw_warm hW C.hnw⟩
theorem s_get (C : Cx X Z ow cc nL ret fr lo) {ci : Nat} {Cn : String} {T : u_T} {N : Nat} {ty : Nat → FieldType} (hF : FC ci Cn T N ty) {a : Nat} {fs : List Value} (ha : a < Z.1) (hz : Z.2 (cq X) (ck X) σ a = .inr (ci, fs)) (j : Nat) (hj : j < N) {ix : Nat} (hd : dec cc pc (.getfield ix) 3 nx) (hw : Cond.fieldLink ow ix (T j).1 (T j).2.1 (T j).2.2.1 ∈ gt) {v : Value} (hv : fs[j]? = some v) (kk : Sm X Z nL ret σ lv nx (v :: st) t) : Sm X Z nL ret σ lv pc (.ref (cq X a) :: st) t :=
  fun e H locs ls hl hP hS => by
    obtain ⟨hd, rfl⟩ := hd
    exact va_get (D := cD X) (ci := ci) (v := v) (C := Cn) (T := T) (N := N) C.exec C.bytes C.hts hF.1 C.own C.hK hP a (by rw [wl_get ha, hz]) hF.2.1 j hj (C.hts _ hw) (fun _ h9 => h9) hv hd (kk e H locs ls hl hP hS)
theorem s_put (C : Cx X Z ow cc nL ret fr lo) {ci : Nat} {Cn : String} {T : u_T} {N : Nat} {ty : Nat → FieldType} (hF : FC ci Cn T N ty) {a : Nat} {fs : List Value} (ha : a < Z.1) (hz : Z.2 (cq X) (ck X) σ a = .inr (ci, fs)) (j : Nat) (hj : j < N) {v : Int32} (hz' : Z.2 (cq X) (ck X) (up σ a j v) a = .inr (ci, fs.set j (.int v))) (hl0 : j < fs.length) {ix : Nat} (hd : dec cc pc (.putfield ix) 3 nx) (hw : Cond.fieldLink ow ix (T j).1 (T j).2.1 (T j).2.2.1 ∈ gt) (hfin : (T j).2.2.2 = false) (hty : ty j = .int) {kt : St → Rt} (kk : ∀ σ' : St, Sm X Z nL ret σ' lv nx st (kt σ')) : Sm X Z nL ret σ lv pc (.int v :: .ref (cq X a) :: st) (nmS (up σ a j v) kt) :=
  fun e H locs ls hl hP hS => by
    obtain ⟨hd, rfl⟩ := hd
    refine va_put (D := cD X) (ci := ci) (v := .int v) (ty := .int) (C := Cn) (T := T) (N := N) C.exec C.bytes C.hts hF.1 ty hF.2.2.1 hF.2.2.2 C.own C.hK hP (wl_D C.inj) hS a (by rw [wl_get ha, hz]) hF.2.1 j hj (C.hts _ hw) (fun _ h9 => h9) hfin (by rw [hF.2.2.1 j hj, hty]) rfl rfl hl0 hd (fun H1 locs1 hP1 _ hS1 => ?_)
    refine kk _ e H1 locs1 ls hl ?_ hS1
    rw [wl_set (σ' := up σ a j v) ha hz'.symm (fun i hi => C.lc _ _ _ _ _ (by funext x; simp [up, hi]))] at hP1
    exact hP1
theorem s_putZ (C : Cx X Z ow cc nL ret fr lo) {ci : Nat} {Cn : String} {T : u_T} {N : Nat} {ty : Nat → FieldType} (hF : FC ci Cn T N ty) {a : Nat} {fs : List Value} (ha : a < Z.1) (hz : Z.2 (cq X) (ck X) σ a = .inr (ci, fs)) (j : Nat) (hj : j < N) {v : Int32} (hz' : Z.2 (cq X) (ck X) (up σ a j v) a = .inr (ci, fs.set j (.int v))) (hl0 : j < fs.length) {ix : Nat} (hd : dec cc pc (.putfield ix) 3 nx) (hw : Cond.fieldLink ow ix (T j).1 (T j).2.1 (T j).2.2.1 ∈ gt) (hfin : (T j).2.2.2 = false) (hty : ty j = .boolean) {kt : St → Rt} (kk : ∀ σ' : St, Sm X Z nL ret σ' lv nx st (kt σ')) : Sm X Z nL ret σ lv pc (.int v :: .ref (cq X a) :: st) (vB v (nmS (up σ a j v) kt)) :=
  fun e H locs ls hl hP hS => by
    obtain ⟨hd, rfl⟩ := hd
    unfold vB at e
    by_cases h0 : v = 0 ∨ v = 1
    · rw [if_pos h0] at e
      refine va_put (D := cD X) (ci := ci) (v := .int v) (ty := .boolean) (C := Cn) (T := T) (N := N) C.exec C.bytes C.hts hF.1 ty hF.2.2.1 hF.2.2.2 C.own C.hK hP (wl_D C.inj) hS a (by rw [wl_get ha, hz]) hF.2.1 j hj (C.hts _ hw) (fun _ h9 => h9) hfin (by rw [hF.2.2.1 j hj, hty]) (fits_bool h0).1 (by rcases h0 with rfl | rfl <;> rfl) hl0 hd (fun H1 locs1 hP1 _ hS1 => ?_)
      refine kk _ e H1 locs1 ls hl ?_ hS1
      rw [wl_set (σ' := up σ a j v) ha hz'.symm (fun i hi => C.lc _ _ _ _ _ (by funext x; simp [up, hi]))] at hP1
      exact hP1
    · rw [if_neg h0] at e
      cases e
theorem bd_in {i : Int32} {n : Nat} (h : 0 ≤ i.toInt ∧ i.toInt < n) : vp_in i n := vp_in_iff.mpr h
theorem bd_lt {i : Int32} {n : Nat} (h : 0 ≤ i.toInt ∧ i.toInt < n) : i.toNatClampNeg < n := by
  have : i.toNatClampNeg = i.toInt.toNat := rfl
  omega
theorem s_iald (C : Cx X Z ow cc nL ret fr lo) {a n : Nat} {i : Int32} (ha : a < Z.1) (hz : ∀ σ, Z.2 (cq X) (ck X) σ a = .inl (ck X 0, n, .inl (σ a))) (hd : dec cc pc .iaload 1 nx) (kk : Sm X Z nL ret σ lv nx (.int (σ a i.toNatClampNeg) :: st) t) : Sm X Z nL ret σ lv pc (.int i :: .ref (cq X a) :: st) (bd i n t) :=
  fun e H locs ls hl hP hS => by
    obtain ⟨hd, rfl⟩ := hd
    unfold bd at e
    by_cases h0 : 0 ≤ i.toInt ∧ i.toInt < n
    · rw [if_pos h0] at e
      exact va_iald C.exec C.bytes C.hK hP a 0 (by rw [wl_get ha, hz]) rfl (bd_in h0) hd (kk e H locs ls hl hP hS)
    · rw [if_neg h0] at e
      cases e
theorem s_zald (C : Cx X Z ow cc nL ret fr lo) {a n : Nat} {i : Int32} (ha : a < Z.1) (hz : ∀ σ, Z.2 (cq X) (ck X) σ a = .inl (ck X 1, n, .inl (σ a))) (hd : dec cc pc .baload 1 nx) (kk : Sm X Z nL ret σ lv nx (.int (σ a i.toNatClampNeg) :: st) t) : Sm X Z nL ret σ lv pc (.int i :: .ref (cq X a) :: st) (bd i n t) :=
  fun e H locs ls hl hP hS => by
    obtain ⟨hd, rfl⟩ := hd
    unfold bd at e
    by_cases h0 : 0 ≤ i.toInt ∧ i.toInt < n
    · rw [if_pos h0] at e
      exact va_zald C.exec C.bytes C.hK hP a 1 (by rw [wl_get ha, hz]) rfl (bd_in h0) hd (kk e H locs ls hl hP hS)
    · rw [if_neg h0] at e
      cases e
theorem up_row {σ : St} {a i : Nat} {x : Int32} : up σ a i x a = upd (σ a) i x := by
  funext j
  by_cases h : j = i <;> simp [up, upd, h]
theorem s_iast (C : Cx X Z ow cc nL ret fr lo) {a n : Nat} {i x : Int32} (ha : a < Z.1) (hz : ∀ σ, Z.2 (cq X) (ck X) σ a = .inl (ck X 0, n, .inl (σ a))) (hd : dec cc pc .iastore 1 nx) {kt : St → Rt} (kk : ∀ σ' : St, Sm X Z nL ret σ' lv nx st (kt σ')) : Sm X Z nL ret σ lv pc (.int x :: .int i :: .ref (cq X a) :: st) (bd i n (nmS (up σ a i.toNatClampNeg x) kt)) :=
  fun e H locs ls hl hP hS => by
    obtain ⟨hd, rfl⟩ := hd
    unfold bd at e
    by_cases h0 : 0 ≤ i.toInt ∧ i.toInt < n
    · rw [if_pos h0] at e
      refine va_iast C.exec C.bytes C.hK hP (wl_D C.inj) hS a 0 (by rw [wl_get ha, hz]) rfl (bd_in h0) hd (fun H1 locs1 hP1 _ hS1 => ?_)
      refine kk _ e H1 locs1 ls hl ?_ hS1
      rw [wl_set (σ' := up σ a i.toNatClampNeg x) ha (by rw [hz, up_row]) (fun j hj => C.lc _ _ _ _ _ (by funext y; simp [up, hj]))] at hP1
      exact hP1
    · rw [if_neg h0] at e
      cases e
theorem s_zast (C : Cx X Z ow cc nL ret fr lo) {a n : Nat} {i x : Int32} (ha : a < Z.1) (hz : ∀ σ, Z.2 (cq X) (ck X) σ a = .inl (ck X 1, n, .inl (σ a))) (hd : dec cc pc .bastore 1 nx) {kt : St → Rt} (kk : ∀ σ' : St, Sm X Z nL ret σ' lv nx st (kt σ')) : Sm X Z nL ret σ lv pc (.int x :: .int i :: .ref (cq X a) :: st) (bd i n (vB x (nmS (up σ a i.toNatClampNeg x) kt))) :=
  fun e H locs ls hl hP hS => by
    obtain ⟨hd, rfl⟩ := hd
    unfold bd at e
    by_cases h0 : 0 ≤ i.toInt ∧ i.toInt < n
    · rw [if_pos h0] at e
      unfold vB at e
      by_cases h1 : x = 0 ∨ x = 1
      · rw [if_pos h1] at e
        refine va_zast C.exec C.bytes C.hK hP (wl_D C.inj) hS a 1 (by rw [wl_get ha, hz]) rfl (bd_in h0) hd (fun H1 locs1 hP1 _ hS1 => ?_)
        refine kk _ e H1 locs1 ls hl ?_ hS1
        rw [(fits_bool h1).2, wl_set (σ' := up σ a i.toNatClampNeg x) ha (by rw [hz, up_row]) (fun j hj => C.lc _ _ _ _ _ (by funext y; simp [up, hj]))] at hP1
        exact hP1
      · rw [if_neg h1] at e
        cases e
    · rw [if_neg h0] at e
      cases e
/-- a reference out of an array of references whose cells' numbers are known -/
theorem s_aald (C : Cx X Z ow cc nL ret fr lo) {a n c : Nat} {i : Int32} {f : Nat → Option Nat} {ty : FieldType} (g : Nat → Nat) (ha : a < Z.1) (hz : Z.2 (cq X) (ck X) σ a = .inl (ck X c, n, .inr (.inr (.inr (.inr f))))) (hr : ty.isReference = true) (ht : (tysOf (ck X))[c]? = some (ck X c, ty)) (hf : ∀ j, j < n → f j = some (cq X (g j))) (hd : dec cc pc .aaload 1 nx) (kk : i.toNatClampNeg < n → Sm X Z nL ret σ lv nx (.ref (cq X (g i.toNatClampNeg)) :: st) t) : Sm X Z nL ret σ lv pc (.int i :: .ref (cq X a) :: st) (bd i n t) :=
  fun e H locs ls hl hP hS => by
    obtain ⟨hd, rfl⟩ := hd
    unfold bd at e
    by_cases h0 : 0 ≤ i.toInt ∧ i.toInt < n
    · rw [if_pos h0] at e
      have hlt := bd_lt h0
      have hk := kk hlt e H locs ls hl hP hS
      have hc := hP a (cq X a, .inl (ck X c, n, .inr (.inr (.inr (.inr f))))) (by rw [wl_get ha, hz])
      exact W.aald (v := .ref (cq X (g i.toNatClampNeg))) (ty := ty) C.exec C.bytes hc ((C.hK.2 c _ ht).1 n (fun j => va_rf (f j))) hr (fun q => by cases q) (by show ¬ (i < 0 ∨ (arrV _ _ _).slots.size ≤ _); rw [arrV_size]; exact bd_in h0) (by show (arrV _ _ _).slots[_]? = _; rw [arrV_read _ _ hlt, hf _ hlt]; rfl) rfl rfl hd hk
    · rw [if_neg h0] at e
      cases e
theorem upR_row {σ : St} {a : Nat} {f : Nat → Int32} : upR σ a f a = f := by
  funext j
  simp [upR]
theorem s_copy (C : Cx X Z ow cc nL ret fr lo) {a0 a1 n0 n1 ix : Nat} {sp dp n : Int32} (ha0 : a0 < Z.1) (ha1 : a1 < Z.1) (hz0 : ∀ σ, Z.2 (cq X) (ck X) σ a0 = .inl (ck X 0, n0, .inl (σ a0))) (hz1 : ∀ σ, Z.2 (cq X) (ck X) σ a1 = .inl (ck X 0, n1, .inl (σ a1))) (hl0 : Cond.methodLink ow ix arraycopyName ∈ gt) (hw : Cond.native arraycopyName ∈ gt ∧ Cond.static arraycopyName ∈ gt ∧ Cond.initialized "java/lang/System" ∈ gt) (hR : 1 ≤ fr ∧ (st.map fun v => v.category).sum + (nativeFrameWords "java/lang/System" "arraycopy" 5 + 11) ≤ lo) (hd : dec cc pc (.invokestatic ix) 3 nx) {kt : St → Rt} (kk : ∀ σ' : St, Sm X Z nL ret σ' lv nx st (kt σ')) : Sm X Z nL ret σ lv pc (.int n :: .int dp :: .ref (cq X a1) :: .int sp :: .ref (cq X a0) :: st) (bdc sp dp n n0 n1 (nmS (upR σ a1 (va_cpy (σ a0) (σ a1) sp.toNatClampNeg dp.toNatClampNeg n.toNatClampNeg)) kt)) :=
  fun e H locs ls hl hP hS => by
    obtain ⟨hd, rfl⟩ := hd
    unfold bdc at e
    by_cases h0 : ¬ sp < 0 ∧ ¬ dp < 0 ∧ ¬ n < 0 ∧ sp.toNatClampNeg + n.toNatClampNeg ≤ n0 ∧ dp.toNatClampNeg + n.toNatClampNeg ≤ n1
    · rw [if_pos h0] at e
      refine va_copyi C.exec C.bytes (by rw [C.maxl]; exact hl.1.symm) C.own (C.hts _ hl0) (C.hts _ hw.1) (C.hts _ hw.2.1) (C.hts _ hw.2.2) C.hK hP (wl_D C.inj) hS a0 a1 0 0 (by rw [wl_get ha0, hz0]) (by rw [wl_get ha1, hz1]) rfl rfl rfl h0.1 h0.2.1 h0.2.2.1 h0.2.2.2.1 h0.2.2.2.2 (fun _ _ => rfl) (by rw [C.room]; exact hR.1) (by rw [C.room]; exact hR.2) hd (fun H1 locs1 hP1 _ hS1 => ?_)
      refine kk _ e H1 locs1 ls hl ?_ hS1
      rw [wl_set (σ' := upR σ a1 (va_cpy (σ a0) (σ a1) sp.toNatClampNeg dp.toNatClampNeg n.toNatClampNeg)) ha1 (by rw [hz1, upR_row]) (fun j hj => C.lc _ _ _ _ _ (by funext y; simp [upR, hj]))] at hP1
      exact hP1
    · rw [if_neg h0] at e
      cases e
theorem s_mmin (C : Cx X Z ow cc nL ret fr lo) {ix : Nat} {x y : Int32} (hl0 : Cond.methodLink ow ix Lib.Math.min.name ∈ gt) (hw : Cond.static Lib.Math.min.name ∈ gt ∧ Cond.initialized "java/lang/Math" ∈ gt ∧ Cond.code Lib.Math.min.name Lib.Math.min.code 2 (some .int) ∈ gt) (hR : 1 ≤ fr ∧ (st.map fun v => v.category).sum + 13 ≤ lo) (hd : dec cc pc (.invokestatic ix) 3 nx) (kk : Sm X Z nL ret σ lv nx (.int (if y < x then y else x) :: st) t) : Sm X Z nL ret σ lv pc (.int y :: .int x :: st) t :=
  fun e H locs ls hl hP hS => by
    obtain ⟨hd, rfl⟩ := hd
    exact va_mmin C.exec C.bytes (by rw [C.maxl]; exact hl.1.symm) C.own (C.hts _ hl0) (C.hts _ hw.1) (C.hts _ hw.2.1) (C.hts _ hw.2.2) (by rw [C.room]; exact hR.1) (by rw [C.room]; exact hR.2) (Nat.zero_le _) (Nat.zero_le _) hd (kk e H locs ls hl hP hS)
theorem s_callV (C : Cx X Z ow cc nL ret fr lo) {y : MethodName} {bytes : ByteArray} {nL' : Nat} {rt : FieldType} {fr' lo' n ix a : Nat} {As : List Value} {o : Rt} {kt : Int32 → St → Rt} (hM : Ct (cl X) Z (cD X) (ck X) (cq X) y bytes nL' (some rt) fr' lo' (.ref (cq X a) :: As) σ o) (hw : WV y bytes nL' (some rt) n) (hl0 : Cond.methodLink ow ix y ∈ gt) (hR : fr' + 1 ≤ fr ∧ 8 + (nL' + 11) + lo' ≤ lo)
    {ci : Nat} {Cn : String} {T : u_T} {N : Nat} {ty : Nat → FieldType} (hF : FC ci Cn T N ty) (hC : Cn = y.cls) {fs : List Value} (ha : a < Z.1) (hz : Z.2 (cq X) (ck X) σ a = .inr (ci, fs)) (hn : As.length = n) (hcat : (st.map fun v => v.category).sum ≤ 8) (hd : dec cc pc (.invokevirtual ix) 3 nx) (kk : ∀ (r : Int32) (σ' : St), Sm X Z nL ret σ' lv nx (.int r :: st) (kt r σ')) : Sm X Z nL ret σ lv pc (As.reverse ++ .ref (cq X a) :: st) (bnd o kt) :=
  fun e H locs ls hl hP hS => by
    obtain ⟨hd, rfl⟩ := hd
    cases ho : o with
    | none => rw [ho] at e; cases e
    | some x =>
      rw [ho] at e
      have e : kt x.1 x.2 = some (cx X) := e
      subst hC
      have hmem : ∀ w ∈ Cond.code y bytes nL' (some rt) :: gt, w ∈ gt := fun w hw' => (List.mem_cons.mp hw').elim (fun z => z ▸ hw.2.2.2.1) id
      have hG : GoodIn gt (Cond.code y bytes nL' (some rt) :: gt) := gt_in hmem
      refine va_calli (va_runV (As := As) (rest := st) (Ts := gt) ⟨C.exec, C.bytes, C.maxl, C.own, C.hts⟩ (hM x ho) ⟨callB_of n C.hts hG rfl rfl rfl (C.hts _ hw.2.2.1) (C.hts _ hl0) hw.2.2.2.2 (by rw [C.room]; exact hR), C.hts _ hw.1, C.hts _ hw.2.1⟩ ⟨hold_blind, va_recv C.hK hP (ci := ci) (q0 := a) hF.2.1 (by rw [wl_get ha, hz]), fun U hU hW => ⟨rfl, hold_at C hP hU hW⟩⟩ rfl hn hl.1 rfl (lv_room hcat) hd ⟨Nat.zero_le _, Nat.zero_le _⟩) hS (fun q _ h => h) (fun q h => h) (fun r u t H1 locs1 ht hvm hpost hB hsz hk1 hS1 => ?_)
      obtain ⟨rfl, rfl⟩ := hpost
      rw [ht] at hB
      exact kk _ _ e H1 locs1 ls hl hB hS1
theorem s_callVv (C : Cx X Z ow cc nL ret fr lo) {y : MethodName} {bytes : ByteArray} {nL' : Nat} {fr' lo' n ix a : Nat} {As : List Value} {o : Rt} {kt : Int32 → St → Rt} (hM : Ct (cl X) Z (cD X) (ck X) (cq X) y bytes nL' none fr' lo' (.ref (cq X a) :: As) σ o) (hw : WV y bytes nL' none n) (hl0 : Cond.methodLink ow ix y ∈ gt) (hR : fr' + 1 ≤ fr ∧ 8 + (nL' + 11) + lo' ≤ lo)
    {ci : Nat} {Cn : String} {T : u_T} {N : Nat} {ty : Nat → FieldType} (hF : FC ci Cn T N ty) (hC : Cn = y.cls) {fs : List Value} (ha : a < Z.1) (hz : Z.2 (cq X) (ck X) σ a = .inr (ci, fs)) (hn : As.length = n) (hcat : (st.map fun v => v.category).sum ≤ 8) (hd : dec cc pc (.invokevirtual ix) 3 nx) (kk : ∀ (r : Int32) (σ' : St), Sm X Z nL ret σ' lv nx st (kt r σ')) : Sm X Z nL ret σ lv pc (As.reverse ++ .ref (cq X a) :: st) (bnd o kt) :=
  fun e H locs ls hl hP hS => by
    obtain ⟨hd, rfl⟩ := hd
    cases ho : o with
    | none => rw [ho] at e; cases e
    | some x =>
      rw [ho] at e
      have e : kt x.1 x.2 = some (cx X) := e
      subst hC
      have hmem : ∀ w ∈ Cond.code y bytes nL' none :: gt, w ∈ gt := fun w hw' => (List.mem_cons.mp hw').elim (fun z => z ▸ hw.2.2.2.1) id
      have hG : GoodIn gt (Cond.code y bytes nL' none :: gt) := gt_in hmem
      refine va_callv (va_runV (As := As) (rest := st) (Ts := gt) ⟨C.exec, C.bytes, C.maxl, C.own, C.hts⟩ (hM x ho) ⟨callB_of n C.hts hG rfl rfl rfl (C.hts _ hw.2.2.1) (C.hts _ hl0) hw.2.2.2.2 (by rw [C.room]; exact hR), C.hts _ hw.1, C.hts _ hw.2.1⟩ ⟨hold_blind, va_recv C.hK hP (ci := ci) (q0 := a) hF.2.1 (by rw [wl_get ha, hz]), fun U hU hW => ⟨rfl, hold_at C hP hU hW⟩⟩ rfl hn hl.1 rfl (lv_room hcat) hd ⟨Nat.zero_le _, Nat.zero_le _⟩) hS (fun q _ h => h) (fun q h => h) (fun u t H1 locs1 ht hvm hpost hB hsz hk1 hS1 => ?_)
      have hpost : u = x.2 := hpost
      subst hpost
      rw [ht] at hB
      exact kk _ _ e H1 locs1 ls hl hB hS1
theorem s_callS (C : Cx X Z ow cc nL ret fr lo) {y : MethodName} {bytes : ByteArray} {nL' : Nat} {rt : FieldType} {fr' lo' n ix : Nat} {As : List Value} {o : Rt} {kt : Int32 → St → Rt} (hM : Ct (cl X) Z (cD X) (ck X) (cq X) y bytes nL' (some rt) fr' lo' As σ o) (hw : WS y bytes nL' (some rt) n) (hl0 : Cond.methodLink ow ix y ∈ gt) (hR : fr' + 1 ≤ fr ∧ 8 + (nL' + 11) + lo' ≤ lo) (hn : As.length = n) (hcat : (st.map fun v => v.category).sum ≤ 8) (hd : dec cc pc (.invokestatic ix) 3 nx) (kk : ∀ (r : Int32) (σ' : St), Sm X Z nL ret σ' lv nx (.int r :: st) (kt r σ')) : Sm X Z nL ret σ lv pc (As.reverse ++ st) (bnd o kt) :=
  fun e H locs ls hl hP hS => by
    obtain ⟨hd, rfl⟩ := hd
    cases ho : o with
    | none => rw [ho] at e; cases e
    | some x =>
      rw [ho] at e
      have e : kt x.1 x.2 = some (cx X) := e
      have hmem : ∀ w ∈ Cond.code y bytes nL' (some rt) :: gt, w ∈ gt := fun w hw' => (List.mem_cons.mp hw').elim (fun z => z ▸ hw.2.2.1) id
      have hG : GoodIn gt (Cond.code y bytes nL' (some rt) :: gt) := gt_in hmem
      refine va_calli (va_runS (As := As) (rest := st) (Ts := gt) ⟨C.exec, C.bytes, C.maxl, C.own, C.hts⟩ (hM x ho) ⟨callB_of n C.hts hG rfl rfl rfl (C.hts _ hw.2.1) (C.hts _ hl0) hw.2.2.2 (by rw [C.room]; exact hR), C.hts _ hw.1⟩ ⟨hold_blind, fun U hU hW => ⟨rfl, hold_at C hP hU hW⟩⟩ rfl hn hl.1 rfl (lv_room hcat) hd ⟨Nat.zero_le _, Nat.zero_le _⟩) hS (fun q _ h => h) (fun q h => h) (fun r u t H1 locs1 ht hvm hpost hB hsz hk1 hS1 => ?_)
      obtain ⟨rfl, rfl⟩ := hpost
      rw [ht] at hB
      exact kk _ _ e H1 locs1 ls hl hB hS1
theorem s_callSv (C : Cx X Z ow cc nL ret fr lo) {y : MethodName} {bytes : ByteArray} {nL' : Nat} {fr' lo' n ix : Nat} {As : List Value} {o : Rt} {kt : Int32 → St → Rt} (hM : Ct (cl X) Z (cD X) (ck X) (cq X) y bytes nL' none fr' lo' As σ o) (hw : WS y bytes nL' none n) (hl0 : Cond.methodLink ow ix y ∈ gt) (hR : fr' + 1 ≤ fr ∧ 8 + (nL' + 11) + lo' ≤ lo) (hn : As.length = n) (hcat : (st.map fun v => v.category).sum ≤ 8) (hd : dec cc pc (.invokestatic ix) 3 nx) (kk : ∀ (r : Int32) (σ' : St), Sm X Z nL ret σ' lv nx st (kt r σ')) : Sm X Z nL ret σ lv pc (As.reverse ++ st) (bnd o kt) :=
  fun e H locs ls hl hP hS => by
    obtain ⟨hd, rfl⟩ := hd
    cases ho : o with
    | none => rw [ho] at e; cases e
    | some x =>
      rw [ho] at e
      have e : kt x.1 x.2 = some (cx X) := e
      have hmem : ∀ w ∈ Cond.code y bytes nL' none :: gt, w ∈ gt := fun w hw' => (List.mem_cons.mp hw').elim (fun z => z ▸ hw.2.2.1) id
      have hG : GoodIn gt (Cond.code y bytes nL' none :: gt) := gt_in hmem
      refine va_callv (va_runS (As := As) (rest := st) (Ts := gt) ⟨C.exec, C.bytes, C.maxl, C.own, C.hts⟩ (hM x ho) ⟨callB_of n C.hts hG rfl rfl rfl (C.hts _ hw.2.1) (C.hts _ hl0) hw.2.2.2 (by rw [C.room]; exact hR), C.hts _ hw.1⟩ ⟨hold_blind, fun U hU hW => ⟨rfl, hold_at C hP hU hW⟩⟩ rfl hn hl.1 rfl (lv_room hcat) hd ⟨Nat.zero_le _, Nat.zero_le _⟩) hS (fun q _ h => h) (fun q h => h) (fun u t H1 locs1 ht hvm hpost hB hsz hk1 hS1 => ?_)
      have hpost : u = x.2 := hpost
      subst hpost
      rw [ht] at hB
      exact kk _ _ e H1 locs1 ls hl hB hS1
theorem s_callN (C : Cx X Z ow cc nL ret fr lo) {y : MethodName} {bytes : ByteArray} {nL' : Nat} {rt : FieldType} {fr' lo' n ix : Nat} {host : String} {As : List Value} {o : Rt} {kt : Int32 → St → Rt} (hM : Ct (cl X) Z (cD X) (ck X) (cq X) y bytes nL' (some rt) fr' lo' As σ o) (hw : WS y bytes nL' (some rt) n) (hl0 : Cond.methodLinkNest ow ix y host ∈ nw) (hR : fr' + 1 ≤ fr ∧ 8 + (nL' + 11) + lo' ≤ lo) (hn : As.length = n) (hcat : (st.map fun v => v.category).sum ≤ 8) (hd : dec cc pc (.invokestatic ix) 3 nx) (kk : ∀ (r : Int32) (σ' : St), Sm X Z nL ret σ' lv nx (.int r :: st) (kt r σ')) : Sm X Z nL ret σ lv pc (As.reverse ++ st) (bnd o kt) :=
  fun e H locs ls hl hP hS => by
    obtain ⟨hd, rfl⟩ := hd
    cases ho : o with
    | none => rw [ho] at e; cases e
    | some x =>
      rw [ho] at e
      have e : kt x.1 x.2 = some (cx X) := e
      have hmem : ∀ w ∈ Cond.code y bytes nL' (some rt) :: gt, w ∈ gt := fun w hw' => (List.mem_cons.mp hw').elim (fun z => z ▸ hw.2.2.1) id
      have hG : GoodIn gt (Cond.code y bytes nL' (some rt) :: gt) := gt_in hmem
      refine va_calli (va_runSN (As := As) (rest := st) (Ts := gt) ⟨C.exec, C.bytes, C.maxl, C.own, C.hts⟩ (hM x ho) ⟨va_cnB n C.hts hG rfl rfl rfl (C.hnw _ hl0) (C.hts _ hw.2.1) hw.2.2.2 (by rw [C.room]; exact hR), C.hts _ hw.1, trivial⟩ ⟨hold_blind, fun U hU hW => ⟨rfl, hold_at C hP hU hW⟩⟩ rfl hn hl.1 rfl (lv_room hcat) hd ⟨Nat.zero_le _, Nat.zero_le _⟩) hS (fun q _ h => h) (fun q h => h) (fun r u t H1 locs1 ht hvm hpost hB hsz hk1 hS1 => ?_)
      obtain ⟨rfl, rfl⟩ := hpost
      rw [ht] at hB
      exact kk _ _ e H1 locs1 ls hl hB hS1
theorem s_iret (C : Cx X Z ow cc nL (some .int) fr lo) {x : Int32} (hd : dec cc pc .ireturn 1 nx) : Sm X Z nL (some .int) σ lv pc [.int x] (some (x, σ)) :=
  fun e H locs ls hl hP hS => by
    have e : (x, σ) = cx X := Option.some.inj e
    exact W.iret C.exec C.bytes C.sig (fun t ht hW => ⟨⟨x, σ, rfl, ⟨by rw [← e], by rw [← e]⟩, by dsimp only; rw [ht]; exact hP⟩, hS.F ht⟩) hS.2.2 hd.1 C.locks
theorem s_zret (C : Cx X Z ow cc nL (some .boolean) fr lo) {x : Int32} (hd : dec cc pc .ireturn 1 nx) : Sm X Z nL (some .boolean) σ lv pc [.int x] (vB x (some (x, σ))) :=
  fun e H locs ls hl hP hS => by
    unfold vB at e
    by_cases h0 : x = 0 ∨ x = 1
    · rw [if_pos h0] at e
      have e : (x, σ) = cx X := Option.some.inj e
      exact W.zret C.exec C.bytes C.sig (fits_bool h0).1 (fun t ht hW => ⟨⟨x, σ, rfl, ⟨by rw [← e], by rw [← e]⟩, by dsimp only; rw [ht]; exact hP⟩, hS.F ht⟩) hS.2.2 hd.1 C.locks
    · rw [if_neg h0] at e
      cases e
theorem s_vret (C : Cx X Z ow cc nL none fr lo) {x : Int32} (hd : dec cc pc .return_ 1 nx) : Sm X Z nL none σ lv pc [] (some (x, σ)) :=
  fun e H locs ls hl hP hS => by
    have e : (x, σ) = cx X := Option.some.inj e
    exact W.vret C.exec C.bytes C.sig (fun t ht hW => ⟨⟨σ, rfl, (by rw [← e]), by dsimp only; rw [ht]; exact hP⟩, hS.F ht⟩) hS.2.2 hd.1 C.locks
theorem s_split {c : Prop} {dc : Decidable c} {t1 t2 : Rt} (k1 : c → Sm X Z nL ret σ lv pc st t1) (k2 : ¬ c → Sm X Z nL ret σ lv pc st t2) : Sm X Z nL ret σ lv pc st (@ite Rt c dc t1 t2) :=
  fun e => by
    by_cases h : c
    · exact k1 h (by rw [if_pos h] at e; exact e)
    · exact k2 h (by rw [if_neg h] at e; exact e)
theorem s_tabI (C : Cx X Z ow cc nL ret fr lo) {dflt l h : Int} {offs : Array Int} {len : Nat} {x v : Int32} {off : Int} {tgt : Nat} (hx : x = v) (hd : dec cc pc (.tableswitch dflt l h offs) len nx) (h1 : ¬ v.toInt < l) (h2 : ¬ h < v.toInt) (ho : offs[(v.toInt - l).toNat]? = some off) (ht : (pc : Int) + off = (tgt : Int)) (kk : Sm X Z nL ret σ lv tgt st t) : Sm X Z nL ret σ lv pc (.int x :: st) t :=
  fun e H locs ls hl hP hS => by
    subst hx
    exact lv_tableIn C.exec C.bytes hd.1 h1 h2 ho ht (kk e H locs ls hl hP hS)
theorem s_tabO (C : Cx X Z ow cc nL ret fr lo) {dflt l h : Int} {offs : Array Int} {len : Nat} {x : Int32} {tgt : Nat} (hd : dec cc pc (.tableswitch dflt l h offs) len nx) (hx : x.toInt < l ∨ h < x.toInt) (ht : (pc : Int) + dflt = (tgt : Int)) (kk : Sm X Z nL ret σ lv tgt st t) : Sm X Z nL ret σ lv pc (.int x :: st) t :=
  fun e H locs ls hl hP hS => lv_tableOut C.exec C.bytes hd.1 hx ht (kk e H locs ls hl hP hS)
theorem s_look (C : Cx X Z ow cc nL ret fr lo) {dflt : Int} {ps : Array (Int × Int)} {len : Nat} {x : Int32} {off : Int} {tgt : Nat} (hd : dec cc pc (.lookupswitch dflt ps) len nx) (hp : (ps.toList.zip (ps.toList.drop 1)).all (fun (a, next) => a.1 < next.1) = true) (ho : Op.lookupswitch.offset ps.toList dflt x.toInt = off) (ht : (pc : Int) + off = (tgt : Int)) (kk : Sm X Z nL ret σ lv tgt st t) : Sm X Z nL ret σ lv pc (.int x :: st) t :=
  fun e H locs ls hl hP hS => lv_lookup C.exec C.bytes hd.1 hp ho ht (kk e H locs ls hl hP hS)
end ROWS2
theorem Ct_of {l : Launch} {Z : Sh} {D : va_G} {k : Nat → ClassId} {q : Nat → Nat} {y : MethodName} {cc : ByteArray} {nL : Nat} {ret : Option FieldType} {fr lo : Nat} {av : List Value} {σ : St} {o : Rt} (hq : Inj Z q) (hL : Lc Z) (hy : plainName y.cls = true) (hlen : (lg_sl av).length ≤ nL)
    (body : ∀ (p : Program) (e : Env) (R : Room) (s : State) (m : MethodId) (args : Array Value) (below : List Frame) (meth : Method) (c : Code) (x : Int32 × St), Cx (p, l, e, R, s, m, args, below, meth, c, D, k, q, x) Z y.cls cc nL ret fr lo → Sm (p, l, e, R, s, m, args, below, meth, c, D, k, q, x) Z nL ret σ (lv_args 0 av) 0 [] o) : Ct l Z D k q y cc nL ret fr lo av σ o := by
  intro x hx
  refine Met.ofW (cc := cc) (maxL := nL) (ret := ret) hy rfl ?_
  intro p e s m args below meth c s₁ B hml hv
  obtain ⟨rfl, hP, hK, hN⟩ := hv
  have hts0 := atoms_spec (ws := Cond.code y cc nL ret :: gt) B.pre
  have h := body p e { frames := fr, cells := 0, slots := 0, locals := lo } s m av.toArray below meth c x ⟨B.exec, B.bytes, hml, findClass_of_methodNamed B.named, fun w hw => hts0 w (List.mem_cons_of_mem _ hw), hN, B.returns, B.notSynchronized, rfl, hK, hq, hL⟩ hx s.heap [] ((lg_sl av ++ List.replicate (nL - (lg_sl av).length) Slot.unset).toArray) (lv_entry av hlen) hP va_S.rf
  rw [lg_entry_eq]
  exact h
