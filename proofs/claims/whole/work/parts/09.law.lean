def R_law : String := "PinBoardsLaw"
def lw_P (b : Addr) (xs : List Int32) (args : Array Value) (s : State) : Prop := args = #[.ref b] ∧ s.IntsAt b xs ∧ xs.length ≤ 384 ∧ (Jvm.Cond.and given_1 narrow_1).before args s = true
def lw_Q (_ : Array Value) (s : State) (o : Outcome) (t : State) : Prop := o = .returned (some (.int 1)) ∧ Framed s o t [] 600000 7302250
def lw_Z (below : List Frame) (a : Array Value) (s : State) : State → Prop := fun t => ∃ o, t.status = .running ∧ Ended t below o ∧ lw_Q a s o t
/-- the law's own end, with 1 on the stack, nothing written that was there before, its room as the claim has it -/
theorem lw_ret {p : Program} {l : Launch} {e : Env} {s : State} {m : MethodId} {below : List Frame} {meth : Method} {c : Code} {b : Nat} (hx : p.tables.exec = Jvm.exec) (hb : c.code = code) (hr : meth.sig.returnType = ret) (hlocks : meth.locks = false) {pc : Nat} {H : Heap} {ls : Array Slot} (hdg : decode code pc = .ok (.ireturn, 1)) : W p l e room_1 s m #[Value.ref b] below meth c H [] 600000 7302250 (lw_Z below #[Value.ref b] s) (F0 m pc ls [.int 1]) := by
  intro T hT X
  obtain ⟨fs, hret, hrun, hended, hW, hframe⟩ := X.leave (v := some (.int 1)) (hlocks := hlocks) (fun h => by rw [hr] at h; cases h)
  have hmeth' : T.vm.method? m = some meth := X.method'
  refine ⟨T.setFrames fs, ?_, .returned (some (.int 1)), hrun, hended, rfl, ⟨_, rfl⟩, hW, hframe⟩
  jvm_step X.here [X.here.top, hx, hb, hdg, hmeth', hr, ret, narrow_b1]
  (try refine ⟨rfl, ?_⟩); (try refine ⟨rfl, ?_⟩)
  first | (intro acts; rw [hret _ acts rfl rfl rfl]) | rw [hret _ _ rfl rfl rfl]
  exact Steps.refl _
/-- what holds at the law's entry: the machine, the code, the tables' words (any of lw_tbl by 'hts w (by decide +kernel)'), the script of L ints xs at the cell b, what the Statement gives of the start (any of its parts by flat_of_before) -/
def lw_At (p : Program) (s : State) (m : MethodId) (meth : Method) (c : Code) (b L : Nat) (xs : Nat → Int32) : Prop :=
  p.tables.exec = Jvm.exec ∧ c.code = code ∧ meth.sig.returnType = ret ∧ c.maxLocals = 4 ∧ s.vm.findClass R_law = some m.cls ∧ (∀ w ∈ lw_tbl, w.before #[Value.ref b] s = true) ∧ va_X b L xs s s.heap ∧ b < s.heap.size ∧ meth.locks = false ∧ (Jvm.Cond.and given_1 narrow_1).before #[Value.ref b] s = true
/-! the law's loop, over two worlds -/
abbrev LX : Type := Program × Launch × Env × State × MethodId × List Frame × Method × Code × Nat × Nat × (Nat → Int32) × va_G × (Nat → ClassId) × (Nat → Nat) × (Nat → Nat) × Nat × Nat
def xp (X : LX) : Program := X.1
def xl (X : LX) : Launch := X.2.1
def xe (X : LX) : Env := X.2.2.1
def xst (X : LX) : State := X.2.2.2.1
def xm (X : LX) : MethodId := X.2.2.2.2.1
def xb (X : LX) : List Frame := X.2.2.2.2.2.1
def xM (X : LX) : Method := X.2.2.2.2.2.2.1
def xc (X : LX) : Code := X.2.2.2.2.2.2.2.1
def xa (X : LX) : Nat := X.2.2.2.2.2.2.2.2.1
def xL (X : LX) : Nat := X.2.2.2.2.2.2.2.2.2.1
def xxs (X : LX) : Nat → Int32 := X.2.2.2.2.2.2.2.2.2.2.1
def xD (X : LX) : va_G := X.2.2.2.2.2.2.2.2.2.2.2.1
def xk (X : LX) : Nat → ClassId := X.2.2.2.2.2.2.2.2.2.2.2.2.1
def xq (X : LX) : Nat → Nat := X.2.2.2.2.2.2.2.2.2.2.2.2.2.1
def xqm (X : LX) : Nat → Nat := X.2.2.2.2.2.2.2.2.2.2.2.2.2.2.1
def xnc (X : LX) : Nat := X.2.2.2.2.2.2.2.2.2.2.2.2.2.2.2.1
def xns (X : LX) : Nat := X.2.2.2.2.2.2.2.2.2.2.2.2.2.2.2.2
def LC (X : LX) : Prop := lw_At (xp X) (xst X) (xm X) (xM X) (xc X) (xa X) (xL X) (xxs X) ∧ xL X ≤ 384 ∧ Inj ZX (xq X) ∧ Inj ZM (xqm X) ∧ (∀ i j : Nat, i < 217 → j < 16 → xq X i ≠ xqm X j) ∧ (∀ i, i < 217 → (xst X).heap.size ≤ xq X i) ∧ (∀ j, j < 16 → (xst X).heap.size ≤ xqm X j) ∧ va_K (xD X) vwCl (tysOf (xk X)) (xst X) ∧ xnc X ≤ 600000 ∧ xns X ≤ 7302250
def Lg (X : LX) (σ μ : St) (lv : List (Nat × Value)) (pc : Nat) (st : List Value) : Prop :=
  ∀ (H : Heap) (locs : List Loc) (ls : Array Slot), lv_has ls 4 lv → va_P (xD X) vwCl (wl ZX (xq X) (xk X) σ) H → va_P (xD X) vwCl (wl ZM (xqm X) (xk X) μ) H → va_S (fun q : Nat => (xst X).heap.size ≤ q) (xst X).heap H locs →
    W (xp X) (xl X) (xe X) room_1 (xst X) (xm X) #[Value.ref (xa X)] (xb X) (xM X) (xc X) H locs (xnc X) (xns X) (lw_Z (xb X) #[Value.ref (xa X)] (xst X)) (F0 (xm X) pc ls st)
theorem gt_lw {w : Cond} (h : w ∈ gt) : w ∈ lw_tbl := (List.mem_filter.mp h).1
theorem nw_of {s : State} {args : Array Value} (hts : ∀ w ∈ lw_tbl, w.before args s = true) : ∀ w ∈ nw, va_Nw w s := by
  intro w hw
  have h2 := List.mem_filter.mp hw
  cases w <;> first | exact va_Nw.of rfl (hts _ h2.1) | (simp [cx_isN] at h2)
section LROWS
variable {X : LX} {σ μ : St} {lv : List (Nat × Value)} {pc nx : Nat} {st : List Value}
theorem LC.at (C : LC X) : lw_At (xp X) (xst X) (xm X) (xM X) (xc X) (xa X) (xL X) (xxs X) := C.1
theorem LC.exec (C : LC X) : (xp X).tables.exec = Jvm.exec := C.1.1
theorem LC.bytes (C : LC X) : (xc X).code = cL_law := C.1.2.1
theorem LC.ret (C : LC X) : (xM X).sig.returnType = ret := C.1.2.2.1
theorem LC.maxl (C : LC X) : (xc X).maxLocals = 4 := C.1.2.2.2.1
theorem LC.own (C : LC X) : (xst X).vm.findClass RL = some (xm X).cls := C.1.2.2.2.2.1
theorem LC.htl (C : LC X) : ∀ w ∈ lw_tbl, w.before #[Value.ref (xa X)] (xst X) = true := C.1.2.2.2.2.2.1
theorem LC.hX (C : LC X) : va_X (xa X) (xL X) (xxs X) (xst X) (xst X).heap := C.1.2.2.2.2.2.2.1
theorem LC.hbl (C : LC X) : xa X < (xst X).heap.size := C.1.2.2.2.2.2.2.2.1
theorem LC.locks (C : LC X) : (xM X).locks = false := C.1.2.2.2.2.2.2.2.2.1
theorem LC.hts (C : LC X) : ∀ w ∈ gt, w.before #[Value.ref (xa X)] (xst X) = true := fun w h => C.htl w (gt_lw h)
theorem LC.hL (C : LC X) : xL X ≤ 384 := C.2.1
theorem LC.iX (C : LC X) : Inj ZX (xq X) := C.2.2.1
theorem LC.iM (C : LC X) : Inj ZM (xqm X) := C.2.2.2.1
theorem LC.ne (C : LC X) : ∀ i j : Nat, i < 217 → j < 16 → xq X i ≠ xqm X j := C.2.2.2.2.1
theorem LC.geX (C : LC X) : ∀ i, i < 217 → (xst X).heap.size ≤ xq X i := C.2.2.2.2.2.1
theorem LC.geM (C : LC X) : ∀ j, j < 16 → (xst X).heap.size ≤ xqm X j := C.2.2.2.2.2.2.1
theorem LC.hK (C : LC X) : va_K (xD X) vwCl (tysOf (xk X)) (xst X) := C.2.2.2.2.2.2.2.1
theorem LC.nc (C : LC X) : xnc X ≤ 600000 := C.2.2.2.2.2.2.2.2.1
theorem LC.ns (C : LC X) : xns X ≤ 7302250 := C.2.2.2.2.2.2.2.2.2
theorem LC.hbA (C : LC X) : ¬ (fun q : Nat => (xst X).heap.size ≤ q) (xa X) := Nat.not_le.mpr C.hbl
theorem l_cut {lv' : List (Nat × Value)} (h : Lg X σ μ lv' pc st) (hs : subl lv' lv) : Lg X σ μ lv pc st :=
  fun H locs ls hl hP hM hS => h H locs ls (subl_has hl hs) hP hM hS
theorem l_iload_n (C : LC X) {i : Fin 4} {x : Int32} (hd : dec cL_law pc (.iload_n i) 1 nx) (hv : lkp lv i.val = some (.int x)) (kk : Lg X σ μ lv nx (.int x :: st)) : Lg X σ μ lv pc st :=
  fun H locs ls hl hP hM hS => by
    obtain ⟨hd, rfl⟩ := hd
    exact lv_iload_n C.exec C.bytes hd rfl (lkp_has hl hv) (kk H locs ls hl hP hM hS)
theorem l_aload_n (C : LC X) {i : Fin 4} {x : Nat} (hd : dec cL_law pc (.aload_n i) 1 nx) (hv : lkp lv i.val = some (.ref x)) (kk : Lg X σ μ lv nx (.ref x :: st)) : Lg X σ μ lv pc st :=
  fun H locs ls hl hP hM hS => by
    obtain ⟨hd, rfl⟩ := hd
    exact lv_aload_n C.exec C.bytes hd rfl (lkp_has hl hv) (kk H locs ls hl hP hM hS)
theorem l_iconst (C : LC X) {n : Int} {v : Int32} (hd : dec cL_law pc (.iconst n) 1 nx) (hv : Int32.ofInt n = v) (kk : Lg X σ μ lv nx (.int v :: st)) : Lg X σ μ lv pc st :=
  fun H locs ls hl hP hM hS => by
    obtain ⟨hd, rfl⟩ := hd
    exact lv_iconst C.exec C.bytes hd hv (kk H locs ls hl hP hM hS)
theorem l_bipush (C : LC X) {n : Int} {v : Int32} (hd : dec cL_law pc (.bipush n) 2 nx) (hv : (Int8.ofInt n).toInt32 = v) (kk : Lg X σ μ lv nx (.int v :: st)) : Lg X σ μ lv pc st :=
  fun H locs ls hl hP hM hS => by
    obtain ⟨hd, rfl⟩ := hd
    exact lv_bipush C.exec C.bytes hd hv (kk H locs ls hl hP hM hS)
theorem l_iadd (C : LC X) {x y : Int32} (hd : dec cL_law pc .iadd 1 nx) (kk : Lg X σ μ lv nx (.int (x + y) :: st)) : Lg X σ μ lv pc (.int y :: .int x :: st) :=
  fun H locs ls hl hP hM hS => by
    obtain ⟨hd, rfl⟩ := hd
    exact lv_iadd C.exec C.bytes hd (kk H locs ls hl hP hM hS)
theorem l_isub (C : LC X) {x y : Int32} (hd : dec cL_law pc .isub 1 nx) (kk : Lg X σ μ lv nx (.int (x - y) :: st)) : Lg X σ μ lv pc (.int y :: .int x :: st) :=
  fun H locs ls hl hP hM hS => by
    obtain ⟨hd, rfl⟩ := hd
    exact lv_isub C.exec C.bytes hd (kk H locs ls hl hP hM hS)
theorem l_iand (C : LC X) {x y : Int32} (hd : dec cL_law pc .iand 1 nx) (kk : Lg X σ μ lv nx (.int (x &&& y) :: st)) : Lg X σ μ lv pc (.int y :: .int x :: st) :=
  fun H locs ls hl hP hM hS => by
    obtain ⟨hd, rfl⟩ := hd
    exact lv_iand C.exec C.bytes hd (kk H locs ls hl hP hM hS)
theorem l_goto (C : LC X) {off : Int} {tgt : Nat} (hd : dec cL_law pc (.goto off) 3 nx) (ht : (pc : Int) + off = (tgt : Int)) (kk : Lg X σ μ lv tgt st) : Lg X σ μ lv pc st :=
  fun H locs ls hl hP hM hS => lv_goto C.exec C.bytes hd.1 ht (kk H locs ls hl hP hM hS)
theorem l_iinc (C : LC X) {i : Nat} {n : Int} {x v : Int32} (hd : dec cL_law pc (.iinc i n) 3 nx) (hv : lkp lv i = some (.int x)) (hn : i < 4) (he : x + Int32.ofInt n = v) (kk : Lg X σ μ (sto lv i (.int v)) nx st) : Lg X σ μ lv pc st :=
  fun H locs ls hl hP hM hS => by
    obtain ⟨hd, rfl⟩ := hd
    obtain ⟨k, hk, hke⟩ := List.getElem_of_mem (lkp_mem hv)
    exact lv_iinc C.exec C.bytes hd hl (k := k) (by rw [List.getElem?_eq_getElem hk, hke]) he hn rfl (fun ls' hl' => kk H locs ls' hl' hP hM hS)
theorem l_slen (C : LC X) (hd : dec cL_law pc .arraylength 1 nx) (kk : Lg X σ μ lv nx (.int (nI (xL X)) :: st)) : Lg X σ μ lv pc (.ref (xa X) :: st) :=
  fun H locs ls hl hP hM hS => by
    obtain ⟨hd, rfl⟩ := hd
    exact va_slen C.exec C.bytes C.hX C.hbl C.hbA hS hd (kk H locs ls hl hP hM hS)
theorem l_sld (C : LC X) {x : Int32} {j : Nat} (hx : x = nI j) (hj : j < xL X) (hd : dec cL_law pc .iaload 1 nx) (kk : Lg X σ μ lv nx (.int (xxs X j) :: st)) : Lg X σ μ lv pc (.int x :: .ref (xa X) :: st) :=
  fun H locs ls hl hP hM hS => by
    obtain ⟨hd, rfl⟩ := hd
    have hb := C.hL
    subst hx
    refine va_sld C.exec C.bytes C.hX C.hbl C.hbA hS (vp_in_nI hj (by omega)) hd ?_
    rw [nI_clamp (by omega)]
    exact kk H locs ls hl hP hM hS
theorem l_gt (C : LC X) {x y : Int32} {off : Int} {tgt : Nat} (hd : dec cL_law pc (.if_icmp .gt off) 3 nx) (ht : (pc : Int) + off = (tgt : Int)) (k1 : y < x → Lg X σ μ lv tgt st) (k2 : ¬ y < x → Lg X σ μ lv nx st) : Lg X σ μ lv pc (.int y :: .int x :: st) :=
  fun H locs ls hl hP hM hS => by
    obtain ⟨hd, rfl⟩ := hd
    exact lv_icmp_gt C.exec C.bytes hd ht (fun h => k1 h H locs ls hl hP hM hS) (fun h => k2 h H locs ls hl hP hM hS)
theorem l_eqs (C : LC X) {x : Int32} {off : Int} {tgt : Nat} (hd : dec cL_law pc (.if_icmp .eq off) 3 nx) (ht : (pc : Int) + off = (tgt : Int)) (k1 : Lg X σ μ lv tgt st) : Lg X σ μ lv pc (.int x :: .int x :: st) :=
  fun H locs ls hl hP hM hS => lv_icmp_eq C.exec C.bytes hd.1 ht (fun _ => k1 H locs ls hl hP hM hS) (fun h => absurd rfl h)
theorem l_nm {x : Int32} (k : ∀ y : Int32, Lg X σ μ lv pc (.int y :: st)) : Lg X σ μ lv pc (.int x :: st) := k x
theorem l_tabI (C : LC X) {dflt l h : Int} {offs : Array Int} {len : Nat} {x v : Int32} {off : Int} {tgt : Nat} (hx : x = v) (hd : dec cL_law pc (.tableswitch dflt l h offs) len nx) (h1 : ¬ v.toInt < l) (h2 : ¬ h < v.toInt) (ho : offs[(v.toInt - l).toNat]? = some off) (ht : (pc : Int) + off = (tgt : Int)) (kk : Lg X σ μ lv tgt st) : Lg X σ μ lv pc (.int x :: st) :=
  fun H locs ls hl hP hM hS => by
    subst hx
    exact lv_tableIn C.exec C.bytes hd.1 h1 h2 ho ht (kk H locs ls hl hP hM hS)
theorem l_tabO (C : LC X) {dflt l h : Int} {offs : Array Int} {len : Nat} {x : Int32} {tgt : Nat} (hd : dec cL_law pc (.tableswitch dflt l h offs) len nx) (hx : x.toInt < l ∨ h < x.toInt) (ht : (pc : Int) + dflt = (tgt : Int)) (kk : Lg X σ μ lv tgt st) : Lg X σ μ lv pc (.int x :: st) :=
  fun H locs ls hl hP hM hS => lv_tableOut C.exec C.bytes hd.1 hx ht (kk H locs ls hl hP hM hS)
theorem l_end (C : LC X) (hd : dec cL_law pc .ireturn 1 nx) : Lg X σ μ lv pc [.int 1] :=
  fun H locs ls hl hP hM hS => by
    refine va_forget (fun q hq => hS.2.2 q hq) ?_
    refine W.widen (k := 600000) (n := 7302250) C.nc C.ns ?_
    exact lw_ret C.exec C.bytes C.ret C.locks hd.1
theorem keepX (C : LC X) {H H1 : Heap} {σ : St} (hP : va_P (xD X) vwCl (wl ZX (xq X) (xk X) σ) H) (hk : ∀ q : Nat, q < H.size → ¬ own ZM (xqm X) q → H1[q]? = H[q]?) : va_P (xD X) vwCl (wl ZX (xq X) (xk X) σ) H1 :=
  hP.kept (fun k x hx => hk x.1 (hP k x hx).lt (fun ⟨j, hj, e⟩ => by
    obtain ⟨h1, rfl⟩ := wl_at hx
    exact C.ne k j h1 hj e))
theorem keepM (C : LC X) {H H1 : Heap} {μ : St} (hP : va_P (xD X) vwCl (wl ZM (xqm X) (xk X) μ) H) (hk : ∀ q : Nat, q < H.size → ¬ own ZX (xq X) q → H1[q]? = H[q]?) : va_P (xD X) vwCl (wl ZM (xqm X) (xk X) μ) H1 :=
  hP.kept (fun k x hx => hk x.1 (hP k x hx).lt (fun ⟨j, hj, e⟩ => by
    obtain ⟨h1, rfl⟩ := wl_at hx
    exact C.ne j k hj h1 e.symm))
theorem l_callX (C : LC X) {y : MethodName} {bytes : ByteArray} {nL' : Nat} {fr' lo' n ix : Nat} {As : List Value} {r : Int32} {σ' : St} (hM : Ct (xl X) ZX (xD X) (xk X) (xq X) y bytes nL' (some .int) fr' lo' (.ref (xq X 0) :: As) σ (some (r, σ'))) (hw : WV y bytes nL' (some .int) n) (hl0 : Cond.methodLink RL ix y ∈ gt) (hR : fr' + 1 ≤ 9 ∧ 8 + (nL' + 11) + lo' ≤ 326) (hC : y.cls = RX6) (hn : As.length = n) (hcat : (st.map fun v => v.category).sum ≤ 8) (hd : dec cL_law pc (.invokevirtual ix) 3 nx) (kk : Lg X σ' μ lv nx (.int r :: st)) : Lg X σ μ lv pc (As.reverse ++ .ref (xq X 0) :: st) :=
  fun H locs ls hl hP hPm hS => by
    obtain ⟨hd, rfl⟩ := hd
    have hmem : ∀ w ∈ Cond.code y bytes nL' (some .int) :: gt, w ∈ gt := fun w hw' => (List.mem_cons.mp hw').elim (fun z => z ▸ hw.2.2.2.1) id
    have hG : GoodIn gt (Cond.code y bytes nL' (some .int) :: gt) := gt_in hmem
    refine va_calli (va_runV (C := y.cls) (As := As) (rest := st) (Ts := gt) ⟨C.exec, C.bytes, C.maxl, C.own, C.hts⟩ (hM _ rfl) ⟨callB_of n C.hts hG rfl rfl rfl (C.hts _ hw.2.2.1) (C.hts _ hl0) hw.2.2.2.2 hR, C.hts _ hw.1, C.hts _ hw.2.1⟩ ⟨hold_blind, by rw [hC]; exact va_recv C.hK hP (ci := 6) (q0 := 0) rfl (wl_get (by decide)), fun U hU hW => ⟨rfl, by rw [hU]; exact hP, va_K.moved hW.alike C.hK, nw_warm hW (nw_of C.htl)⟩⟩ rfl hn hl.1 rfl (lv_room hcat) hd ⟨C.nc, C.ns⟩) hS (fun q _ ⟨i, hi, e⟩ => by rw [e]; exact C.geX i hi) (fun q ⟨i, hi, e⟩ => by rw [e]; exact C.geX i hi) (fun r1 u t H1 locs1 ht hvm hpost hB hsz hk1 hS1 => ?_)
    obtain ⟨rfl, rfl⟩ := hpost
    rw [ht] at hB
    exact kk H1 locs1 ls hl hB (keepM C hPm hk1) hS1
theorem l_callM (C : LC X) {y : MethodName} {bytes : ByteArray} {nL' : Nat} {fr' lo' n ix : Nat} {As : List Value} {r : Int32} {μ' : St} (hM : Ct (xl X) ZM (xD X) (xk X) (xqm X) y bytes nL' (some .int) fr' lo' (.ref (xqm X 0) :: As) μ (some (r, μ'))) (hw : WV y bytes nL' (some .int) n) (hl0 : Cond.methodLink RL ix y ∈ gt) (hR : fr' + 1 ≤ 9 ∧ 8 + (nL' + 11) + lo' ≤ 326) (hC : y.cls = RX7) (hn : As.length = n) (hcat : (st.map fun v => v.category).sum ≤ 8) (hd : dec cL_law pc (.invokevirtual ix) 3 nx) (kk : Lg X σ μ' lv nx (.int r :: st)) : Lg X σ μ lv pc (As.reverse ++ .ref (xqm X 0) :: st) :=
  fun H locs ls hl hP hPm hS => by
    obtain ⟨hd, rfl⟩ := hd
    have hmem : ∀ w ∈ Cond.code y bytes nL' (some .int) :: gt, w ∈ gt := fun w hw' => (List.mem_cons.mp hw').elim (fun z => z ▸ hw.2.2.2.1) id
    have hG : GoodIn gt (Cond.code y bytes nL' (some .int) :: gt) := gt_in hmem
    refine va_calli (va_runV (C := y.cls) (As := As) (rest := st) (Ts := gt) ⟨C.exec, C.bytes, C.maxl, C.own, C.hts⟩ (hM _ rfl) ⟨callB_of n C.hts hG rfl rfl rfl (C.hts _ hw.2.2.1) (C.hts _ hl0) hw.2.2.2.2 hR, C.hts _ hw.1, C.hts _ hw.2.1⟩ ⟨hold_blind, by rw [hC]; exact va_recv C.hK hPm (ci := 7) (q0 := 0) rfl (wl_get (by decide)), fun U hU hW => ⟨rfl, by rw [hU]; exact hPm, va_K.moved hW.alike C.hK, nw_warm hW (nw_of C.htl)⟩⟩ rfl hn hl.1 rfl (lv_room hcat) hd ⟨C.nc, C.ns⟩) hS (fun q _ ⟨i, hi, e⟩ => by rw [e]; exact C.geM i hi) (fun q ⟨i, hi, e⟩ => by rw [e]; exact C.geM i hi) (fun r1 u t H1 locs1 ht hvm hpost hB hsz hk1 hS1 => ?_)
    obtain ⟨rfl, rfl⟩ := hpost
    rw [ht] at hB
    exact kk H1 locs1 ls hl (keepX C hP hk1) hB hS1
end LROWS
/-- both sides answer alike, and stay related -/
def Agree (Rel : St → St → Prop) (f g : St → Rt) : Prop := ∀ σ μ, Rel σ μ → ∃ (r : Int32) (σ' μ' : St), f σ = some (r, σ') ∧ g μ = some (r, μ') ∧ Rel σ' μ'
def Ops (Rel : St → St → Prop) : Prop := (∀ a1 a2 a3 : Int32, Agree Rel (fun σ => m_P_row σ a1 a2 a3) (fun μ => m_M_row μ a1 a2 a3)) ∧ (∀ a1 a2 a3 : Int32, Agree Rel (fun σ => m_P_set σ a1 a2 a3) (fun μ => m_M_set μ a1 a2 a3)) ∧ (∀ a1 a2 a3 a4 a5 : Int32, Agree Rel (fun σ => m_P_copy σ a1 a2 a3 a4 a5) (fun μ => m_M_copy μ a1 a2 a3 a4 a5)) ∧ (∀ a1 : Int32, Agree Rel (fun σ => m_P_drop σ a1) (fun μ => m_M_drop μ a1)) ∧ (∀ a1 : Int32, Agree Rel (fun σ => m_P_feed σ a1) (fun μ => m_M_feed μ a1)) ∧ (Agree Rel (fun σ => m_P_map σ) (fun μ => m_M_map μ)) ∧ (Agree Rel (fun σ => m_P_fault σ) (fun μ => m_M_fault μ)) ∧ (∀ a1 : Int32, Agree Rel (fun σ => m_P_times σ a1) (fun μ => m_M_times μ a1)) ∧ (∀ a1 a2 : Int32, Agree Rel (fun σ => m_P_move σ a1 a2) (fun μ => m_M_move μ a1 a2)) ∧ (∀ a1 a2 : Int32, Agree Rel (fun σ => m_P_swap σ a1 a2) (fun μ => m_M_swap μ a1 a2)) ∧ (∀ a1 a2 : Int32, Agree Rel (fun σ => m_P_work σ a1 a2) (fun μ => m_M_work μ a1 a2)) ∧ (∀ a1 : Int32, Agree Rel (fun σ => m_P_slip σ a1) (fun μ => m_M_slip μ a1)) ∧ (Agree Rel (fun σ => m_P_undo σ) (fun μ => m_M_undo μ)) ∧ (∀ a1 a2 : Int32, Agree Rel (fun σ => m_P_pin σ a1 a2) (fun μ => m_M_pin μ a1 a2)) ∧ (∀ a1 a2 : Int32, Agree Rel (fun σ => m_P_cell σ a1 a2) (fun μ => m_M_cell μ a1 a2)) ∧ (∀ a1 a2 : Int32, Agree Rel (fun σ => m_P_ahead σ a1 a2) (fun μ => m_M_ahead μ a1 a2)) ∧ (∀ a1 : Int32, Agree Rel (fun σ => m_P_earned σ a1) (fun μ => m_M_earned μ a1)) ∧ (∀ a1 a2 : Int32, Agree Rel (fun σ => m_P_tomsk σ a1 a2) (fun μ => m_M_tomsk μ a1 a2)) ∧ (Agree Rel (fun σ => m_P_round σ) (fun μ => m_M_round μ)) ∧ (∀ a1 : Int32, Agree Rel (fun σ => m_P_right σ a1) (fun μ => m_M_right μ a1)) ∧ (∀ a1 : Int32, Agree Rel (fun σ => m_P_best σ a1) (fun μ => m_M_best μ a1)) ∧ (∀ a1 a2 a3 a4 a5 : Int32, Agree Rel (fun σ => m_P_fits σ a1 a2 a3 a4 a5) (fun μ => m_M_fits μ a1 a2 a3 a4 a5)) ∧ (∀ a1 a2 a3 : Int32, Agree Rel (fun σ => m_P_left σ a1 a2 a3) (fun μ => m_M_left μ a1 a2 a3)) ∧ (∀ a1 a2 a3 : Int32, Agree Rel (fun σ => m_P_drawn σ a1 a2 a3) (fun μ => m_M_drawn μ a1 a2 a3)) ∧ (∀ a1 : Int32, Agree Rel (fun σ => m_P_image σ a1) (fun μ => m_M_image μ a1)) ∧ (∀ a1 : Int32, Agree Rel (fun σ => m_P_restore σ a1) (fun μ => m_M_restore μ a1)) ∧ (∀ a1 : Int32, Agree Rel (fun σ => m_P_kind σ a1) (fun μ => m_M_kind μ a1)) ∧ (∀ a1 a2 : Int32, Agree Rel (fun σ => m_P_as σ a1 a2) (fun μ => m_M_as μ a1 a2)) ∧ (∀ a1 a2 : Int32, Agree Rel (fun σ => m_P_ask σ a1 a2) (fun μ => m_M_ask μ a1 a2)) ∧ (∀ a1 : Int32, Agree Rel (fun σ => m_P_trace σ a1) (fun μ => m_M_trace μ a1)) ∧ (∀ a1 : Int32, Agree Rel (fun σ => m_P_count σ a1) (fun μ => m_M_count μ a1)) ∧ (Agree Rel (fun σ => m_P_status σ) (fun μ => m_M_status μ))
set_option maxRecDepth 100000 in
theorem l_case_0 {X : LX} (C : LC X) {Rel : St → St → Prop} (h : ∀ a1 a2 a3 : Int32, Agree Rel (fun σ => m_P_row σ a1 a2 a3) (fun μ => m_M_row μ a1 a2 a3)) {σ μ : St} (hr : Rel σ μ) {i : Nat} (hi : i + 6 ≤ xL X) (k0 : ∀ σ' μ' : St, Rel σ' μ' → Lg X σ' μ' [(0, .ref (xa X)), (1, .ref (xq X 0)), (2, .ref (xqm X 0)), (3, .int (nI i))] 1112 []) : Lg X σ μ [(0, .ref (xa X)), (1, .ref (xq X 0)), (2, .ref (xqm X 0)), (3, .int (nI i))] 176 [] := by
  obtain ⟨r, σ', μ', h1, h2, h3⟩ := h (xxs X (i + 1)) (xxs X (i + 2)) (xxs X (i + 3)) σ μ hr
  have kk := k0 σ' μ' h3
  dsimp only at h1 h2
  refine l_aload_n C e_law_176 rfl ?_
  refine l_aload_n C e_law_177 rfl ?_
  refine l_iload_n C e_law_178 rfl ?_
  refine l_iconst C e_law_179 (v := (1 : Int32)) ic_1 ?_
  refine l_iadd C e_law_180 ?_
  refine l_sld C (j := i + 1) (nI_add i 1) (by omega) e_law_181 ?_
  refine l_aload_n C e_law_182 rfl ?_
  refine l_iload_n C e_law_183 rfl ?_
  refine l_iconst C e_law_184 (v := (2 : Int32)) ic_2 ?_
  refine l_iadd C e_law_185 ?_
  refine l_sld C (j := i + 2) (nI_add i 2) (by omega) e_law_186 ?_
  refine l_aload_n C e_law_187 rfl ?_
  refine l_iload_n C e_law_188 rfl ?_
  refine l_iconst C e_law_189 (v := (3 : Int32)) ic_3 ?_
  refine l_iadd C e_law_190 ?_
  refine l_sld C (j := i + 3) (nI_add i 3) (by omega) e_law_191 ?_
  refine l_callX (As := [.int (xxs X (i + 1)), .int (xxs X (i + 2)), .int (xxs X (i + 3))]) C (h1 ▸ c_P_row C.iX σ (xxs X (i + 1)) (xxs X (i + 2)) (xxs X (i + 3))) wv_P_row g_655 ⟨by decide, by decide⟩ rfl rfl (Nat.le_of_ble_eq_true rfl) e_law_192 ?_
  refine l_aload_n C e_law_195 rfl ?_
  refine l_aload_n C e_law_196 rfl ?_
  refine l_iload_n C e_law_197 rfl ?_
  refine l_iconst C e_law_198 (v := (1 : Int32)) ic_1 ?_
  refine l_iadd C e_law_199 ?_
  refine l_sld C (j := i + 1) (nI_add i 1) (by omega) e_law_200 ?_
  refine l_aload_n C e_law_201 rfl ?_
  refine l_iload_n C e_law_202 rfl ?_
  refine l_iconst C e_law_203 (v := (2 : Int32)) ic_2 ?_
  refine l_iadd C e_law_204 ?_
  refine l_sld C (j := i + 2) (nI_add i 2) (by omega) e_law_205 ?_
  refine l_aload_n C e_law_206 rfl ?_
  refine l_iload_n C e_law_207 rfl ?_
  refine l_iconst C e_law_208 (v := (3 : Int32)) ic_3 ?_
  refine l_iadd C e_law_209 ?_
  refine l_sld C (j := i + 3) (nI_add i 3) (by omega) e_law_210 ?_
  refine l_callM (As := [.int (xxs X (i + 1)), .int (xxs X (i + 2)), .int (xxs X (i + 3))]) C (h2 ▸ c_M_row C.iM μ (xxs X (i + 1)) (xxs X (i + 2)) (xxs X (i + 3))) wv_M_row g_659 ⟨by decide, by decide⟩ rfl rfl (Nat.le_of_ble_eq_true rfl) e_law_211 ?_
  exact l_eqs C e_law_214 rfl kk
set_option maxRecDepth 100000 in
theorem l_case_1 {X : LX} (C : LC X) {Rel : St → St → Prop} (h : ∀ a1 a2 a3 : Int32, Agree Rel (fun σ => m_P_set σ a1 a2 a3) (fun μ => m_M_set μ a1 a2 a3)) {σ μ : St} (hr : Rel σ μ) {i : Nat} (hi : i + 6 ≤ xL X) (k0 : ∀ σ' μ' : St, Rel σ' μ' → Lg X σ' μ' [(0, .ref (xa X)), (1, .ref (xq X 0)), (2, .ref (xqm X 0)), (3, .int (nI i))] 1112 []) : Lg X σ μ [(0, .ref (xa X)), (1, .ref (xq X 0)), (2, .ref (xqm X 0)), (3, .int (nI i))] 219 [] := by
  obtain ⟨r, σ', μ', h1, h2, h3⟩ := h (xxs X (i + 1)) (xxs X (i + 2)) (xxs X (i + 3)) σ μ hr
  have kk := k0 σ' μ' h3
  dsimp only at h1 h2
  refine l_aload_n C e_law_219 rfl ?_
  refine l_aload_n C e_law_220 rfl ?_
  refine l_iload_n C e_law_221 rfl ?_
  refine l_iconst C e_law_222 (v := (1 : Int32)) ic_1 ?_
  refine l_iadd C e_law_223 ?_
  refine l_sld C (j := i + 1) (nI_add i 1) (by omega) e_law_224 ?_
  refine l_aload_n C e_law_225 rfl ?_
  refine l_iload_n C e_law_226 rfl ?_
  refine l_iconst C e_law_227 (v := (2 : Int32)) ic_2 ?_
  refine l_iadd C e_law_228 ?_
  refine l_sld C (j := i + 2) (nI_add i 2) (by omega) e_law_229 ?_
  refine l_aload_n C e_law_230 rfl ?_
  refine l_iload_n C e_law_231 rfl ?_
  refine l_iconst C e_law_232 (v := (3 : Int32)) ic_3 ?_
  refine l_iadd C e_law_233 ?_
  refine l_sld C (j := i + 3) (nI_add i 3) (by omega) e_law_234 ?_
  refine l_callX (As := [.int (xxs X (i + 1)), .int (xxs X (i + 2)), .int (xxs X (i + 3))]) C (h1 ▸ c_P_set C.iX σ (xxs X (i + 1)) (xxs X (i + 2)) (xxs X (i + 3))) wv_P_set g_663 ⟨by decide, by decide⟩ rfl rfl (Nat.le_of_ble_eq_true rfl) e_law_235 ?_
  refine l_aload_n C e_law_238 rfl ?_
  refine l_aload_n C e_law_239 rfl ?_
  refine l_iload_n C e_law_240 rfl ?_
  refine l_iconst C e_law_241 (v := (1 : Int32)) ic_1 ?_
  refine l_iadd C e_law_242 ?_
  refine l_sld C (j := i + 1) (nI_add i 1) (by omega) e_law_243 ?_
  refine l_aload_n C e_law_244 rfl ?_
  refine l_iload_n C e_law_245 rfl ?_
  refine l_iconst C e_law_246 (v := (2 : Int32)) ic_2 ?_
  refine l_iadd C e_law_247 ?_
  refine l_sld C (j := i + 2) (nI_add i 2) (by omega) e_law_248 ?_
  refine l_aload_n C e_law_249 rfl ?_
  refine l_iload_n C e_law_250 rfl ?_
  refine l_iconst C e_law_251 (v := (3 : Int32)) ic_3 ?_
  refine l_iadd C e_law_252 ?_
  refine l_sld C (j := i + 3) (nI_add i 3) (by omega) e_law_253 ?_
  refine l_callM (As := [.int (xxs X (i + 1)), .int (xxs X (i + 2)), .int (xxs X (i + 3))]) C (h2 ▸ c_M_set C.iM μ (xxs X (i + 1)) (xxs X (i + 2)) (xxs X (i + 3))) wv_M_set g_667 ⟨by decide, by decide⟩ rfl rfl (Nat.le_of_ble_eq_true rfl) e_law_254 ?_
  exact l_eqs C e_law_257 rfl kk
set_option maxRecDepth 100000 in
theorem l_case_2 {X : LX} (C : LC X) {Rel : St → St → Prop} (h : ∀ a1 a2 a3 a4 a5 : Int32, Agree Rel (fun σ => m_P_copy σ a1 a2 a3 a4 a5) (fun μ => m_M_copy μ a1 a2 a3 a4 a5)) {σ μ : St} (hr : Rel σ μ) {i : Nat} (hi : i + 6 ≤ xL X) (k0 : ∀ σ' μ' : St, Rel σ' μ' → Lg X σ' μ' [(0, .ref (xa X)), (1, .ref (xq X 0)), (2, .ref (xqm X 0)), (3, .int (nI i))] 1112 []) : Lg X σ μ [(0, .ref (xa X)), (1, .ref (xq X 0)), (2, .ref (xqm X 0)), (3, .int (nI i))] 262 [] := by
  obtain ⟨r, σ', μ', h1, h2, h3⟩ := h (xxs X (i + 1)) (xxs X (i + 2)) (xxs X (i + 3)) (xxs X (i + 4)) (xxs X (i + 5)) σ μ hr
  have kk := k0 σ' μ' h3
  dsimp only at h1 h2
  refine l_aload_n C e_law_262 rfl ?_
  refine l_aload_n C e_law_263 rfl ?_
  refine l_iload_n C e_law_264 rfl ?_
  refine l_iconst C e_law_265 (v := (1 : Int32)) ic_1 ?_
  refine l_iadd C e_law_266 ?_
  refine l_sld C (j := i + 1) (nI_add i 1) (by omega) e_law_267 ?_
  refine l_aload_n C e_law_268 rfl ?_
  refine l_iload_n C e_law_269 rfl ?_
  refine l_iconst C e_law_270 (v := (2 : Int32)) ic_2 ?_
  refine l_iadd C e_law_271 ?_
  refine l_sld C (j := i + 2) (nI_add i 2) (by omega) e_law_272 ?_
  refine l_aload_n C e_law_273 rfl ?_
  refine l_iload_n C e_law_274 rfl ?_
  refine l_iconst C e_law_275 (v := (3 : Int32)) ic_3 ?_
  refine l_iadd C e_law_276 ?_
  refine l_sld C (j := i + 3) (nI_add i 3) (by omega) e_law_277 ?_
  refine l_aload_n C e_law_278 rfl ?_
  refine l_iload_n C e_law_279 rfl ?_
  refine l_iconst C e_law_280 (v := (4 : Int32)) ic_4 ?_
  refine l_iadd C e_law_281 ?_
  refine l_sld C (j := i + 4) (nI_add i 4) (by omega) e_law_282 ?_
  refine l_aload_n C e_law_283 rfl ?_
  refine l_iload_n C e_law_284 rfl ?_
  refine l_iconst C e_law_285 (v := (5 : Int32)) ic_5 ?_
  refine l_iadd C e_law_286 ?_
  refine l_sld C (j := i + 5) (nI_add i 5) (by omega) e_law_287 ?_
  refine l_callX (As := [.int (xxs X (i + 1)), .int (xxs X (i + 2)), .int (xxs X (i + 3)), .int (xxs X (i + 4)), .int (xxs X (i + 5))]) C (h1 ▸ c_P_copy C.iX σ (xxs X (i + 1)) (xxs X (i + 2)) (xxs X (i + 3)) (xxs X (i + 4)) (xxs X (i + 5))) wv_P_copy g_671 ⟨by decide, by decide⟩ rfl rfl (Nat.le_of_ble_eq_true rfl) e_law_288 ?_
  refine l_aload_n C e_law_291 rfl ?_
  refine l_aload_n C e_law_292 rfl ?_
  refine l_iload_n C e_law_293 rfl ?_
  refine l_iconst C e_law_294 (v := (1 : Int32)) ic_1 ?_
  refine l_iadd C e_law_295 ?_
  refine l_sld C (j := i + 1) (nI_add i 1) (by omega) e_law_296 ?_
  refine l_aload_n C e_law_297 rfl ?_
  refine l_iload_n C e_law_298 rfl ?_
  refine l_iconst C e_law_299 (v := (2 : Int32)) ic_2 ?_
  refine l_iadd C e_law_300 ?_
  refine l_sld C (j := i + 2) (nI_add i 2) (by omega) e_law_301 ?_
  refine l_aload_n C e_law_302 rfl ?_
  refine l_iload_n C e_law_303 rfl ?_
  refine l_iconst C e_law_304 (v := (3 : Int32)) ic_3 ?_
  refine l_iadd C e_law_305 ?_
  refine l_sld C (j := i + 3) (nI_add i 3) (by omega) e_law_306 ?_
  refine l_aload_n C e_law_307 rfl ?_
  refine l_iload_n C e_law_308 rfl ?_
  refine l_iconst C e_law_309 (v := (4 : Int32)) ic_4 ?_
  refine l_iadd C e_law_310 ?_
  refine l_sld C (j := i + 4) (nI_add i 4) (by omega) e_law_311 ?_
  refine l_aload_n C e_law_312 rfl ?_
  refine l_iload_n C e_law_313 rfl ?_
  refine l_iconst C e_law_314 (v := (5 : Int32)) ic_5 ?_
  refine l_iadd C e_law_315 ?_
  refine l_sld C (j := i + 5) (nI_add i 5) (by omega) e_law_316 ?_
  refine l_callM (As := [.int (xxs X (i + 1)), .int (xxs X (i + 2)), .int (xxs X (i + 3)), .int (xxs X (i + 4)), .int (xxs X (i + 5))]) C (h2 ▸ c_M_copy C.iM μ (xxs X (i + 1)) (xxs X (i + 2)) (xxs X (i + 3)) (xxs X (i + 4)) (xxs X (i + 5))) wv_M_copy g_675 ⟨by decide, by decide⟩ rfl rfl (Nat.le_of_ble_eq_true rfl) e_law_317 ?_
  exact l_eqs C e_law_320 rfl kk
set_option maxRecDepth 100000 in
theorem l_case_3 {X : LX} (C : LC X) {Rel : St → St → Prop} (h : ∀ a1 : Int32, Agree Rel (fun σ => m_P_drop σ a1) (fun μ => m_M_drop μ a1)) {σ μ : St} (hr : Rel σ μ) {i : Nat} (hi : i + 6 ≤ xL X) (k0 : ∀ σ' μ' : St, Rel σ' μ' → Lg X σ' μ' [(0, .ref (xa X)), (1, .ref (xq X 0)), (2, .ref (xqm X 0)), (3, .int (nI i))] 1112 []) : Lg X σ μ [(0, .ref (xa X)), (1, .ref (xq X 0)), (2, .ref (xqm X 0)), (3, .int (nI i))] 325 [] := by
  obtain ⟨r, σ', μ', h1, h2, h3⟩ := h (xxs X (i + 1)) σ μ hr
  have kk := k0 σ' μ' h3
  dsimp only at h1 h2
  refine l_aload_n C e_law_325 rfl ?_
  refine l_aload_n C e_law_326 rfl ?_
  refine l_iload_n C e_law_327 rfl ?_
  refine l_iconst C e_law_328 (v := (1 : Int32)) ic_1 ?_
  refine l_iadd C e_law_329 ?_
  refine l_sld C (j := i + 1) (nI_add i 1) (by omega) e_law_330 ?_
  refine l_callX (As := [.int (xxs X (i + 1))]) C (h1 ▸ c_P_drop C.iX σ (xxs X (i + 1))) wv_P_drop g_679 ⟨by decide, by decide⟩ rfl rfl (Nat.le_of_ble_eq_true rfl) e_law_331 ?_
  refine l_aload_n C e_law_334 rfl ?_
  refine l_aload_n C e_law_335 rfl ?_
  refine l_iload_n C e_law_336 rfl ?_
  refine l_iconst C e_law_337 (v := (1 : Int32)) ic_1 ?_
  refine l_iadd C e_law_338 ?_
  refine l_sld C (j := i + 1) (nI_add i 1) (by omega) e_law_339 ?_
  refine l_callM (As := [.int (xxs X (i + 1))]) C (h2 ▸ c_M_drop C.iM μ (xxs X (i + 1))) wv_M_drop g_683 ⟨by decide, by decide⟩ rfl rfl (Nat.le_of_ble_eq_true rfl) e_law_340 ?_
  exact l_eqs C e_law_343 rfl kk
set_option maxRecDepth 100000 in
theorem l_case_4 {X : LX} (C : LC X) {Rel : St → St → Prop} (h : ∀ a1 : Int32, Agree Rel (fun σ => m_P_feed σ a1) (fun μ => m_M_feed μ a1)) {σ μ : St} (hr : Rel σ μ) {i : Nat} (hi : i + 6 ≤ xL X) (k0 : ∀ σ' μ' : St, Rel σ' μ' → Lg X σ' μ' [(0, .ref (xa X)), (1, .ref (xq X 0)), (2, .ref (xqm X 0)), (3, .int (nI i))] 1112 []) : Lg X σ μ [(0, .ref (xa X)), (1, .ref (xq X 0)), (2, .ref (xqm X 0)), (3, .int (nI i))] 348 [] := by
  obtain ⟨r, σ', μ', h1, h2, h3⟩ := h (xxs X (i + 1)) σ μ hr
  have kk := k0 σ' μ' h3
  dsimp only at h1 h2
  refine l_aload_n C e_law_348 rfl ?_
  refine l_aload_n C e_law_349 rfl ?_
  refine l_iload_n C e_law_350 rfl ?_
  refine l_iconst C e_law_351 (v := (1 : Int32)) ic_1 ?_
  refine l_iadd C e_law_352 ?_
  refine l_sld C (j := i + 1) (nI_add i 1) (by omega) e_law_353 ?_
  refine l_callX (As := [.int (xxs X (i + 1))]) C (h1 ▸ c_P_feed C.iX σ (xxs X (i + 1))) wv_P_feed g_687 ⟨by decide, by decide⟩ rfl rfl (Nat.le_of_ble_eq_true rfl) e_law_354 ?_
  refine l_aload_n C e_law_357 rfl ?_
  refine l_aload_n C e_law_358 rfl ?_
  refine l_iload_n C e_law_359 rfl ?_
  refine l_iconst C e_law_360 (v := (1 : Int32)) ic_1 ?_
  refine l_iadd C e_law_361 ?_
  refine l_sld C (j := i + 1) (nI_add i 1) (by omega) e_law_362 ?_
  refine l_callM (As := [.int (xxs X (i + 1))]) C (h2 ▸ c_M_feed C.iM μ (xxs X (i + 1))) wv_M_feed g_691 ⟨by decide, by decide⟩ rfl rfl (Nat.le_of_ble_eq_true rfl) e_law_363 ?_
  exact l_eqs C e_law_366 rfl kk
set_option maxRecDepth 100000 in
theorem l_case_5 {X : LX} (C : LC X) {Rel : St → St → Prop} (h : Agree Rel (fun σ => m_P_map σ) (fun μ => m_M_map μ)) {σ μ : St} (hr : Rel σ μ) {i : Nat} (hi : i + 6 ≤ xL X) (k0 : ∀ σ' μ' : St, Rel σ' μ' → Lg X σ' μ' [(0, .ref (xa X)), (1, .ref (xq X 0)), (2, .ref (xqm X 0)), (3, .int (nI i))] 1112 []) : Lg X σ μ [(0, .ref (xa X)), (1, .ref (xq X 0)), (2, .ref (xqm X 0)), (3, .int (nI i))] 371 [] := by
  obtain ⟨r, σ', μ', h1, h2, h3⟩ := h σ μ hr
  have kk := k0 σ' μ' h3
  dsimp only at h1 h2
  refine l_aload_n C e_law_371 rfl ?_
  refine l_callX (As := []) C (h1 ▸ c_P_map C.iX σ) wv_P_map g_695 ⟨by decide, by decide⟩ rfl rfl (Nat.le_of_ble_eq_true rfl) e_law_372 ?_
  refine l_aload_n C e_law_375 rfl ?_
  refine l_callM (As := []) C (h2 ▸ c_M_map C.iM μ) wv_M_map g_699 ⟨by decide, by decide⟩ rfl rfl (Nat.le_of_ble_eq_true rfl) e_law_376 ?_
  exact l_eqs C e_law_379 rfl kk
set_option maxRecDepth 100000 in
theorem l_case_6 {X : LX} (C : LC X) {Rel : St → St → Prop} (h : Agree Rel (fun σ => m_P_fault σ) (fun μ => m_M_fault μ)) {σ μ : St} (hr : Rel σ μ) {i : Nat} (hi : i + 6 ≤ xL X) (k0 : ∀ σ' μ' : St, Rel σ' μ' → Lg X σ' μ' [(0, .ref (xa X)), (1, .ref (xq X 0)), (2, .ref (xqm X 0)), (3, .int (nI i))] 1112 []) : Lg X σ μ [(0, .ref (xa X)), (1, .ref (xq X 0)), (2, .ref (xqm X 0)), (3, .int (nI i))] 384 [] := by
  obtain ⟨r, σ', μ', h1, h2, h3⟩ := h σ μ hr
  have kk := k0 σ' μ' h3
  dsimp only at h1 h2
  refine l_aload_n C e_law_384 rfl ?_
  refine l_callX (As := []) C (h1 ▸ c_P_fault C.iX σ) wv_P_fault g_703 ⟨by decide, by decide⟩ rfl rfl (Nat.le_of_ble_eq_true rfl) e_law_385 ?_
  refine l_aload_n C e_law_388 rfl ?_
  refine l_callM (As := []) C (h2 ▸ c_M_fault C.iM μ) wv_M_fault g_707 ⟨by decide, by decide⟩ rfl rfl (Nat.le_of_ble_eq_true rfl) e_law_389 ?_
  exact l_eqs C e_law_392 rfl kk
set_option maxRecDepth 100000 in
theorem l_case_7 {X : LX} (C : LC X) {Rel : St → St → Prop} (h : ∀ a1 : Int32, Agree Rel (fun σ => m_P_times σ a1) (fun μ => m_M_times μ a1)) {σ μ : St} (hr : Rel σ μ) {i : Nat} (hi : i + 6 ≤ xL X) (k0 : ∀ σ' μ' : St, Rel σ' μ' → Lg X σ' μ' [(0, .ref (xa X)), (1, .ref (xq X 0)), (2, .ref (xqm X 0)), (3, .int (nI i))] 1112 []) : Lg X σ μ [(0, .ref (xa X)), (1, .ref (xq X 0)), (2, .ref (xqm X 0)), (3, .int (nI i))] 397 [] := by
  obtain ⟨r, σ', μ', h1, h2, h3⟩ := h (xxs X (i + 1)) σ μ hr
  have kk := k0 σ' μ' h3
  dsimp only at h1 h2
  refine l_aload_n C e_law_397 rfl ?_
  refine l_aload_n C e_law_398 rfl ?_
  refine l_iload_n C e_law_399 rfl ?_
  refine l_iconst C e_law_400 (v := (1 : Int32)) ic_1 ?_
  refine l_iadd C e_law_401 ?_
  refine l_sld C (j := i + 1) (nI_add i 1) (by omega) e_law_402 ?_
  refine l_callX (As := [.int (xxs X (i + 1))]) C (h1 ▸ c_P_times C.iX σ (xxs X (i + 1))) wv_P_times g_711 ⟨by decide, by decide⟩ rfl rfl (Nat.le_of_ble_eq_true rfl) e_law_403 ?_
  refine l_aload_n C e_law_406 rfl ?_
  refine l_aload_n C e_law_407 rfl ?_
  refine l_iload_n C e_law_408 rfl ?_
  refine l_iconst C e_law_409 (v := (1 : Int32)) ic_1 ?_
  refine l_iadd C e_law_410 ?_
  refine l_sld C (j := i + 1) (nI_add i 1) (by omega) e_law_411 ?_
  refine l_callM (As := [.int (xxs X (i + 1))]) C (h2 ▸ c_M_times C.iM μ (xxs X (i + 1))) wv_M_times g_715 ⟨by decide, by decide⟩ rfl rfl (Nat.le_of_ble_eq_true rfl) e_law_412 ?_
  exact l_eqs C e_law_415 rfl kk
set_option maxRecDepth 100000 in
theorem l_case_8 {X : LX} (C : LC X) {Rel : St → St → Prop} (h : ∀ a1 a2 : Int32, Agree Rel (fun σ => m_P_move σ a1 a2) (fun μ => m_M_move μ a1 a2)) {σ μ : St} (hr : Rel σ μ) {i : Nat} (hi : i + 6 ≤ xL X) (k0 : ∀ σ' μ' : St, Rel σ' μ' → Lg X σ' μ' [(0, .ref (xa X)), (1, .ref (xq X 0)), (2, .ref (xqm X 0)), (3, .int (nI i))] 1112 []) : Lg X σ μ [(0, .ref (xa X)), (1, .ref (xq X 0)), (2, .ref (xqm X 0)), (3, .int (nI i))] 420 [] := by
  obtain ⟨r, σ', μ', h1, h2, h3⟩ := h (xxs X (i + 1)) (xxs X (i + 2)) σ μ hr
  have kk := k0 σ' μ' h3
  dsimp only at h1 h2
  refine l_aload_n C e_law_420 rfl ?_
  refine l_aload_n C e_law_421 rfl ?_
  refine l_iload_n C e_law_422 rfl ?_
  refine l_iconst C e_law_423 (v := (1 : Int32)) ic_1 ?_
  refine l_iadd C e_law_424 ?_
  refine l_sld C (j := i + 1) (nI_add i 1) (by omega) e_law_425 ?_
  refine l_aload_n C e_law_426 rfl ?_
  refine l_iload_n C e_law_427 rfl ?_
  refine l_iconst C e_law_428 (v := (2 : Int32)) ic_2 ?_
  refine l_iadd C e_law_429 ?_
  refine l_sld C (j := i + 2) (nI_add i 2) (by omega) e_law_430 ?_
  refine l_callX (As := [.int (xxs X (i + 1)), .int (xxs X (i + 2))]) C (h1 ▸ c_P_move C.iX σ (xxs X (i + 1)) (xxs X (i + 2))) wv_P_move g_719 ⟨by decide, by decide⟩ rfl rfl (Nat.le_of_ble_eq_true rfl) e_law_431 ?_
  refine l_aload_n C e_law_434 rfl ?_
  refine l_aload_n C e_law_435 rfl ?_
  refine l_iload_n C e_law_436 rfl ?_
  refine l_iconst C e_law_437 (v := (1 : Int32)) ic_1 ?_
  refine l_iadd C e_law_438 ?_
  refine l_sld C (j := i + 1) (nI_add i 1) (by omega) e_law_439 ?_
  refine l_aload_n C e_law_440 rfl ?_
  refine l_iload_n C e_law_441 rfl ?_
  refine l_iconst C e_law_442 (v := (2 : Int32)) ic_2 ?_
  refine l_iadd C e_law_443 ?_
  refine l_sld C (j := i + 2) (nI_add i 2) (by omega) e_law_444 ?_
  refine l_callM (As := [.int (xxs X (i + 1)), .int (xxs X (i + 2))]) C (h2 ▸ c_M_move C.iM μ (xxs X (i + 1)) (xxs X (i + 2))) wv_M_move g_723 ⟨by decide, by decide⟩ rfl rfl (Nat.le_of_ble_eq_true rfl) e_law_445 ?_
  exact l_eqs C e_law_448 rfl kk
set_option maxRecDepth 100000 in
theorem l_case_9 {X : LX} (C : LC X) {Rel : St → St → Prop} (h : ∀ a1 a2 : Int32, Agree Rel (fun σ => m_P_swap σ a1 a2) (fun μ => m_M_swap μ a1 a2)) {σ μ : St} (hr : Rel σ μ) {i : Nat} (hi : i + 6 ≤ xL X) (k0 : ∀ σ' μ' : St, Rel σ' μ' → Lg X σ' μ' [(0, .ref (xa X)), (1, .ref (xq X 0)), (2, .ref (xqm X 0)), (3, .int (nI i))] 1112 []) : Lg X σ μ [(0, .ref (xa X)), (1, .ref (xq X 0)), (2, .ref (xqm X 0)), (3, .int (nI i))] 453 [] := by
  obtain ⟨r, σ', μ', h1, h2, h3⟩ := h (xxs X (i + 1)) (xxs X (i + 2)) σ μ hr
  have kk := k0 σ' μ' h3
  dsimp only at h1 h2
  refine l_aload_n C e_law_453 rfl ?_
  refine l_aload_n C e_law_454 rfl ?_
  refine l_iload_n C e_law_455 rfl ?_
  refine l_iconst C e_law_456 (v := (1 : Int32)) ic_1 ?_
  refine l_iadd C e_law_457 ?_
  refine l_sld C (j := i + 1) (nI_add i 1) (by omega) e_law_458 ?_
  refine l_aload_n C e_law_459 rfl ?_
  refine l_iload_n C e_law_460 rfl ?_
  refine l_iconst C e_law_461 (v := (2 : Int32)) ic_2 ?_
  refine l_iadd C e_law_462 ?_
  refine l_sld C (j := i + 2) (nI_add i 2) (by omega) e_law_463 ?_
  refine l_callX (As := [.int (xxs X (i + 1)), .int (xxs X (i + 2))]) C (h1 ▸ c_P_swap C.iX σ (xxs X (i + 1)) (xxs X (i + 2))) wv_P_swap g_727 ⟨by decide, by decide⟩ rfl rfl (Nat.le_of_ble_eq_true rfl) e_law_464 ?_
  refine l_aload_n C e_law_467 rfl ?_
  refine l_aload_n C e_law_468 rfl ?_
  refine l_iload_n C e_law_469 rfl ?_
  refine l_iconst C e_law_470 (v := (1 : Int32)) ic_1 ?_
  refine l_iadd C e_law_471 ?_
  refine l_sld C (j := i + 1) (nI_add i 1) (by omega) e_law_472 ?_
  refine l_aload_n C e_law_473 rfl ?_
  refine l_iload_n C e_law_474 rfl ?_
  refine l_iconst C e_law_475 (v := (2 : Int32)) ic_2 ?_
  refine l_iadd C e_law_476 ?_
  refine l_sld C (j := i + 2) (nI_add i 2) (by omega) e_law_477 ?_
  refine l_callM (As := [.int (xxs X (i + 1)), .int (xxs X (i + 2))]) C (h2 ▸ c_M_swap C.iM μ (xxs X (i + 1)) (xxs X (i + 2))) wv_M_swap g_731 ⟨by decide, by decide⟩ rfl rfl (Nat.le_of_ble_eq_true rfl) e_law_478 ?_
  exact l_eqs C e_law_481 rfl kk
set_option maxRecDepth 100000 in
theorem l_case_10 {X : LX} (C : LC X) {Rel : St → St → Prop} (h : ∀ a1 a2 : Int32, Agree Rel (fun σ => m_P_work σ a1 a2) (fun μ => m_M_work μ a1 a2)) {σ μ : St} (hr : Rel σ μ) {i : Nat} (hi : i + 6 ≤ xL X) (k0 : ∀ σ' μ' : St, Rel σ' μ' → Lg X σ' μ' [(0, .ref (xa X)), (1, .ref (xq X 0)), (2, .ref (xqm X 0)), (3, .int (nI i))] 1112 []) : Lg X σ μ [(0, .ref (xa X)), (1, .ref (xq X 0)), (2, .ref (xqm X 0)), (3, .int (nI i))] 486 [] := by
  obtain ⟨r, σ', μ', h1, h2, h3⟩ := h (xxs X (i + 1)) (xxs X (i + 2)) σ μ hr
  have kk := k0 σ' μ' h3
  dsimp only at h1 h2
  refine l_aload_n C e_law_486 rfl ?_
  refine l_aload_n C e_law_487 rfl ?_
  refine l_iload_n C e_law_488 rfl ?_
  refine l_iconst C e_law_489 (v := (1 : Int32)) ic_1 ?_
  refine l_iadd C e_law_490 ?_
  refine l_sld C (j := i + 1) (nI_add i 1) (by omega) e_law_491 ?_
  refine l_aload_n C e_law_492 rfl ?_
  refine l_iload_n C e_law_493 rfl ?_
  refine l_iconst C e_law_494 (v := (2 : Int32)) ic_2 ?_
  refine l_iadd C e_law_495 ?_
  refine l_sld C (j := i + 2) (nI_add i 2) (by omega) e_law_496 ?_
  refine l_callX (As := [.int (xxs X (i + 1)), .int (xxs X (i + 2))]) C (h1 ▸ c_P_work C.iX σ (xxs X (i + 1)) (xxs X (i + 2))) wv_P_work g_735 ⟨by decide, by decide⟩ rfl rfl (Nat.le_of_ble_eq_true rfl) e_law_497 ?_
  refine l_aload_n C e_law_500 rfl ?_
  refine l_aload_n C e_law_501 rfl ?_
  refine l_iload_n C e_law_502 rfl ?_
  refine l_iconst C e_law_503 (v := (1 : Int32)) ic_1 ?_
  refine l_iadd C e_law_504 ?_
  refine l_sld C (j := i + 1) (nI_add i 1) (by omega) e_law_505 ?_
  refine l_aload_n C e_law_506 rfl ?_
  refine l_iload_n C e_law_507 rfl ?_
  refine l_iconst C e_law_508 (v := (2 : Int32)) ic_2 ?_
  refine l_iadd C e_law_509 ?_
  refine l_sld C (j := i + 2) (nI_add i 2) (by omega) e_law_510 ?_
  refine l_callM (As := [.int (xxs X (i + 1)), .int (xxs X (i + 2))]) C (h2 ▸ c_M_work C.iM μ (xxs X (i + 1)) (xxs X (i + 2))) wv_M_work g_739 ⟨by decide, by decide⟩ rfl rfl (Nat.le_of_ble_eq_true rfl) e_law_511 ?_
  exact l_eqs C e_law_514 rfl kk
set_option maxRecDepth 100000 in
theorem l_case_11 {X : LX} (C : LC X) {Rel : St → St → Prop} (h : ∀ a1 : Int32, Agree Rel (fun σ => m_P_slip σ a1) (fun μ => m_M_slip μ a1)) {σ μ : St} (hr : Rel σ μ) {i : Nat} (hi : i + 6 ≤ xL X) (k0 : ∀ σ' μ' : St, Rel σ' μ' → Lg X σ' μ' [(0, .ref (xa X)), (1, .ref (xq X 0)), (2, .ref (xqm X 0)), (3, .int (nI i))] 1112 []) : Lg X σ μ [(0, .ref (xa X)), (1, .ref (xq X 0)), (2, .ref (xqm X 0)), (3, .int (nI i))] 519 [] := by
  obtain ⟨r, σ', μ', h1, h2, h3⟩ := h (xxs X (i + 1)) σ μ hr
  have kk := k0 σ' μ' h3
  dsimp only at h1 h2
  refine l_aload_n C e_law_519 rfl ?_
  refine l_aload_n C e_law_520 rfl ?_
  refine l_iload_n C e_law_521 rfl ?_
  refine l_iconst C e_law_522 (v := (1 : Int32)) ic_1 ?_
  refine l_iadd C e_law_523 ?_
  refine l_sld C (j := i + 1) (nI_add i 1) (by omega) e_law_524 ?_
  refine l_callX (As := [.int (xxs X (i + 1))]) C (h1 ▸ c_P_slip C.iX σ (xxs X (i + 1))) wv_P_slip g_743 ⟨by decide, by decide⟩ rfl rfl (Nat.le_of_ble_eq_true rfl) e_law_525 ?_
  refine l_aload_n C e_law_528 rfl ?_
  refine l_aload_n C e_law_529 rfl ?_
  refine l_iload_n C e_law_530 rfl ?_
  refine l_iconst C e_law_531 (v := (1 : Int32)) ic_1 ?_
  refine l_iadd C e_law_532 ?_
  refine l_sld C (j := i + 1) (nI_add i 1) (by omega) e_law_533 ?_
  refine l_callM (As := [.int (xxs X (i + 1))]) C (h2 ▸ c_M_slip C.iM μ (xxs X (i + 1))) wv_M_slip g_747 ⟨by decide, by decide⟩ rfl rfl (Nat.le_of_ble_eq_true rfl) e_law_534 ?_
  exact l_eqs C e_law_537 rfl kk
set_option maxRecDepth 100000 in
theorem l_case_12 {X : LX} (C : LC X) {Rel : St → St → Prop} (h : Agree Rel (fun σ => m_P_undo σ) (fun μ => m_M_undo μ)) {σ μ : St} (hr : Rel σ μ) {i : Nat} (hi : i + 6 ≤ xL X) (k0 : ∀ σ' μ' : St, Rel σ' μ' → Lg X σ' μ' [(0, .ref (xa X)), (1, .ref (xq X 0)), (2, .ref (xqm X 0)), (3, .int (nI i))] 1112 []) : Lg X σ μ [(0, .ref (xa X)), (1, .ref (xq X 0)), (2, .ref (xqm X 0)), (3, .int (nI i))] 542 [] := by
  obtain ⟨r, σ', μ', h1, h2, h3⟩ := h σ μ hr
  have kk := k0 σ' μ' h3
  dsimp only at h1 h2
  refine l_aload_n C e_law_542 rfl ?_
  refine l_callX (As := []) C (h1 ▸ c_P_undo C.iX σ) wv_P_undo g_751 ⟨by decide, by decide⟩ rfl rfl (Nat.le_of_ble_eq_true rfl) e_law_543 ?_
  refine l_aload_n C e_law_546 rfl ?_
  refine l_callM (As := []) C (h2 ▸ c_M_undo C.iM μ) wv_M_undo g_755 ⟨by decide, by decide⟩ rfl rfl (Nat.le_of_ble_eq_true rfl) e_law_547 ?_
  exact l_eqs C e_law_550 rfl kk
set_option maxRecDepth 100000 in
theorem l_case_13 {X : LX} (C : LC X) {Rel : St → St → Prop} (h : ∀ a1 a2 : Int32, Agree Rel (fun σ => m_P_pin σ a1 a2) (fun μ => m_M_pin μ a1 a2)) {σ μ : St} (hr : Rel σ μ) {i : Nat} (hi : i + 6 ≤ xL X) (k0 : ∀ σ' μ' : St, Rel σ' μ' → Lg X σ' μ' [(0, .ref (xa X)), (1, .ref (xq X 0)), (2, .ref (xqm X 0)), (3, .int (nI i))] 1112 []) : Lg X σ μ [(0, .ref (xa X)), (1, .ref (xq X 0)), (2, .ref (xqm X 0)), (3, .int (nI i))] 555 [] := by
  obtain ⟨r, σ', μ', h1, h2, h3⟩ := h (xxs X (i + 1)) (xxs X (i + 2)) σ μ hr
  have kk := k0 σ' μ' h3
  dsimp only at h1 h2
  refine l_aload_n C e_law_555 rfl ?_
  refine l_aload_n C e_law_556 rfl ?_
  refine l_iload_n C e_law_557 rfl ?_
  refine l_iconst C e_law_558 (v := (1 : Int32)) ic_1 ?_
  refine l_iadd C e_law_559 ?_
  refine l_sld C (j := i + 1) (nI_add i 1) (by omega) e_law_560 ?_
  refine l_aload_n C e_law_561 rfl ?_
  refine l_iload_n C e_law_562 rfl ?_
  refine l_iconst C e_law_563 (v := (2 : Int32)) ic_2 ?_
  refine l_iadd C e_law_564 ?_
  refine l_sld C (j := i + 2) (nI_add i 2) (by omega) e_law_565 ?_
  refine l_callX (As := [.int (xxs X (i + 1)), .int (xxs X (i + 2))]) C (h1 ▸ c_P_pin C.iX σ (xxs X (i + 1)) (xxs X (i + 2))) wv_P_pin g_759 ⟨by decide, by decide⟩ rfl rfl (Nat.le_of_ble_eq_true rfl) e_law_566 ?_
  refine l_aload_n C e_law_569 rfl ?_
  refine l_aload_n C e_law_570 rfl ?_
  refine l_iload_n C e_law_571 rfl ?_
  refine l_iconst C e_law_572 (v := (1 : Int32)) ic_1 ?_
  refine l_iadd C e_law_573 ?_
  refine l_sld C (j := i + 1) (nI_add i 1) (by omega) e_law_574 ?_
  refine l_aload_n C e_law_575 rfl ?_
  refine l_iload_n C e_law_576 rfl ?_
  refine l_iconst C e_law_577 (v := (2 : Int32)) ic_2 ?_
  refine l_iadd C e_law_578 ?_
  refine l_sld C (j := i + 2) (nI_add i 2) (by omega) e_law_579 ?_
  refine l_callM (As := [.int (xxs X (i + 1)), .int (xxs X (i + 2))]) C (h2 ▸ c_M_pin C.iM μ (xxs X (i + 1)) (xxs X (i + 2))) wv_M_pin g_763 ⟨by decide, by decide⟩ rfl rfl (Nat.le_of_ble_eq_true rfl) e_law_580 ?_
  exact l_eqs C e_law_583 rfl kk
set_option maxRecDepth 100000 in
theorem l_case_14 {X : LX} (C : LC X) {Rel : St → St → Prop} (h : ∀ a1 a2 : Int32, Agree Rel (fun σ => m_P_cell σ a1 a2) (fun μ => m_M_cell μ a1 a2)) {σ μ : St} (hr : Rel σ μ) {i : Nat} (hi : i + 6 ≤ xL X) (k0 : ∀ σ' μ' : St, Rel σ' μ' → Lg X σ' μ' [(0, .ref (xa X)), (1, .ref (xq X 0)), (2, .ref (xqm X 0)), (3, .int (nI i))] 1112 []) : Lg X σ μ [(0, .ref (xa X)), (1, .ref (xq X 0)), (2, .ref (xqm X 0)), (3, .int (nI i))] 588 [] := by
  obtain ⟨r, σ', μ', h1, h2, h3⟩ := h (xxs X (i + 1)) (xxs X (i + 2)) σ μ hr
  have kk := k0 σ' μ' h3
  dsimp only at h1 h2
  refine l_aload_n C e_law_588 rfl ?_
  refine l_aload_n C e_law_589 rfl ?_
  refine l_iload_n C e_law_590 rfl ?_
  refine l_iconst C e_law_591 (v := (1 : Int32)) ic_1 ?_
  refine l_iadd C e_law_592 ?_
  refine l_sld C (j := i + 1) (nI_add i 1) (by omega) e_law_593 ?_
  refine l_aload_n C e_law_594 rfl ?_
  refine l_iload_n C e_law_595 rfl ?_
  refine l_iconst C e_law_596 (v := (2 : Int32)) ic_2 ?_
  refine l_iadd C e_law_597 ?_
  refine l_sld C (j := i + 2) (nI_add i 2) (by omega) e_law_598 ?_
  refine l_callX (As := [.int (xxs X (i + 1)), .int (xxs X (i + 2))]) C (h1 ▸ c_P_cell C.iX σ (xxs X (i + 1)) (xxs X (i + 2))) wv_P_cell g_767 ⟨by decide, by decide⟩ rfl rfl (Nat.le_of_ble_eq_true rfl) e_law_599 ?_
  refine l_aload_n C e_law_602 rfl ?_
  refine l_aload_n C e_law_603 rfl ?_
  refine l_iload_n C e_law_604 rfl ?_
  refine l_iconst C e_law_605 (v := (1 : Int32)) ic_1 ?_
  refine l_iadd C e_law_606 ?_
  refine l_sld C (j := i + 1) (nI_add i 1) (by omega) e_law_607 ?_
  refine l_aload_n C e_law_608 rfl ?_
  refine l_iload_n C e_law_609 rfl ?_
  refine l_iconst C e_law_610 (v := (2 : Int32)) ic_2 ?_
  refine l_iadd C e_law_611 ?_
  refine l_sld C (j := i + 2) (nI_add i 2) (by omega) e_law_612 ?_
  refine l_callM (As := [.int (xxs X (i + 1)), .int (xxs X (i + 2))]) C (h2 ▸ c_M_cell C.iM μ (xxs X (i + 1)) (xxs X (i + 2))) wv_M_cell g_771 ⟨by decide, by decide⟩ rfl rfl (Nat.le_of_ble_eq_true rfl) e_law_613 ?_
  exact l_eqs C e_law_616 rfl kk
set_option maxRecDepth 100000 in
theorem l_case_15 {X : LX} (C : LC X) {Rel : St → St → Prop} (h : ∀ a1 a2 : Int32, Agree Rel (fun σ => m_P_ahead σ a1 a2) (fun μ => m_M_ahead μ a1 a2)) {σ μ : St} (hr : Rel σ μ) {i : Nat} (hi : i + 6 ≤ xL X) (k0 : ∀ σ' μ' : St, Rel σ' μ' → Lg X σ' μ' [(0, .ref (xa X)), (1, .ref (xq X 0)), (2, .ref (xqm X 0)), (3, .int (nI i))] 1112 []) : Lg X σ μ [(0, .ref (xa X)), (1, .ref (xq X 0)), (2, .ref (xqm X 0)), (3, .int (nI i))] 621 [] := by
  obtain ⟨r, σ', μ', h1, h2, h3⟩ := h (xxs X (i + 1)) (xxs X (i + 2)) σ μ hr
  have kk := k0 σ' μ' h3
  dsimp only at h1 h2
  refine l_aload_n C e_law_621 rfl ?_
  refine l_aload_n C e_law_622 rfl ?_
  refine l_iload_n C e_law_623 rfl ?_
  refine l_iconst C e_law_624 (v := (1 : Int32)) ic_1 ?_
  refine l_iadd C e_law_625 ?_
  refine l_sld C (j := i + 1) (nI_add i 1) (by omega) e_law_626 ?_
  refine l_aload_n C e_law_627 rfl ?_
  refine l_iload_n C e_law_628 rfl ?_
  refine l_iconst C e_law_629 (v := (2 : Int32)) ic_2 ?_
  refine l_iadd C e_law_630 ?_
  refine l_sld C (j := i + 2) (nI_add i 2) (by omega) e_law_631 ?_
  refine l_callX (As := [.int (xxs X (i + 1)), .int (xxs X (i + 2))]) C (h1 ▸ c_P_ahead C.iX σ (xxs X (i + 1)) (xxs X (i + 2))) wv_P_ahead g_775 ⟨by decide, by decide⟩ rfl rfl (Nat.le_of_ble_eq_true rfl) e_law_632 ?_
  refine l_aload_n C e_law_635 rfl ?_
  refine l_aload_n C e_law_636 rfl ?_
  refine l_iload_n C e_law_637 rfl ?_
  refine l_iconst C e_law_638 (v := (1 : Int32)) ic_1 ?_
  refine l_iadd C e_law_639 ?_
  refine l_sld C (j := i + 1) (nI_add i 1) (by omega) e_law_640 ?_
  refine l_aload_n C e_law_641 rfl ?_
  refine l_iload_n C e_law_642 rfl ?_
  refine l_iconst C e_law_643 (v := (2 : Int32)) ic_2 ?_
  refine l_iadd C e_law_644 ?_
  refine l_sld C (j := i + 2) (nI_add i 2) (by omega) e_law_645 ?_
  refine l_callM (As := [.int (xxs X (i + 1)), .int (xxs X (i + 2))]) C (h2 ▸ c_M_ahead C.iM μ (xxs X (i + 1)) (xxs X (i + 2))) wv_M_ahead g_779 ⟨by decide, by decide⟩ rfl rfl (Nat.le_of_ble_eq_true rfl) e_law_646 ?_
  exact l_eqs C e_law_649 rfl kk
set_option maxRecDepth 100000 in
theorem l_case_16 {X : LX} (C : LC X) {Rel : St → St → Prop} (h : ∀ a1 : Int32, Agree Rel (fun σ => m_P_earned σ a1) (fun μ => m_M_earned μ a1)) {σ μ : St} (hr : Rel σ μ) {i : Nat} (hi : i + 6 ≤ xL X) (k0 : ∀ σ' μ' : St, Rel σ' μ' → Lg X σ' μ' [(0, .ref (xa X)), (1, .ref (xq X 0)), (2, .ref (xqm X 0)), (3, .int (nI i))] 1112 []) : Lg X σ μ [(0, .ref (xa X)), (1, .ref (xq X 0)), (2, .ref (xqm X 0)), (3, .int (nI i))] 654 [] := by
  obtain ⟨r, σ', μ', h1, h2, h3⟩ := h (xxs X (i + 1)) σ μ hr
  have kk := k0 σ' μ' h3
  dsimp only at h1 h2
  refine l_aload_n C e_law_654 rfl ?_
  refine l_aload_n C e_law_655 rfl ?_
  refine l_iload_n C e_law_656 rfl ?_
  refine l_iconst C e_law_657 (v := (1 : Int32)) ic_1 ?_
  refine l_iadd C e_law_658 ?_
  refine l_sld C (j := i + 1) (nI_add i 1) (by omega) e_law_659 ?_
  refine l_callX (As := [.int (xxs X (i + 1))]) C (h1 ▸ c_P_earned C.iX σ (xxs X (i + 1))) wv_P_earned g_783 ⟨by decide, by decide⟩ rfl rfl (Nat.le_of_ble_eq_true rfl) e_law_660 ?_
  refine l_aload_n C e_law_663 rfl ?_
  refine l_aload_n C e_law_664 rfl ?_
  refine l_iload_n C e_law_665 rfl ?_
  refine l_iconst C e_law_666 (v := (1 : Int32)) ic_1 ?_
  refine l_iadd C e_law_667 ?_
  refine l_sld C (j := i + 1) (nI_add i 1) (by omega) e_law_668 ?_
  refine l_callM (As := [.int (xxs X (i + 1))]) C (h2 ▸ c_M_earned C.iM μ (xxs X (i + 1))) wv_M_earned g_787 ⟨by decide, by decide⟩ rfl rfl (Nat.le_of_ble_eq_true rfl) e_law_669 ?_
  exact l_eqs C e_law_672 rfl kk
set_option maxRecDepth 100000 in
theorem l_case_17 {X : LX} (C : LC X) {Rel : St → St → Prop} (h : ∀ a1 a2 : Int32, Agree Rel (fun σ => m_P_tomsk σ a1 a2) (fun μ => m_M_tomsk μ a1 a2)) {σ μ : St} (hr : Rel σ μ) {i : Nat} (hi : i + 6 ≤ xL X) (k0 : ∀ σ' μ' : St, Rel σ' μ' → Lg X σ' μ' [(0, .ref (xa X)), (1, .ref (xq X 0)), (2, .ref (xqm X 0)), (3, .int (nI i))] 1112 []) : Lg X σ μ [(0, .ref (xa X)), (1, .ref (xq X 0)), (2, .ref (xqm X 0)), (3, .int (nI i))] 677 [] := by
  obtain ⟨r, σ', μ', h1, h2, h3⟩ := h (xxs X (i + 1)) (xxs X (i + 2)) σ μ hr
  have kk := k0 σ' μ' h3
  dsimp only at h1 h2
  refine l_aload_n C e_law_677 rfl ?_
  refine l_aload_n C e_law_678 rfl ?_
  refine l_iload_n C e_law_679 rfl ?_
  refine l_iconst C e_law_680 (v := (1 : Int32)) ic_1 ?_
  refine l_iadd C e_law_681 ?_
  refine l_sld C (j := i + 1) (nI_add i 1) (by omega) e_law_682 ?_
  refine l_aload_n C e_law_683 rfl ?_
  refine l_iload_n C e_law_684 rfl ?_
  refine l_iconst C e_law_685 (v := (2 : Int32)) ic_2 ?_
  refine l_iadd C e_law_686 ?_
  refine l_sld C (j := i + 2) (nI_add i 2) (by omega) e_law_687 ?_
  refine l_callX (As := [.int (xxs X (i + 1)), .int (xxs X (i + 2))]) C (h1 ▸ c_P_tomsk C.iX σ (xxs X (i + 1)) (xxs X (i + 2))) wv_P_tomsk g_791 ⟨by decide, by decide⟩ rfl rfl (Nat.le_of_ble_eq_true rfl) e_law_688 ?_
  refine l_aload_n C e_law_691 rfl ?_
  refine l_aload_n C e_law_692 rfl ?_
  refine l_iload_n C e_law_693 rfl ?_
  refine l_iconst C e_law_694 (v := (1 : Int32)) ic_1 ?_
  refine l_iadd C e_law_695 ?_
  refine l_sld C (j := i + 1) (nI_add i 1) (by omega) e_law_696 ?_
  refine l_aload_n C e_law_697 rfl ?_
  refine l_iload_n C e_law_698 rfl ?_
  refine l_iconst C e_law_699 (v := (2 : Int32)) ic_2 ?_
  refine l_iadd C e_law_700 ?_
  refine l_sld C (j := i + 2) (nI_add i 2) (by omega) e_law_701 ?_
  refine l_callM (As := [.int (xxs X (i + 1)), .int (xxs X (i + 2))]) C (h2 ▸ c_M_tomsk C.iM μ (xxs X (i + 1)) (xxs X (i + 2))) wv_M_tomsk g_795 ⟨by decide, by decide⟩ rfl rfl (Nat.le_of_ble_eq_true rfl) e_law_702 ?_
  exact l_eqs C e_law_705 rfl kk
set_option maxRecDepth 100000 in
theorem l_case_18 {X : LX} (C : LC X) {Rel : St → St → Prop} (h : Agree Rel (fun σ => m_P_round σ) (fun μ => m_M_round μ)) {σ μ : St} (hr : Rel σ μ) {i : Nat} (hi : i + 6 ≤ xL X) (k0 : ∀ σ' μ' : St, Rel σ' μ' → Lg X σ' μ' [(0, .ref (xa X)), (1, .ref (xq X 0)), (2, .ref (xqm X 0)), (3, .int (nI i))] 1112 []) : Lg X σ μ [(0, .ref (xa X)), (1, .ref (xq X 0)), (2, .ref (xqm X 0)), (3, .int (nI i))] 710 [] := by
  obtain ⟨r, σ', μ', h1, h2, h3⟩ := h σ μ hr
  have kk := k0 σ' μ' h3
  dsimp only at h1 h2
  refine l_aload_n C e_law_710 rfl ?_
  refine l_callX (As := []) C (h1 ▸ c_P_round C.iX σ) wv_P_round g_799 ⟨by decide, by decide⟩ rfl rfl (Nat.le_of_ble_eq_true rfl) e_law_711 ?_
  refine l_aload_n C e_law_714 rfl ?_
  refine l_callM (As := []) C (h2 ▸ c_M_round C.iM μ) wv_M_round g_803 ⟨by decide, by decide⟩ rfl rfl (Nat.le_of_ble_eq_true rfl) e_law_715 ?_
  exact l_eqs C e_law_718 rfl kk
set_option maxRecDepth 100000 in
theorem l_case_19 {X : LX} (C : LC X) {Rel : St → St → Prop} (h : ∀ a1 : Int32, Agree Rel (fun σ => m_P_right σ a1) (fun μ => m_M_right μ a1)) {σ μ : St} (hr : Rel σ μ) {i : Nat} (hi : i + 6 ≤ xL X) (k0 : ∀ σ' μ' : St, Rel σ' μ' → Lg X σ' μ' [(0, .ref (xa X)), (1, .ref (xq X 0)), (2, .ref (xqm X 0)), (3, .int (nI i))] 1112 []) : Lg X σ μ [(0, .ref (xa X)), (1, .ref (xq X 0)), (2, .ref (xqm X 0)), (3, .int (nI i))] 723 [] := by
  obtain ⟨r, σ', μ', h1, h2, h3⟩ := h (xxs X (i + 1)) σ μ hr
  have kk := k0 σ' μ' h3
  dsimp only at h1 h2
  refine l_aload_n C e_law_723 rfl ?_
  refine l_aload_n C e_law_724 rfl ?_
  refine l_iload_n C e_law_725 rfl ?_
  refine l_iconst C e_law_726 (v := (1 : Int32)) ic_1 ?_
  refine l_iadd C e_law_727 ?_
  refine l_sld C (j := i + 1) (nI_add i 1) (by omega) e_law_728 ?_
  refine l_callX (As := [.int (xxs X (i + 1))]) C (h1 ▸ c_P_right C.iX σ (xxs X (i + 1))) wv_P_right g_807 ⟨by decide, by decide⟩ rfl rfl (Nat.le_of_ble_eq_true rfl) e_law_729 ?_
  refine l_aload_n C e_law_732 rfl ?_
  refine l_aload_n C e_law_733 rfl ?_
  refine l_iload_n C e_law_734 rfl ?_
  refine l_iconst C e_law_735 (v := (1 : Int32)) ic_1 ?_
  refine l_iadd C e_law_736 ?_
  refine l_sld C (j := i + 1) (nI_add i 1) (by omega) e_law_737 ?_
  refine l_callM (As := [.int (xxs X (i + 1))]) C (h2 ▸ c_M_right C.iM μ (xxs X (i + 1))) wv_M_right g_811 ⟨by decide, by decide⟩ rfl rfl (Nat.le_of_ble_eq_true rfl) e_law_738 ?_
  exact l_eqs C e_law_741 rfl kk
set_option maxRecDepth 100000 in
theorem l_case_20 {X : LX} (C : LC X) {Rel : St → St → Prop} (h : ∀ a1 : Int32, Agree Rel (fun σ => m_P_best σ a1) (fun μ => m_M_best μ a1)) {σ μ : St} (hr : Rel σ μ) {i : Nat} (hi : i + 6 ≤ xL X) (k0 : ∀ σ' μ' : St, Rel σ' μ' → Lg X σ' μ' [(0, .ref (xa X)), (1, .ref (xq X 0)), (2, .ref (xqm X 0)), (3, .int (nI i))] 1112 []) : Lg X σ μ [(0, .ref (xa X)), (1, .ref (xq X 0)), (2, .ref (xqm X 0)), (3, .int (nI i))] 746 [] := by
  obtain ⟨r, σ', μ', h1, h2, h3⟩ := h (xxs X (i + 1)) σ μ hr
  have kk := k0 σ' μ' h3
  dsimp only at h1 h2
  refine l_aload_n C e_law_746 rfl ?_
  refine l_aload_n C e_law_747 rfl ?_
  refine l_iload_n C e_law_748 rfl ?_
  refine l_iconst C e_law_749 (v := (1 : Int32)) ic_1 ?_
  refine l_iadd C e_law_750 ?_
  refine l_sld C (j := i + 1) (nI_add i 1) (by omega) e_law_751 ?_
  refine l_callX (As := [.int (xxs X (i + 1))]) C (h1 ▸ c_P_best C.iX σ (xxs X (i + 1))) wv_P_best g_815 ⟨by decide, by decide⟩ rfl rfl (Nat.le_of_ble_eq_true rfl) e_law_752 ?_
  refine l_aload_n C e_law_755 rfl ?_
  refine l_aload_n C e_law_756 rfl ?_
  refine l_iload_n C e_law_757 rfl ?_
  refine l_iconst C e_law_758 (v := (1 : Int32)) ic_1 ?_
  refine l_iadd C e_law_759 ?_
  refine l_sld C (j := i + 1) (nI_add i 1) (by omega) e_law_760 ?_
  refine l_callM (As := [.int (xxs X (i + 1))]) C (h2 ▸ c_M_best C.iM μ (xxs X (i + 1))) wv_M_best g_819 ⟨by decide, by decide⟩ rfl rfl (Nat.le_of_ble_eq_true rfl) e_law_761 ?_
  exact l_eqs C e_law_764 rfl kk
set_option maxRecDepth 100000 in
theorem l_case_21 {X : LX} (C : LC X) {Rel : St → St → Prop} (h : ∀ a1 a2 a3 a4 a5 : Int32, Agree Rel (fun σ => m_P_fits σ a1 a2 a3 a4 a5) (fun μ => m_M_fits μ a1 a2 a3 a4 a5)) {σ μ : St} (hr : Rel σ μ) {i : Nat} (hi : i + 6 ≤ xL X) (k0 : ∀ σ' μ' : St, Rel σ' μ' → Lg X σ' μ' [(0, .ref (xa X)), (1, .ref (xq X 0)), (2, .ref (xqm X 0)), (3, .int (nI i))] 1112 []) : Lg X σ μ [(0, .ref (xa X)), (1, .ref (xq X 0)), (2, .ref (xqm X 0)), (3, .int (nI i))] 769 [] := by
  obtain ⟨r, σ', μ', h1, h2, h3⟩ := h (xxs X (i + 1)) (xxs X (i + 2)) (xxs X (i + 3)) (xxs X (i + 4)) (xxs X (i + 5)) σ μ hr
  have kk := k0 σ' μ' h3
  dsimp only at h1 h2
  refine l_aload_n C e_law_769 rfl ?_
  refine l_aload_n C e_law_770 rfl ?_
  refine l_iload_n C e_law_771 rfl ?_
  refine l_iconst C e_law_772 (v := (1 : Int32)) ic_1 ?_
  refine l_iadd C e_law_773 ?_
  refine l_sld C (j := i + 1) (nI_add i 1) (by omega) e_law_774 ?_
  refine l_aload_n C e_law_775 rfl ?_
  refine l_iload_n C e_law_776 rfl ?_
  refine l_iconst C e_law_777 (v := (2 : Int32)) ic_2 ?_
  refine l_iadd C e_law_778 ?_
  refine l_sld C (j := i + 2) (nI_add i 2) (by omega) e_law_779 ?_
  refine l_aload_n C e_law_780 rfl ?_
  refine l_iload_n C e_law_781 rfl ?_
  refine l_iconst C e_law_782 (v := (3 : Int32)) ic_3 ?_
  refine l_iadd C e_law_783 ?_
  refine l_sld C (j := i + 3) (nI_add i 3) (by omega) e_law_784 ?_
  refine l_aload_n C e_law_785 rfl ?_
  refine l_iload_n C e_law_786 rfl ?_
  refine l_iconst C e_law_787 (v := (4 : Int32)) ic_4 ?_
  refine l_iadd C e_law_788 ?_
  refine l_sld C (j := i + 4) (nI_add i 4) (by omega) e_law_789 ?_
  refine l_aload_n C e_law_790 rfl ?_
  refine l_iload_n C e_law_791 rfl ?_
  refine l_iconst C e_law_792 (v := (5 : Int32)) ic_5 ?_
  refine l_iadd C e_law_793 ?_
  refine l_sld C (j := i + 5) (nI_add i 5) (by omega) e_law_794 ?_
  refine l_callX (As := [.int (xxs X (i + 1)), .int (xxs X (i + 2)), .int (xxs X (i + 3)), .int (xxs X (i + 4)), .int (xxs X (i + 5))]) C (h1 ▸ c_P_fits C.iX σ (xxs X (i + 1)) (xxs X (i + 2)) (xxs X (i + 3)) (xxs X (i + 4)) (xxs X (i + 5))) wv_P_fits g_823 ⟨by decide, by decide⟩ rfl rfl (Nat.le_of_ble_eq_true rfl) e_law_795 ?_
  refine l_aload_n C e_law_798 rfl ?_
  refine l_aload_n C e_law_799 rfl ?_
  refine l_iload_n C e_law_800 rfl ?_
  refine l_iconst C e_law_801 (v := (1 : Int32)) ic_1 ?_
  refine l_iadd C e_law_802 ?_
  refine l_sld C (j := i + 1) (nI_add i 1) (by omega) e_law_803 ?_
  refine l_aload_n C e_law_804 rfl ?_
  refine l_iload_n C e_law_805 rfl ?_
  refine l_iconst C e_law_806 (v := (2 : Int32)) ic_2 ?_
  refine l_iadd C e_law_807 ?_
  refine l_sld C (j := i + 2) (nI_add i 2) (by omega) e_law_808 ?_
  refine l_aload_n C e_law_809 rfl ?_
  refine l_iload_n C e_law_810 rfl ?_
  refine l_iconst C e_law_811 (v := (3 : Int32)) ic_3 ?_
  refine l_iadd C e_law_812 ?_
  refine l_sld C (j := i + 3) (nI_add i 3) (by omega) e_law_813 ?_
  refine l_aload_n C e_law_814 rfl ?_
  refine l_iload_n C e_law_815 rfl ?_
  refine l_iconst C e_law_816 (v := (4 : Int32)) ic_4 ?_
  refine l_iadd C e_law_817 ?_
  refine l_sld C (j := i + 4) (nI_add i 4) (by omega) e_law_818 ?_
  refine l_aload_n C e_law_819 rfl ?_
  refine l_iload_n C e_law_820 rfl ?_
  refine l_iconst C e_law_821 (v := (5 : Int32)) ic_5 ?_
  refine l_iadd C e_law_822 ?_
  refine l_sld C (j := i + 5) (nI_add i 5) (by omega) e_law_823 ?_
  refine l_callM (As := [.int (xxs X (i + 1)), .int (xxs X (i + 2)), .int (xxs X (i + 3)), .int (xxs X (i + 4)), .int (xxs X (i + 5))]) C (h2 ▸ c_M_fits C.iM μ (xxs X (i + 1)) (xxs X (i + 2)) (xxs X (i + 3)) (xxs X (i + 4)) (xxs X (i + 5))) wv_M_fits g_827 ⟨by decide, by decide⟩ rfl rfl (Nat.le_of_ble_eq_true rfl) e_law_824 ?_
  exact l_eqs C e_law_827 rfl kk
set_option maxRecDepth 100000 in
theorem l_case_22 {X : LX} (C : LC X) {Rel : St → St → Prop} (h : ∀ a1 a2 a3 : Int32, Agree Rel (fun σ => m_P_left σ a1 a2 a3) (fun μ => m_M_left μ a1 a2 a3)) {σ μ : St} (hr : Rel σ μ) {i : Nat} (hi : i + 6 ≤ xL X) (k0 : ∀ σ' μ' : St, Rel σ' μ' → Lg X σ' μ' [(0, .ref (xa X)), (1, .ref (xq X 0)), (2, .ref (xqm X 0)), (3, .int (nI i))] 1112 []) : Lg X σ μ [(0, .ref (xa X)), (1, .ref (xq X 0)), (2, .ref (xqm X 0)), (3, .int (nI i))] 832 [] := by
  obtain ⟨r, σ', μ', h1, h2, h3⟩ := h (xxs X (i + 1)) (xxs X (i + 2)) (xxs X (i + 3)) σ μ hr
  have kk := k0 σ' μ' h3
  dsimp only at h1 h2
  refine l_aload_n C e_law_832 rfl ?_
  refine l_aload_n C e_law_833 rfl ?_
  refine l_iload_n C e_law_834 rfl ?_
  refine l_iconst C e_law_835 (v := (1 : Int32)) ic_1 ?_
  refine l_iadd C e_law_836 ?_
  refine l_sld C (j := i + 1) (nI_add i 1) (by omega) e_law_837 ?_
  refine l_aload_n C e_law_838 rfl ?_
  refine l_iload_n C e_law_839 rfl ?_
  refine l_iconst C e_law_840 (v := (2 : Int32)) ic_2 ?_
  refine l_iadd C e_law_841 ?_
  refine l_sld C (j := i + 2) (nI_add i 2) (by omega) e_law_842 ?_
  refine l_aload_n C e_law_843 rfl ?_
  refine l_iload_n C e_law_844 rfl ?_
  refine l_iconst C e_law_845 (v := (3 : Int32)) ic_3 ?_
  refine l_iadd C e_law_846 ?_
  refine l_sld C (j := i + 3) (nI_add i 3) (by omega) e_law_847 ?_
  refine l_callX (As := [.int (xxs X (i + 1)), .int (xxs X (i + 2)), .int (xxs X (i + 3))]) C (h1 ▸ c_P_left C.iX σ (xxs X (i + 1)) (xxs X (i + 2)) (xxs X (i + 3))) wv_P_left g_831 ⟨by decide, by decide⟩ rfl rfl (Nat.le_of_ble_eq_true rfl) e_law_848 ?_
  refine l_aload_n C e_law_851 rfl ?_
  refine l_aload_n C e_law_852 rfl ?_
  refine l_iload_n C e_law_853 rfl ?_
  refine l_iconst C e_law_854 (v := (1 : Int32)) ic_1 ?_
  refine l_iadd C e_law_855 ?_
  refine l_sld C (j := i + 1) (nI_add i 1) (by omega) e_law_856 ?_
  refine l_aload_n C e_law_857 rfl ?_
  refine l_iload_n C e_law_858 rfl ?_
  refine l_iconst C e_law_859 (v := (2 : Int32)) ic_2 ?_
  refine l_iadd C e_law_860 ?_
  refine l_sld C (j := i + 2) (nI_add i 2) (by omega) e_law_861 ?_
  refine l_aload_n C e_law_862 rfl ?_
  refine l_iload_n C e_law_863 rfl ?_
  refine l_iconst C e_law_864 (v := (3 : Int32)) ic_3 ?_
  refine l_iadd C e_law_865 ?_
  refine l_sld C (j := i + 3) (nI_add i 3) (by omega) e_law_866 ?_
  refine l_callM (As := [.int (xxs X (i + 1)), .int (xxs X (i + 2)), .int (xxs X (i + 3))]) C (h2 ▸ c_M_left C.iM μ (xxs X (i + 1)) (xxs X (i + 2)) (xxs X (i + 3))) wv_M_left g_835 ⟨by decide, by decide⟩ rfl rfl (Nat.le_of_ble_eq_true rfl) e_law_867 ?_
  exact l_eqs C e_law_870 rfl kk
set_option maxRecDepth 100000 in
theorem l_case_23 {X : LX} (C : LC X) {Rel : St → St → Prop} (h : ∀ a1 a2 a3 : Int32, Agree Rel (fun σ => m_P_drawn σ a1 a2 a3) (fun μ => m_M_drawn μ a1 a2 a3)) {σ μ : St} (hr : Rel σ μ) {i : Nat} (hi : i + 6 ≤ xL X) (k0 : ∀ σ' μ' : St, Rel σ' μ' → Lg X σ' μ' [(0, .ref (xa X)), (1, .ref (xq X 0)), (2, .ref (xqm X 0)), (3, .int (nI i))] 1112 []) : Lg X σ μ [(0, .ref (xa X)), (1, .ref (xq X 0)), (2, .ref (xqm X 0)), (3, .int (nI i))] 875 [] := by
  obtain ⟨r, σ', μ', h1, h2, h3⟩ := h (xxs X (i + 1)) (xxs X (i + 2)) (xxs X (i + 3)) σ μ hr
  have kk := k0 σ' μ' h3
  dsimp only at h1 h2
  refine l_aload_n C e_law_875 rfl ?_
  refine l_aload_n C e_law_876 rfl ?_
  refine l_iload_n C e_law_877 rfl ?_
  refine l_iconst C e_law_878 (v := (1 : Int32)) ic_1 ?_
  refine l_iadd C e_law_879 ?_
  refine l_sld C (j := i + 1) (nI_add i 1) (by omega) e_law_880 ?_
  refine l_aload_n C e_law_881 rfl ?_
  refine l_iload_n C e_law_882 rfl ?_
  refine l_iconst C e_law_883 (v := (2 : Int32)) ic_2 ?_
  refine l_iadd C e_law_884 ?_
  refine l_sld C (j := i + 2) (nI_add i 2) (by omega) e_law_885 ?_
  refine l_aload_n C e_law_886 rfl ?_
  refine l_iload_n C e_law_887 rfl ?_
  refine l_iconst C e_law_888 (v := (3 : Int32)) ic_3 ?_
  refine l_iadd C e_law_889 ?_
  refine l_sld C (j := i + 3) (nI_add i 3) (by omega) e_law_890 ?_
  refine l_callX (As := [.int (xxs X (i + 1)), .int (xxs X (i + 2)), .int (xxs X (i + 3))]) C (h1 ▸ c_P_drawn C.iX σ (xxs X (i + 1)) (xxs X (i + 2)) (xxs X (i + 3))) wv_P_drawn g_839 ⟨by decide, by decide⟩ rfl rfl (Nat.le_of_ble_eq_true rfl) e_law_891 ?_
  refine l_aload_n C e_law_894 rfl ?_
  refine l_aload_n C e_law_895 rfl ?_
  refine l_iload_n C e_law_896 rfl ?_
  refine l_iconst C e_law_897 (v := (1 : Int32)) ic_1 ?_
  refine l_iadd C e_law_898 ?_
  refine l_sld C (j := i + 1) (nI_add i 1) (by omega) e_law_899 ?_
  refine l_aload_n C e_law_900 rfl ?_
  refine l_iload_n C e_law_901 rfl ?_
  refine l_iconst C e_law_902 (v := (2 : Int32)) ic_2 ?_
  refine l_iadd C e_law_903 ?_
  refine l_sld C (j := i + 2) (nI_add i 2) (by omega) e_law_904 ?_
  refine l_aload_n C e_law_905 rfl ?_
  refine l_iload_n C e_law_906 rfl ?_
  refine l_iconst C e_law_907 (v := (3 : Int32)) ic_3 ?_
  refine l_iadd C e_law_908 ?_
  refine l_sld C (j := i + 3) (nI_add i 3) (by omega) e_law_909 ?_
  refine l_callM (As := [.int (xxs X (i + 1)), .int (xxs X (i + 2)), .int (xxs X (i + 3))]) C (h2 ▸ c_M_drawn C.iM μ (xxs X (i + 1)) (xxs X (i + 2)) (xxs X (i + 3))) wv_M_drawn g_843 ⟨by decide, by decide⟩ rfl rfl (Nat.le_of_ble_eq_true rfl) e_law_910 ?_
  exact l_eqs C e_law_913 rfl kk
set_option maxRecDepth 100000 in
theorem l_case_24 {X : LX} (C : LC X) {Rel : St → St → Prop} (h : ∀ a1 : Int32, Agree Rel (fun σ => m_P_image σ a1) (fun μ => m_M_image μ a1)) {σ μ : St} (hr : Rel σ μ) {i : Nat} (hi : i + 6 ≤ xL X) (k0 : ∀ σ' μ' : St, Rel σ' μ' → Lg X σ' μ' [(0, .ref (xa X)), (1, .ref (xq X 0)), (2, .ref (xqm X 0)), (3, .int (nI i))] 1112 []) : Lg X σ μ [(0, .ref (xa X)), (1, .ref (xq X 0)), (2, .ref (xqm X 0)), (3, .int (nI i))] 918 [] := by
  obtain ⟨r, σ', μ', h1, h2, h3⟩ := h (xxs X (i + 1)) σ μ hr
  have kk := k0 σ' μ' h3
  dsimp only at h1 h2
  refine l_aload_n C e_law_918 rfl ?_
  refine l_aload_n C e_law_919 rfl ?_
  refine l_iload_n C e_law_920 rfl ?_
  refine l_iconst C e_law_921 (v := (1 : Int32)) ic_1 ?_
  refine l_iadd C e_law_922 ?_
  refine l_sld C (j := i + 1) (nI_add i 1) (by omega) e_law_923 ?_
  refine l_callX (As := [.int (xxs X (i + 1))]) C (h1 ▸ c_P_image C.iX σ (xxs X (i + 1))) wv_P_image g_847 ⟨by decide, by decide⟩ rfl rfl (Nat.le_of_ble_eq_true rfl) e_law_924 ?_
  refine l_aload_n C e_law_927 rfl ?_
  refine l_aload_n C e_law_928 rfl ?_
  refine l_iload_n C e_law_929 rfl ?_
  refine l_iconst C e_law_930 (v := (1 : Int32)) ic_1 ?_
  refine l_iadd C e_law_931 ?_
  refine l_sld C (j := i + 1) (nI_add i 1) (by omega) e_law_932 ?_
  refine l_callM (As := [.int (xxs X (i + 1))]) C (h2 ▸ c_M_image C.iM μ (xxs X (i + 1))) wv_M_image g_851 ⟨by decide, by decide⟩ rfl rfl (Nat.le_of_ble_eq_true rfl) e_law_933 ?_
  exact l_eqs C e_law_936 rfl kk
set_option maxRecDepth 100000 in
theorem l_case_25 {X : LX} (C : LC X) {Rel : St → St → Prop} (h : ∀ a1 : Int32, Agree Rel (fun σ => m_P_restore σ a1) (fun μ => m_M_restore μ a1)) {σ μ : St} (hr : Rel σ μ) {i : Nat} (hi : i + 6 ≤ xL X) (k0 : ∀ σ' μ' : St, Rel σ' μ' → Lg X σ' μ' [(0, .ref (xa X)), (1, .ref (xq X 0)), (2, .ref (xqm X 0)), (3, .int (nI i))] 1112 []) : Lg X σ μ [(0, .ref (xa X)), (1, .ref (xq X 0)), (2, .ref (xqm X 0)), (3, .int (nI i))] 941 [] := by
  obtain ⟨r, σ', μ', h1, h2, h3⟩ := h (xxs X (i + 1)) σ μ hr
  have kk := k0 σ' μ' h3
  dsimp only at h1 h2
  refine l_aload_n C e_law_941 rfl ?_
  refine l_aload_n C e_law_942 rfl ?_
  refine l_iload_n C e_law_943 rfl ?_
  refine l_iconst C e_law_944 (v := (1 : Int32)) ic_1 ?_
  refine l_iadd C e_law_945 ?_
  refine l_sld C (j := i + 1) (nI_add i 1) (by omega) e_law_946 ?_
  refine l_callX (As := [.int (xxs X (i + 1))]) C (h1 ▸ c_P_restore C.iX σ (xxs X (i + 1))) wv_P_restore g_855 ⟨by decide, by decide⟩ rfl rfl (Nat.le_of_ble_eq_true rfl) e_law_947 ?_
  refine l_aload_n C e_law_950 rfl ?_
  refine l_aload_n C e_law_951 rfl ?_
  refine l_iload_n C e_law_952 rfl ?_
  refine l_iconst C e_law_953 (v := (1 : Int32)) ic_1 ?_
  refine l_iadd C e_law_954 ?_
  refine l_sld C (j := i + 1) (nI_add i 1) (by omega) e_law_955 ?_
  refine l_callM (As := [.int (xxs X (i + 1))]) C (h2 ▸ c_M_restore C.iM μ (xxs X (i + 1))) wv_M_restore g_859 ⟨by decide, by decide⟩ rfl rfl (Nat.le_of_ble_eq_true rfl) e_law_956 ?_
  exact l_eqs C e_law_959 rfl kk
set_option maxRecDepth 100000 in
theorem l_case_26 {X : LX} (C : LC X) {Rel : St → St → Prop} (h : ∀ a1 : Int32, Agree Rel (fun σ => m_P_kind σ a1) (fun μ => m_M_kind μ a1)) {σ μ : St} (hr : Rel σ μ) {i : Nat} (hi : i + 6 ≤ xL X) (k0 : ∀ σ' μ' : St, Rel σ' μ' → Lg X σ' μ' [(0, .ref (xa X)), (1, .ref (xq X 0)), (2, .ref (xqm X 0)), (3, .int (nI i))] 1112 []) : Lg X σ μ [(0, .ref (xa X)), (1, .ref (xq X 0)), (2, .ref (xqm X 0)), (3, .int (nI i))] 964 [] := by
  obtain ⟨r, σ', μ', h1, h2, h3⟩ := h (xxs X (i + 1)) σ μ hr
  have kk := k0 σ' μ' h3
  dsimp only at h1 h2
  refine l_aload_n C e_law_964 rfl ?_
  refine l_aload_n C e_law_965 rfl ?_
  refine l_iload_n C e_law_966 rfl ?_
  refine l_iconst C e_law_967 (v := (1 : Int32)) ic_1 ?_
  refine l_iadd C e_law_968 ?_
  refine l_sld C (j := i + 1) (nI_add i 1) (by omega) e_law_969 ?_
  refine l_callX (As := [.int (xxs X (i + 1))]) C (h1 ▸ c_P_kind C.iX σ (xxs X (i + 1))) wv_P_kind g_863 ⟨by decide, by decide⟩ rfl rfl (Nat.le_of_ble_eq_true rfl) e_law_970 ?_
  refine l_aload_n C e_law_973 rfl ?_
  refine l_aload_n C e_law_974 rfl ?_
  refine l_iload_n C e_law_975 rfl ?_
  refine l_iconst C e_law_976 (v := (1 : Int32)) ic_1 ?_
  refine l_iadd C e_law_977 ?_
  refine l_sld C (j := i + 1) (nI_add i 1) (by omega) e_law_978 ?_
  refine l_callM (As := [.int (xxs X (i + 1))]) C (h2 ▸ c_M_kind C.iM μ (xxs X (i + 1))) wv_M_kind g_867 ⟨by decide, by decide⟩ rfl rfl (Nat.le_of_ble_eq_true rfl) e_law_979 ?_
  exact l_eqs C e_law_982 rfl kk
set_option maxRecDepth 100000 in
theorem l_case_27 {X : LX} (C : LC X) {Rel : St → St → Prop} (h : ∀ a1 a2 : Int32, Agree Rel (fun σ => m_P_as σ a1 a2) (fun μ => m_M_as μ a1 a2)) {σ μ : St} (hr : Rel σ μ) {i : Nat} (hi : i + 6 ≤ xL X) (k0 : ∀ σ' μ' : St, Rel σ' μ' → Lg X σ' μ' [(0, .ref (xa X)), (1, .ref (xq X 0)), (2, .ref (xqm X 0)), (3, .int (nI i))] 1112 []) : Lg X σ μ [(0, .ref (xa X)), (1, .ref (xq X 0)), (2, .ref (xqm X 0)), (3, .int (nI i))] 987 [] := by
  obtain ⟨r, σ', μ', h1, h2, h3⟩ := h (xxs X (i + 1)) (xxs X (i + 2)) σ μ hr
  have kk := k0 σ' μ' h3
  dsimp only at h1 h2
  refine l_aload_n C e_law_987 rfl ?_
  refine l_aload_n C e_law_988 rfl ?_
  refine l_iload_n C e_law_989 rfl ?_
  refine l_iconst C e_law_990 (v := (1 : Int32)) ic_1 ?_
  refine l_iadd C e_law_991 ?_
  refine l_sld C (j := i + 1) (nI_add i 1) (by omega) e_law_992 ?_
  refine l_aload_n C e_law_993 rfl ?_
  refine l_iload_n C e_law_994 rfl ?_
  refine l_iconst C e_law_995 (v := (2 : Int32)) ic_2 ?_
  refine l_iadd C e_law_996 ?_
  refine l_sld C (j := i + 2) (nI_add i 2) (by omega) e_law_997 ?_
  refine l_callX (As := [.int (xxs X (i + 1)), .int (xxs X (i + 2))]) C (h1 ▸ c_P_as C.iX σ (xxs X (i + 1)) (xxs X (i + 2))) wv_P_as g_871 ⟨by decide, by decide⟩ rfl rfl (Nat.le_of_ble_eq_true rfl) e_law_998 ?_
  refine l_aload_n C e_law_1001 rfl ?_
  refine l_aload_n C e_law_1002 rfl ?_
  refine l_iload_n C e_law_1003 rfl ?_
  refine l_iconst C e_law_1004 (v := (1 : Int32)) ic_1 ?_
  refine l_iadd C e_law_1005 ?_
  refine l_sld C (j := i + 1) (nI_add i 1) (by omega) e_law_1006 ?_
  refine l_aload_n C e_law_1007 rfl ?_
  refine l_iload_n C e_law_1008 rfl ?_
  refine l_iconst C e_law_1009 (v := (2 : Int32)) ic_2 ?_
  refine l_iadd C e_law_1010 ?_
  refine l_sld C (j := i + 2) (nI_add i 2) (by omega) e_law_1011 ?_
  refine l_callM (As := [.int (xxs X (i + 1)), .int (xxs X (i + 2))]) C (h2 ▸ c_M_as C.iM μ (xxs X (i + 1)) (xxs X (i + 2))) wv_M_as g_875 ⟨by decide, by decide⟩ rfl rfl (Nat.le_of_ble_eq_true rfl) e_law_1012 ?_
  exact l_eqs C e_law_1015 rfl kk
set_option maxRecDepth 100000 in
theorem l_case_28 {X : LX} (C : LC X) {Rel : St → St → Prop} (h : ∀ a1 a2 : Int32, Agree Rel (fun σ => m_P_ask σ a1 a2) (fun μ => m_M_ask μ a1 a2)) {σ μ : St} (hr : Rel σ μ) {i : Nat} (hi : i + 6 ≤ xL X) (k0 : ∀ σ' μ' : St, Rel σ' μ' → Lg X σ' μ' [(0, .ref (xa X)), (1, .ref (xq X 0)), (2, .ref (xqm X 0)), (3, .int (nI i))] 1112 []) : Lg X σ μ [(0, .ref (xa X)), (1, .ref (xq X 0)), (2, .ref (xqm X 0)), (3, .int (nI i))] 1020 [] := by
  obtain ⟨r, σ', μ', h1, h2, h3⟩ := h (xxs X (i + 1)) (xxs X (i + 2)) σ μ hr
  have kk := k0 σ' μ' h3
  dsimp only at h1 h2
  refine l_aload_n C e_law_1020 rfl ?_
  refine l_aload_n C e_law_1021 rfl ?_
  refine l_iload_n C e_law_1022 rfl ?_
  refine l_iconst C e_law_1023 (v := (1 : Int32)) ic_1 ?_
  refine l_iadd C e_law_1024 ?_
  refine l_sld C (j := i + 1) (nI_add i 1) (by omega) e_law_1025 ?_
  refine l_aload_n C e_law_1026 rfl ?_
  refine l_iload_n C e_law_1027 rfl ?_
  refine l_iconst C e_law_1028 (v := (2 : Int32)) ic_2 ?_
  refine l_iadd C e_law_1029 ?_
  refine l_sld C (j := i + 2) (nI_add i 2) (by omega) e_law_1030 ?_
  refine l_callX (As := [.int (xxs X (i + 1)), .int (xxs X (i + 2))]) C (h1 ▸ c_P_ask C.iX σ (xxs X (i + 1)) (xxs X (i + 2))) wv_P_ask g_879 ⟨by decide, by decide⟩ rfl rfl (Nat.le_of_ble_eq_true rfl) e_law_1031 ?_
  refine l_aload_n C e_law_1034 rfl ?_
  refine l_aload_n C e_law_1035 rfl ?_
  refine l_iload_n C e_law_1036 rfl ?_
  refine l_iconst C e_law_1037 (v := (1 : Int32)) ic_1 ?_
  refine l_iadd C e_law_1038 ?_
  refine l_sld C (j := i + 1) (nI_add i 1) (by omega) e_law_1039 ?_
  refine l_aload_n C e_law_1040 rfl ?_
  refine l_iload_n C e_law_1041 rfl ?_
  refine l_iconst C e_law_1042 (v := (2 : Int32)) ic_2 ?_
  refine l_iadd C e_law_1043 ?_
  refine l_sld C (j := i + 2) (nI_add i 2) (by omega) e_law_1044 ?_
  refine l_callM (As := [.int (xxs X (i + 1)), .int (xxs X (i + 2))]) C (h2 ▸ c_M_ask C.iM μ (xxs X (i + 1)) (xxs X (i + 2))) wv_M_ask g_883 ⟨by decide, by decide⟩ rfl rfl (Nat.le_of_ble_eq_true rfl) e_law_1045 ?_
  exact l_eqs C e_law_1048 rfl kk
set_option maxRecDepth 100000 in
theorem l_case_29 {X : LX} (C : LC X) {Rel : St → St → Prop} (h : ∀ a1 : Int32, Agree Rel (fun σ => m_P_trace σ a1) (fun μ => m_M_trace μ a1)) {σ μ : St} (hr : Rel σ μ) {i : Nat} (hi : i + 6 ≤ xL X) (k0 : ∀ σ' μ' : St, Rel σ' μ' → Lg X σ' μ' [(0, .ref (xa X)), (1, .ref (xq X 0)), (2, .ref (xqm X 0)), (3, .int (nI i))] 1112 []) : Lg X σ μ [(0, .ref (xa X)), (1, .ref (xq X 0)), (2, .ref (xqm X 0)), (3, .int (nI i))] 1053 [] := by
  obtain ⟨r, σ', μ', h1, h2, h3⟩ := h (xxs X (i + 1)) σ μ hr
  have kk := k0 σ' μ' h3
  dsimp only at h1 h2
  refine l_aload_n C e_law_1053 rfl ?_
  refine l_aload_n C e_law_1054 rfl ?_
  refine l_iload_n C e_law_1055 rfl ?_
  refine l_iconst C e_law_1056 (v := (1 : Int32)) ic_1 ?_
  refine l_iadd C e_law_1057 ?_
  refine l_sld C (j := i + 1) (nI_add i 1) (by omega) e_law_1058 ?_
  refine l_callX (As := [.int (xxs X (i + 1))]) C (h1 ▸ c_P_trace C.iX σ (xxs X (i + 1))) wv_P_trace g_887 ⟨by decide, by decide⟩ rfl rfl (Nat.le_of_ble_eq_true rfl) e_law_1059 ?_
  refine l_aload_n C e_law_1062 rfl ?_
  refine l_aload_n C e_law_1063 rfl ?_
  refine l_iload_n C e_law_1064 rfl ?_
  refine l_iconst C e_law_1065 (v := (1 : Int32)) ic_1 ?_
  refine l_iadd C e_law_1066 ?_
  refine l_sld C (j := i + 1) (nI_add i 1) (by omega) e_law_1067 ?_
  refine l_callM (As := [.int (xxs X (i + 1))]) C (h2 ▸ c_M_trace C.iM μ (xxs X (i + 1))) wv_M_trace g_891 ⟨by decide, by decide⟩ rfl rfl (Nat.le_of_ble_eq_true rfl) e_law_1068 ?_
  exact l_eqs C e_law_1071 rfl kk
set_option maxRecDepth 100000 in
theorem l_case_30 {X : LX} (C : LC X) {Rel : St → St → Prop} (h : ∀ a1 : Int32, Agree Rel (fun σ => m_P_count σ a1) (fun μ => m_M_count μ a1)) {σ μ : St} (hr : Rel σ μ) {i : Nat} (hi : i + 6 ≤ xL X) (k0 : ∀ σ' μ' : St, Rel σ' μ' → Lg X σ' μ' [(0, .ref (xa X)), (1, .ref (xq X 0)), (2, .ref (xqm X 0)), (3, .int (nI i))] 1112 []) : Lg X σ μ [(0, .ref (xa X)), (1, .ref (xq X 0)), (2, .ref (xqm X 0)), (3, .int (nI i))] 1076 [] := by
  obtain ⟨r, σ', μ', h1, h2, h3⟩ := h (xxs X (i + 1)) σ μ hr
  have kk := k0 σ' μ' h3
  dsimp only at h1 h2
  refine l_aload_n C e_law_1076 rfl ?_
  refine l_aload_n C e_law_1077 rfl ?_
  refine l_iload_n C e_law_1078 rfl ?_
  refine l_iconst C e_law_1079 (v := (1 : Int32)) ic_1 ?_
  refine l_iadd C e_law_1080 ?_
  refine l_sld C (j := i + 1) (nI_add i 1) (by omega) e_law_1081 ?_
  refine l_callX (As := [.int (xxs X (i + 1))]) C (h1 ▸ c_P_count C.iX σ (xxs X (i + 1))) wv_P_count g_895 ⟨by decide, by decide⟩ rfl rfl (Nat.le_of_ble_eq_true rfl) e_law_1082 ?_
  refine l_aload_n C e_law_1085 rfl ?_
  refine l_aload_n C e_law_1086 rfl ?_
  refine l_iload_n C e_law_1087 rfl ?_
  refine l_iconst C e_law_1088 (v := (1 : Int32)) ic_1 ?_
  refine l_iadd C e_law_1089 ?_
  refine l_sld C (j := i + 1) (nI_add i 1) (by omega) e_law_1090 ?_
  refine l_callM (As := [.int (xxs X (i + 1))]) C (h2 ▸ c_M_count C.iM μ (xxs X (i + 1))) wv_M_count g_899 ⟨by decide, by decide⟩ rfl rfl (Nat.le_of_ble_eq_true rfl) e_law_1091 ?_
  exact l_eqs C e_law_1094 rfl kk
set_option maxRecDepth 100000 in
theorem l_case_31 {X : LX} (C : LC X) {Rel : St → St → Prop} (h : Agree Rel (fun σ => m_P_status σ) (fun μ => m_M_status μ)) {σ μ : St} (hr : Rel σ μ) {i : Nat} (hi : i + 6 ≤ xL X) (k0 : ∀ σ' μ' : St, Rel σ' μ' → Lg X σ' μ' [(0, .ref (xa X)), (1, .ref (xq X 0)), (2, .ref (xqm X 0)), (3, .int (nI i))] 1112 []) : Lg X σ μ [(0, .ref (xa X)), (1, .ref (xq X 0)), (2, .ref (xqm X 0)), (3, .int (nI i))] 1099 [] := by
  obtain ⟨r, σ', μ', h1, h2, h3⟩ := h σ μ hr
  have kk := k0 σ' μ' h3
  dsimp only at h1 h2
  refine l_aload_n C e_law_1099 rfl ?_
  refine l_callX (As := []) C (h1 ▸ c_P_status C.iX σ) wv_P_status g_903 ⟨by decide, by decide⟩ rfl rfl (Nat.le_of_ble_eq_true rfl) e_law_1100 ?_
  refine l_aload_n C e_law_1103 rfl ?_
  refine l_callM (As := []) C (h2 ▸ c_M_status C.iM μ) wv_M_status g_907 ⟨by decide, by decide⟩ rfl rfl (Nat.le_of_ble_eq_true rfl) e_law_1104 ?_
  exact l_eqs C e_law_1107 rfl kk
set_option maxRecDepth 100000 in
theorem l_body {X : LX} (C : LC X) {Rel : St → St → Prop} (h : Ops Rel) {σ μ : St} (hr : Rel σ μ) {i : Nat} (hi : i + 6 ≤ xL X) (k0 : ∀ σ' μ' : St, Rel σ' μ' → Lg X σ' μ' [(0, .ref (xa X)), (1, .ref (xq X 0)), (2, .ref (xqm X 0)), (3, .int (nI i))] 1112 []) : Lg X σ μ [(0, .ref (xa X)), (1, .ref (xq X 0)), (2, .ref (xqm X 0)), (3, .int (nI i))] 27 [] := by
  obtain ⟨o0, o1, o2, o3, o4, o5, o6, o7, o8, o9, o10, o11, o12, o13, o14, o15, o16, o17, o18, o19, o20, o21, o22, o23, o24, o25, o26, o27, o28, o29, o30, o31⟩ := h
  refine l_aload_n C e_law_27 rfl ?_
  refine l_iload_n C e_law_28 rfl ?_
  refine l_sld C (j := i) rfl (by omega) e_law_29 ?_
  refine l_bipush C e_law_30 (v := (31 : Int32)) bp_31 ?_
  refine l_iand C e_law_32 ?_
  refine l_nm (fun y => ?_)
  by_cases h0 : y = (0 : Int32)
  · exact l_tabI (v := (0 : Int32)) (off := 143) (tgt := 176) C h0 e_law_33 (by decide) (by decide) rfl rfl (l_case_0 C o0 hr hi k0)
  by_cases h1 : y = (1 : Int32)
  · exact l_tabI (v := (1 : Int32)) (off := 186) (tgt := 219) C h1 e_law_33 (by decide) (by decide) rfl rfl (l_case_1 C o1 hr hi k0)
  by_cases h2 : y = (2 : Int32)
  · exact l_tabI (v := (2 : Int32)) (off := 229) (tgt := 262) C h2 e_law_33 (by decide) (by decide) rfl rfl (l_case_2 C o2 hr hi k0)
  by_cases h3 : y = (3 : Int32)
  · exact l_tabI (v := (3 : Int32)) (off := 292) (tgt := 325) C h3 e_law_33 (by decide) (by decide) rfl rfl (l_case_3 C o3 hr hi k0)
  by_cases h4 : y = (4 : Int32)
  · exact l_tabI (v := (4 : Int32)) (off := 315) (tgt := 348) C h4 e_law_33 (by decide) (by decide) rfl rfl (l_case_4 C o4 hr hi k0)
  by_cases h5 : y = (5 : Int32)
  · exact l_tabI (v := (5 : Int32)) (off := 338) (tgt := 371) C h5 e_law_33 (by decide) (by decide) rfl rfl (l_case_5 C o5 hr hi k0)
  by_cases h6 : y = (6 : Int32)
  · exact l_tabI (v := (6 : Int32)) (off := 351) (tgt := 384) C h6 e_law_33 (by decide) (by decide) rfl rfl (l_case_6 C o6 hr hi k0)
  by_cases h7 : y = (7 : Int32)
  · exact l_tabI (v := (7 : Int32)) (off := 364) (tgt := 397) C h7 e_law_33 (by decide) (by decide) rfl rfl (l_case_7 C o7 hr hi k0)
  by_cases h8 : y = (8 : Int32)
  · exact l_tabI (v := (8 : Int32)) (off := 387) (tgt := 420) C h8 e_law_33 (by decide) (by decide) rfl rfl (l_case_8 C o8 hr hi k0)
  by_cases h9 : y = (9 : Int32)
  · exact l_tabI (v := (9 : Int32)) (off := 420) (tgt := 453) C h9 e_law_33 (by decide) (by decide) rfl rfl (l_case_9 C o9 hr hi k0)
  by_cases h10 : y = (10 : Int32)
  · exact l_tabI (v := (10 : Int32)) (off := 453) (tgt := 486) C h10 e_law_33 (by decide) (by decide) rfl rfl (l_case_10 C o10 hr hi k0)
  by_cases h11 : y = (11 : Int32)
  · exact l_tabI (v := (11 : Int32)) (off := 486) (tgt := 519) C h11 e_law_33 (by decide) (by decide) rfl rfl (l_case_11 C o11 hr hi k0)
  by_cases h12 : y = (12 : Int32)
  · exact l_tabI (v := (12 : Int32)) (off := 509) (tgt := 542) C h12 e_law_33 (by decide) (by decide) rfl rfl (l_case_12 C o12 hr hi k0)
  by_cases h13 : y = (13 : Int32)
  · exact l_tabI (v := (13 : Int32)) (off := 522) (tgt := 555) C h13 e_law_33 (by decide) (by decide) rfl rfl (l_case_13 C o13 hr hi k0)
  by_cases h14 : y = (14 : Int32)
  · exact l_tabI (v := (14 : Int32)) (off := 555) (tgt := 588) C h14 e_law_33 (by decide) (by decide) rfl rfl (l_case_14 C o14 hr hi k0)
  by_cases h15 : y = (15 : Int32)
  · exact l_tabI (v := (15 : Int32)) (off := 588) (tgt := 621) C h15 e_law_33 (by decide) (by decide) rfl rfl (l_case_15 C o15 hr hi k0)
  by_cases h16 : y = (16 : Int32)
  · exact l_tabI (v := (16 : Int32)) (off := 621) (tgt := 654) C h16 e_law_33 (by decide) (by decide) rfl rfl (l_case_16 C o16 hr hi k0)
  by_cases h17 : y = (17 : Int32)
  · exact l_tabI (v := (17 : Int32)) (off := 644) (tgt := 677) C h17 e_law_33 (by decide) (by decide) rfl rfl (l_case_17 C o17 hr hi k0)
  by_cases h18 : y = (18 : Int32)
  · exact l_tabI (v := (18 : Int32)) (off := 677) (tgt := 710) C h18 e_law_33 (by decide) (by decide) rfl rfl (l_case_18 C o18 hr hi k0)
  by_cases h19 : y = (19 : Int32)
  · exact l_tabI (v := (19 : Int32)) (off := 690) (tgt := 723) C h19 e_law_33 (by decide) (by decide) rfl rfl (l_case_19 C o19 hr hi k0)
  by_cases h20 : y = (20 : Int32)
  · exact l_tabI (v := (20 : Int32)) (off := 713) (tgt := 746) C h20 e_law_33 (by decide) (by decide) rfl rfl (l_case_20 C o20 hr hi k0)
  by_cases h21 : y = (21 : Int32)
  · exact l_tabI (v := (21 : Int32)) (off := 736) (tgt := 769) C h21 e_law_33 (by decide) (by decide) rfl rfl (l_case_21 C o21 hr hi k0)
  by_cases h22 : y = (22 : Int32)
  · exact l_tabI (v := (22 : Int32)) (off := 799) (tgt := 832) C h22 e_law_33 (by decide) (by decide) rfl rfl (l_case_22 C o22 hr hi k0)
  by_cases h23 : y = (23 : Int32)
  · exact l_tabI (v := (23 : Int32)) (off := 842) (tgt := 875) C h23 e_law_33 (by decide) (by decide) rfl rfl (l_case_23 C o23 hr hi k0)
  by_cases h24 : y = (24 : Int32)
  · exact l_tabI (v := (24 : Int32)) (off := 885) (tgt := 918) C h24 e_law_33 (by decide) (by decide) rfl rfl (l_case_24 C o24 hr hi k0)
  by_cases h25 : y = (25 : Int32)
  · exact l_tabI (v := (25 : Int32)) (off := 908) (tgt := 941) C h25 e_law_33 (by decide) (by decide) rfl rfl (l_case_25 C o25 hr hi k0)
  by_cases h26 : y = (26 : Int32)
  · exact l_tabI (v := (26 : Int32)) (off := 931) (tgt := 964) C h26 e_law_33 (by decide) (by decide) rfl rfl (l_case_26 C o26 hr hi k0)
  by_cases h27 : y = (27 : Int32)
  · exact l_tabI (v := (27 : Int32)) (off := 954) (tgt := 987) C h27 e_law_33 (by decide) (by decide) rfl rfl (l_case_27 C o27 hr hi k0)
  by_cases h28 : y = (28 : Int32)
  · exact l_tabI (v := (28 : Int32)) (off := 987) (tgt := 1020) C h28 e_law_33 (by decide) (by decide) rfl rfl (l_case_28 C o28 hr hi k0)
  by_cases h29 : y = (29 : Int32)
  · exact l_tabI (v := (29 : Int32)) (off := 1020) (tgt := 1053) C h29 e_law_33 (by decide) (by decide) rfl rfl (l_case_29 C o29 hr hi k0)
  by_cases h30 : y = (30 : Int32)
  · exact l_tabI (v := (30 : Int32)) (off := 1043) (tgt := 1076) C h30 e_law_33 (by decide) (by decide) rfl rfl (l_case_30 C o30 hr hi k0)
  by_cases h31 : y = (31 : Int32)
  · exact l_tabI (v := (31 : Int32)) (off := 1066) (tgt := 1099) C h31 e_law_33 (by decide) (by decide) rfl rfl (l_case_31 C o31 hr hi k0)
  have hx : y.toInt < 0 ∨ 31 < y.toInt := by
    have q0 := ne_i (z := 0) rfl h0
    have q1 := ne_i (z := 1) rfl h1
    have q2 := ne_i (z := 2) rfl h2
    have q3 := ne_i (z := 3) rfl h3
    have q4 := ne_i (z := 4) rfl h4
    have q5 := ne_i (z := 5) rfl h5
    have q6 := ne_i (z := 6) rfl h6
    have q7 := ne_i (z := 7) rfl h7
    have q8 := ne_i (z := 8) rfl h8
    have q9 := ne_i (z := 9) rfl h9
    have q10 := ne_i (z := 10) rfl h10
    have q11 := ne_i (z := 11) rfl h11
    have q12 := ne_i (z := 12) rfl h12
    have q13 := ne_i (z := 13) rfl h13
    have q14 := ne_i (z := 14) rfl h14
    have q15 := ne_i (z := 15) rfl h15
    have q16 := ne_i (z := 16) rfl h16
    have q17 := ne_i (z := 17) rfl h17
    have q18 := ne_i (z := 18) rfl h18
    have q19 := ne_i (z := 19) rfl h19
    have q20 := ne_i (z := 20) rfl h20
    have q21 := ne_i (z := 21) rfl h21
    have q22 := ne_i (z := 22) rfl h22
    have q23 := ne_i (z := 23) rfl h23
    have q24 := ne_i (z := 24) rfl h24
    have q25 := ne_i (z := 25) rfl h25
    have q26 := ne_i (z := 26) rfl h26
    have q27 := ne_i (z := 27) rfl h27
    have q28 := ne_i (z := 28) rfl h28
    have q29 := ne_i (z := 29) rfl h29
    have q30 := ne_i (z := 30) rfl h30
    have q31 := ne_i (z := 31) rfl h31
    omega
  exact l_tabO (tgt := 1112) C e_law_33 hx rfl (k0 σ μ hr)
theorem l_loop {X : LX} (C : LC X) {Rel : St → St → Prop} (h : Ops Rel) : ∀ (n i : Nat), i ≤ xL X → xL X + 1 ≤ i + n → ∀ (σ μ : St), Rel σ μ → Lg X σ μ [(0, .ref (xa X)), (1, .ref (xq X 0)), (2, .ref (xqm X 0)), (3, .int (nI i))] 18 [] := by
  intro n
  induction n with
  | zero =>
    intro i h1 h2
    exact absurd h2 (by omega)
  | succ n ih =>
    intro i h1 h2 σ μ hr
    have hL := C.hL
    refine l_iload_n C e_law_18 rfl ?_
    refine l_aload_n C e_law_19 rfl ?_
    refine l_slen C e_law_20 ?_
    refine l_bipush C e_law_21 (v := (6 : Int32)) bp_6 ?_
    refine l_isub C e_law_23 ?_
    refine l_gt (tgt := 1118) C e_law_24 rfl (fun c => ?_) (fun c => ?_)
    · refine l_iconst C e_law_1118 (v := (1 : Int32)) ic_1 ?_
      exact l_end C e_law_1119
    · have hi : i + 6 ≤ xL X := by
        rcases Nat.lt_or_ge (xL X) (i + 6) with q | q
        · exact absurd (by
            rw [Int32.lt_iff_toInt_lt, show (6 : Int32) = nI 6 from rfl, pk_sub_toInt (by omega) (by omega), nI_toInt (by omega)]
            omega) c
        · exact q
      refine l_body C h hr hi (fun σ' μ' hr' => ?_)
      refine l_iinc C e_law_1112 (v := nI (i + 6)) rfl (by decide) (nI_add i 6) ?_
      refine l_goto (tgt := 18) C e_law_1115 rfl ?_
      exact l_cut (ih (i + 6) (by omega) (by omega) σ' μ' hr') ⟨rfl, rfl, rfl, rfl, trivial⟩
