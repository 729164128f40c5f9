theorem s_alen {X : CX} {Z : Sh} {ow : String} {cc : ByteArray} {nL : Nat} {ret : Option FieldType} {fr lo : Nat} {σ : St} {lv : List (Nat × Value)} {pc nx : Nat} {st : List Value} {t : Rt} (C : Cx X Z ow cc nL ret fr lo) {a n : Nat} {v : Int32} (ha : a < Z.1) (hz : ∀ σ, Z.2 (cq X) (ck X) σ a = .inl (ck X 0, n, .inl (σ a))) (hd : dec cc pc .arraylength 1 nx) (hv : Int32.ofNat n = v) (kk : Sm X Z nL ret σ lv nx (.int v :: st) t) : Sm X Z nL ret σ lv pc (.ref (cq X a) :: st) t :=
  fun e H locs ls hl hP hS => by
    obtain ⟨hd, rfl⟩ := hd
    exact va_alen C.exec C.bytes C.hK hP a 0 (by rw [wl_get ha, hz]) rfl hv hd (kk e H locs ls hl hP hS)
theorem s_callV_0 {X : CX} {Z : Sh} {ow : String} {cc : ByteArray} {nL : Nat} {ret : Option FieldType} {fr lo : Nat} {σ : St} {lv : List (Nat × Value)} {pc nx : Nat} {st : List Value} (C : Cx X Z ow cc nL ret fr lo) {y : MethodName} {bytes : ByteArray} {nL' : Nat} {rt : FieldType} {fr' lo' ix a : Nat} {o : Rt} {kt : Int32 → St → Rt} (hM : Ct (cl X) Z (cD X) (ck X) (cq X) y bytes nL' (some rt) fr' lo' [.ref (cq X a)] σ o) (hw : WV y bytes nL' (some rt) 0) (hl0 : Cond.methodLink ow ix y ∈ gt) (hR : fr' + 1 ≤ fr ∧ 8 + (nL' + 11) + lo' ≤ lo) {ci : Nat} {Cn : String} {T : u_T} {N : Nat} {ty : Nat → FieldType} (hF : FC ci Cn T N ty) (hC : Cn = y.cls) {fs : List Value} (ha : a < Z.1) (hz : Z.2 (cq X) (ck X) σ a = .inr (ci, fs)) (hn : 0 = 0) (hcat : (st.map fun v => v.category).sum ≤ 8) (hd : dec cc pc (.invokevirtual ix) 3 nx) (kk : ∀ (r : Int32) (σ' : St), Sm X Z nL ret σ' lv nx (.int r :: st) (kt r σ')) : Sm X Z nL ret σ lv pc (.ref (cq X a) :: st) (bnd o kt) :=
  s_callV (As := []) C hM hw hl0 hR hF hC ha hz rfl hcat hd kk
theorem s_callV_1 {X : CX} {Z : Sh} {ow : String} {cc : ByteArray} {nL : Nat} {ret : Option FieldType} {fr lo : Nat} {σ : St} {lv : List (Nat × Value)} {pc nx : Nat} {st : List Value} (C : Cx X Z ow cc nL ret fr lo) {y : MethodName} {bytes : ByteArray} {nL' : Nat} {rt : FieldType} {fr' lo' ix a : Nat} {v1 : Value} {o : Rt} {kt : Int32 → St → Rt} (hM : Ct (cl X) Z (cD X) (ck X) (cq X) y bytes nL' (some rt) fr' lo' [.ref (cq X a), v1] σ o) (hw : WV y bytes nL' (some rt) 1) (hl0 : Cond.methodLink ow ix y ∈ gt) (hR : fr' + 1 ≤ fr ∧ 8 + (nL' + 11) + lo' ≤ lo) {ci : Nat} {Cn : String} {T : u_T} {N : Nat} {ty : Nat → FieldType} (hF : FC ci Cn T N ty) (hC : Cn = y.cls) {fs : List Value} (ha : a < Z.1) (hz : Z.2 (cq X) (ck X) σ a = .inr (ci, fs)) (hn : 1 = 1) (hcat : (st.map fun v => v.category).sum ≤ 8) (hd : dec cc pc (.invokevirtual ix) 3 nx) (kk : ∀ (r : Int32) (σ' : St), Sm X Z nL ret σ' lv nx (.int r :: st) (kt r σ')) : Sm X Z nL ret σ lv pc (v1 :: .ref (cq X a) :: st) (bnd o kt) :=
  s_callV (As := [v1]) C hM hw hl0 hR hF hC ha hz rfl hcat hd kk
theorem s_callV_2 {X : CX} {Z : Sh} {ow : String} {cc : ByteArray} {nL : Nat} {ret : Option FieldType} {fr lo : Nat} {σ : St} {lv : List (Nat × Value)} {pc nx : Nat} {st : List Value} (C : Cx X Z ow cc nL ret fr lo) {y : MethodName} {bytes : ByteArray} {nL' : Nat} {rt : FieldType} {fr' lo' ix a : Nat} {v1 v2 : Value} {o : Rt} {kt : Int32 → St → Rt} (hM : Ct (cl X) Z (cD X) (ck X) (cq X) y bytes nL' (some rt) fr' lo' [.ref (cq X a), v1, v2] σ o) (hw : WV y bytes nL' (some rt) 2) (hl0 : Cond.methodLink ow ix y ∈ gt) (hR : fr' + 1 ≤ fr ∧ 8 + (nL' + 11) + lo' ≤ lo) {ci : Nat} {Cn : String} {T : u_T} {N : Nat} {ty : Nat → FieldType} (hF : FC ci Cn T N ty) (hC : Cn = y.cls) {fs : List Value} (ha : a < Z.1) (hz : Z.2 (cq X) (ck X) σ a = .inr (ci, fs)) (hn : 2 = 2) (hcat : (st.map fun v => v.category).sum ≤ 8) (hd : dec cc pc (.invokevirtual ix) 3 nx) (kk : ∀ (r : Int32) (σ' : St), Sm X Z nL ret σ' lv nx (.int r :: st) (kt r σ')) : Sm X Z nL ret σ lv pc (v2 :: v1 :: .ref (cq X a) :: st) (bnd o kt) :=
  s_callV (As := [v1, v2]) C hM hw hl0 hR hF hC ha hz rfl hcat hd kk
theorem s_callV_3 {X : CX} {Z : Sh} {ow : String} {cc : ByteArray} {nL : Nat} {ret : Option FieldType} {fr lo : Nat} {σ : St} {lv : List (Nat × Value)} {pc nx : Nat} {st : List Value} (C : Cx X Z ow cc nL ret fr lo) {y : MethodName} {bytes : ByteArray} {nL' : Nat} {rt : FieldType} {fr' lo' ix a : Nat} {v1 v2 v3 : Value} {o : Rt} {kt : Int32 → St → Rt} (hM : Ct (cl X) Z (cD X) (ck X) (cq X) y bytes nL' (some rt) fr' lo' [.ref (cq X a), v1, v2, v3] σ o) (hw : WV y bytes nL' (some rt) 3) (hl0 : Cond.methodLink ow ix y ∈ gt) (hR : fr' + 1 ≤ fr ∧ 8 + (nL' + 11) + lo' ≤ lo) {ci : Nat} {Cn : String} {T : u_T} {N : Nat} {ty : Nat → FieldType} (hF : FC ci Cn T N ty) (hC : Cn = y.cls) {fs : List Value} (ha : a < Z.1) (hz : Z.2 (cq X) (ck X) σ a = .inr (ci, fs)) (hn : 3 = 3) (hcat : (st.map fun v => v.category).sum ≤ 8) (hd : dec cc pc (.invokevirtual ix) 3 nx) (kk : ∀ (r : Int32) (σ' : St), Sm X Z nL ret σ' lv nx (.int r :: st) (kt r σ')) : Sm X Z nL ret σ lv pc (v3 :: v2 :: v1 :: .ref (cq X a) :: st) (bnd o kt) :=
  s_callV (As := [v1, v2, v3]) C hM hw hl0 hR hF hC ha hz rfl hcat hd kk
theorem s_callV_4 {X : CX} {Z : Sh} {ow : String} {cc : ByteArray} {nL : Nat} {ret : Option FieldType} {fr lo : Nat} {σ : St} {lv : List (Nat × Value)} {pc nx : Nat} {st : List Value} (C : Cx X Z ow cc nL ret fr lo) {y : MethodName} {bytes : ByteArray} {nL' : Nat} {rt : FieldType} {fr' lo' ix a : Nat} {v1 v2 v3 v4 : Value} {o : Rt} {kt : Int32 → St → Rt} (hM : Ct (cl X) Z (cD X) (ck X) (cq X) y bytes nL' (some rt) fr' lo' [.ref (cq X a), v1, v2, v3, v4] σ o) (hw : WV y bytes nL' (some rt) 4) (hl0 : Cond.methodLink ow ix y ∈ gt) (hR : fr' + 1 ≤ fr ∧ 8 + (nL' + 11) + lo' ≤ lo) {ci : Nat} {Cn : String} {T : u_T} {N : Nat} {ty : Nat → FieldType} (hF : FC ci Cn T N ty) (hC : Cn = y.cls) {fs : List Value} (ha : a < Z.1) (hz : Z.2 (cq X) (ck X) σ a = .inr (ci, fs)) (hn : 4 = 4) (hcat : (st.map fun v => v.category).sum ≤ 8) (hd : dec cc pc (.invokevirtual ix) 3 nx) (kk : ∀ (r : Int32) (σ' : St), Sm X Z nL ret σ' lv nx (.int r :: st) (kt r σ')) : Sm X Z nL ret σ lv pc (v4 :: v3 :: v2 :: v1 :: .ref (cq X a) :: st) (bnd o kt) :=
  s_callV (As := [v1, v2, v3, v4]) C hM hw hl0 hR hF hC ha hz rfl hcat hd kk
theorem s_callV_5 {X : CX} {Z : Sh} {ow : String} {cc : ByteArray} {nL : Nat} {ret : Option FieldType} {fr lo : Nat} {σ : St} {lv : List (Nat × Value)} {pc nx : Nat} {st : List Value} (C : Cx X Z ow cc nL ret fr lo) {y : MethodName} {bytes : ByteArray} {nL' : Nat} {rt : FieldType} {fr' lo' ix a : Nat} {v1 v2 v3 v4 v5 : Value} {o : Rt} {kt : Int32 → St → Rt} (hM : Ct (cl X) Z (cD X) (ck X) (cq X) y bytes nL' (some rt) fr' lo' [.ref (cq X a), v1, v2, v3, v4, v5] σ o) (hw : WV y bytes nL' (some rt) 5) (hl0 : Cond.methodLink ow ix y ∈ gt) (hR : fr' + 1 ≤ fr ∧ 8 + (nL' + 11) + lo' ≤ lo) {ci : Nat} {Cn : String} {T : u_T} {N : Nat} {ty : Nat → FieldType} (hF : FC ci Cn T N ty) (hC : Cn = y.cls) {fs : List Value} (ha : a < Z.1) (hz : Z.2 (cq X) (ck X) σ a = .inr (ci, fs)) (hn : 5 = 5) (hcat : (st.map fun v => v.category).sum ≤ 8) (hd : dec cc pc (.invokevirtual ix) 3 nx) (kk : ∀ (r : Int32) (σ' : St), Sm X Z nL ret σ' lv nx (.int r :: st) (kt r σ')) : Sm X Z nL ret σ lv pc (v5 :: v4 :: v3 :: v2 :: v1 :: .ref (cq X a) :: st) (bnd o kt) :=
  s_callV (As := [v1, v2, v3, v4, v5]) C hM hw hl0 hR hF hC ha hz rfl hcat hd kk
theorem s_callV_6 {X : CX} {Z : Sh} {ow : String} {cc : ByteArray} {nL : Nat} {ret : Option FieldType} {fr lo : Nat} {σ : St} {lv : List (Nat × Value)} {pc nx : Nat} {st : List Value} (C : Cx X Z ow cc nL ret fr lo) {y : MethodName} {bytes : ByteArray} {nL' : Nat} {rt : FieldType} {fr' lo' ix a : Nat} {v1 v2 v3 v4 v5 v6 : Value} {o : Rt} {kt : Int32 → St → Rt} (hM : Ct (cl X) Z (cD X) (ck X) (cq X) y bytes nL' (some rt) fr' lo' [.ref (cq X a), v1, v2, v3, v4, v5, v6] σ o) (hw : WV y bytes nL' (some rt) 6) (hl0 : Cond.methodLink ow ix y ∈ gt) (hR : fr' + 1 ≤ fr ∧ 8 + (nL' + 11) + lo' ≤ lo) {ci : Nat} {Cn : String} {T : u_T} {N : Nat} {ty : Nat → FieldType} (hF : FC ci Cn T N ty) (hC : Cn = y.cls) {fs : List Value} (ha : a < Z.1) (hz : Z.2 (cq X) (ck X) σ a = .inr (ci, fs)) (hn : 6 = 6) (hcat : (st.map fun v => v.category).sum ≤ 8) (hd : dec cc pc (.invokevirtual ix) 3 nx) (kk : ∀ (r : Int32) (σ' : St), Sm X Z nL ret σ' lv nx (.int r :: st) (kt r σ')) : Sm X Z nL ret σ lv pc (v6 :: v5 :: v4 :: v3 :: v2 :: v1 :: .ref (cq X a) :: st) (bnd o kt) :=
  s_callV (As := [v1, v2, v3, v4, v5, v6]) C hM hw hl0 hR hF hC ha hz rfl hcat hd kk
theorem s_callVv_0 {X : CX} {Z : Sh} {ow : String} {cc : ByteArray} {nL : Nat} {ret : Option FieldType} {fr lo : Nat} {σ : St} {lv : List (Nat × Value)} {pc nx : Nat} {st : List Value} (C : Cx X Z ow cc nL ret fr lo) {y : MethodName} {bytes : ByteArray} {nL' : Nat} {fr' lo' ix a : Nat} {o : Rt} {kt : Int32 → St → Rt} (hM : Ct (cl X) Z (cD X) (ck X) (cq X) y bytes nL' none fr' lo' [.ref (cq X a)] σ o) (hw : WV y bytes nL' none 0) (hl0 : Cond.methodLink ow ix y ∈ gt) (hR : fr' + 1 ≤ fr ∧ 8 + (nL' + 11) + lo' ≤ lo) {ci : Nat} {Cn : String} {T : u_T} {N : Nat} {ty : Nat → FieldType} (hF : FC ci Cn T N ty) (hC : Cn = y.cls) {fs : List Value} (ha : a < Z.1) (hz : Z.2 (cq X) (ck X) σ a = .inr (ci, fs)) (hn : 0 = 0) (hcat : (st.map fun v => v.category).sum ≤ 8) (hd : dec cc pc (.invokevirtual ix) 3 nx) (kk : ∀ (r : Int32) (σ' : St), Sm X Z nL ret σ' lv nx st (kt r σ')) : Sm X Z nL ret σ lv pc (.ref (cq X a) :: st) (bnd o kt) :=
  s_callVv (As := []) C hM hw hl0 hR hF hC ha hz rfl hcat hd kk
theorem s_callVv_1 {X : CX} {Z : Sh} {ow : String} {cc : ByteArray} {nL : Nat} {ret : Option FieldType} {fr lo : Nat} {σ : St} {lv : List (Nat × Value)} {pc nx : Nat} {st : List Value} (C : Cx X Z ow cc nL ret fr lo) {y : MethodName} {bytes : ByteArray} {nL' : Nat} {fr' lo' ix a : Nat} {v1 : Value} {o : Rt} {kt : Int32 → St → Rt} (hM : Ct (cl X) Z (cD X) (ck X) (cq X) y bytes nL' none fr' lo' [.ref (cq X a), v1] σ o) (hw : WV y bytes nL' none 1) (hl0 : Cond.methodLink ow ix y ∈ gt) (hR : fr' + 1 ≤ fr ∧ 8 + (nL' + 11) + lo' ≤ lo) {ci : Nat} {Cn : String} {T : u_T} {N : Nat} {ty : Nat → FieldType} (hF : FC ci Cn T N ty) (hC : Cn = y.cls) {fs : List Value} (ha : a < Z.1) (hz : Z.2 (cq X) (ck X) σ a = .inr (ci, fs)) (hn : 1 = 1) (hcat : (st.map fun v => v.category).sum ≤ 8) (hd : dec cc pc (.invokevirtual ix) 3 nx) (kk : ∀ (r : Int32) (σ' : St), Sm X Z nL ret σ' lv nx st (kt r σ')) : Sm X Z nL ret σ lv pc (v1 :: .ref (cq X a) :: st) (bnd o kt) :=
  s_callVv (As := [v1]) C hM hw hl0 hR hF hC ha hz rfl hcat hd kk
theorem s_callVv_2 {X : CX} {Z : Sh} {ow : String} {cc : ByteArray} {nL : Nat} {ret : Option FieldType} {fr lo : Nat} {σ : St} {lv : List (Nat × Value)} {pc nx : Nat} {st : List Value} (C : Cx X Z ow cc nL ret fr lo) {y : MethodName} {bytes : ByteArray} {nL' : Nat} {fr' lo' ix a : Nat} {v1 v2 : Value} {o : Rt} {kt : Int32 → St → Rt} (hM : Ct (cl X) Z (cD X) (ck X) (cq X) y bytes nL' none fr' lo' [.ref (cq X a), v1, v2] σ o) (hw : WV y bytes nL' none 2) (hl0 : Cond.methodLink ow ix y ∈ gt) (hR : fr' + 1 ≤ fr ∧ 8 + (nL' + 11) + lo' ≤ lo) {ci : Nat} {Cn : String} {T : u_T} {N : Nat} {ty : Nat → FieldType} (hF : FC ci Cn T N ty) (hC : Cn = y.cls) {fs : List Value} (ha : a < Z.1) (hz : Z.2 (cq X) (ck X) σ a = .inr (ci, fs)) (hn : 2 = 2) (hcat : (st.map fun v => v.category).sum ≤ 8) (hd : dec cc pc (.invokevirtual ix) 3 nx) (kk : ∀ (r : Int32) (σ' : St), Sm X Z nL ret σ' lv nx st (kt r σ')) : Sm X Z nL ret σ lv pc (v2 :: v1 :: .ref (cq X a) :: st) (bnd o kt) :=
  s_callVv (As := [v1, v2]) C hM hw hl0 hR hF hC ha hz rfl hcat hd kk
theorem s_callVv_3 {X : CX} {Z : Sh} {ow : String} {cc : ByteArray} {nL : Nat} {ret : Option FieldType} {fr lo : Nat} {σ : St} {lv : List (Nat × Value)} {pc nx : Nat} {st : List Value} (C : Cx X Z ow cc nL ret fr lo) {y : MethodName} {bytes : ByteArray} {nL' : Nat} {fr' lo' ix a : Nat} {v1 v2 v3 : Value} {o : Rt} {kt : Int32 → St → Rt} (hM : Ct (cl X) Z (cD X) (ck X) (cq X) y bytes nL' none fr' lo' [.ref (cq X a), v1, v2, v3] σ o) (hw : WV y bytes nL' none 3) (hl0 : Cond.methodLink ow ix y ∈ gt) (hR : fr' + 1 ≤ fr ∧ 8 + (nL' + 11) + lo' ≤ lo) {ci : Nat} {Cn : String} {T : u_T} {N : Nat} {ty : Nat → FieldType} (hF : FC ci Cn T N ty) (hC : Cn = y.cls) {fs : List Value} (ha : a < Z.1) (hz : Z.2 (cq X) (ck X) σ a = .inr (ci, fs)) (hn : 3 = 3) (hcat : (st.map fun v => v.category).sum ≤ 8) (hd : dec cc pc (.invokevirtual ix) 3 nx) (kk : ∀ (r : Int32) (σ' : St), Sm X Z nL ret σ' lv nx st (kt r σ')) : Sm X Z nL ret σ lv pc (v3 :: v2 :: v1 :: .ref (cq X a) :: st) (bnd o kt) :=
  s_callVv (As := [v1, v2, v3]) C hM hw hl0 hR hF hC ha hz rfl hcat hd kk
theorem s_callVv_4 {X : CX} {Z : Sh} {ow : String} {cc : ByteArray} {nL : Nat} {ret : Option FieldType} {fr lo : Nat} {σ : St} {lv : List (Nat × Value)} {pc nx : Nat} {st : List Value} (C : Cx X Z ow cc nL ret fr lo) {y : MethodName} {bytes : ByteArray} {nL' : Nat} {fr' lo' ix a : Nat} {v1 v2 v3 v4 : Value} {o : Rt} {kt : Int32 → St → Rt} (hM : Ct (cl X) Z (cD X) (ck X) (cq X) y bytes nL' none fr' lo' [.ref (cq X a), v1, v2, v3, v4] σ o) (hw : WV y bytes nL' none 4) (hl0 : Cond.methodLink ow ix y ∈ gt) (hR : fr' + 1 ≤ fr ∧ 8 + (nL' + 11) + lo' ≤ lo) {ci : Nat} {Cn : String} {T : u_T} {N : Nat} {ty : Nat → FieldType} (hF : FC ci Cn T N ty) (hC : Cn = y.cls) {fs : List Value} (ha : a < Z.1) (hz : Z.2 (cq X) (ck X) σ a = .inr (ci, fs)) (hn : 4 = 4) (hcat : (st.map fun v => v.category).sum ≤ 8) (hd : dec cc pc (.invokevirtual ix) 3 nx) (kk : ∀ (r : Int32) (σ' : St), Sm X Z nL ret σ' lv nx st (kt r σ')) : Sm X Z nL ret σ lv pc (v4 :: v3 :: v2 :: v1 :: .ref (cq X a) :: st) (bnd o kt) :=
  s_callVv (As := [v1, v2, v3, v4]) C hM hw hl0 hR hF hC ha hz rfl hcat hd kk
theorem s_callVv_5 {X : CX} {Z : Sh} {ow : String} {cc : ByteArray} {nL : Nat} {ret : Option FieldType} {fr lo : Nat} {σ : St} {lv : List (Nat × Value)} {pc nx : Nat} {st : List Value} (C : Cx X Z ow cc nL ret fr lo) {y : MethodName} {bytes : ByteArray} {nL' : Nat} {fr' lo' ix a : Nat} {v1 v2 v3 v4 v5 : Value} {o : Rt} {kt : Int32 → St → Rt} (hM : Ct (cl X) Z (cD X) (ck X) (cq X) y bytes nL' none fr' lo' [.ref (cq X a), v1, v2, v3, v4, v5] σ o) (hw : WV y bytes nL' none 5) (hl0 : Cond.methodLink ow ix y ∈ gt) (hR : fr' + 1 ≤ fr ∧ 8 + (nL' + 11) + lo' ≤ lo) {ci : Nat} {Cn : String} {T : u_T} {N : Nat} {ty : Nat → FieldType} (hF : FC ci Cn T N ty) (hC : Cn = y.cls) {fs : List Value} (ha : a < Z.1) (hz : Z.2 (cq X) (ck X) σ a = .inr (ci, fs)) (hn : 5 = 5) (hcat : (st.map fun v => v.category).sum ≤ 8) (hd : dec cc pc (.invokevirtual ix) 3 nx) (kk : ∀ (r : Int32) (σ' : St), Sm X Z nL ret σ' lv nx st (kt r σ')) : Sm X Z nL ret σ lv pc (v5 :: v4 :: v3 :: v2 :: v1 :: .ref (cq X a) :: st) (bnd o kt) :=
  s_callVv (As := [v1, v2, v3, v4, v5]) C hM hw hl0 hR hF hC ha hz rfl hcat hd kk
theorem s_callVv_6 {X : CX} {Z : Sh} {ow : String} {cc : ByteArray} {nL : Nat} {ret : Option FieldType} {fr lo : Nat} {σ : St} {lv : List (Nat × Value)} {pc nx : Nat} {st : List Value} (C : Cx X Z ow cc nL ret fr lo) {y : MethodName} {bytes : ByteArray} {nL' : Nat} {fr' lo' ix a : Nat} {v1 v2 v3 v4 v5 v6 : Value} {o : Rt} {kt : Int32 → St → Rt} (hM : Ct (cl X) Z (cD X) (ck X) (cq X) y bytes nL' none fr' lo' [.ref (cq X a), v1, v2, v3, v4, v5, v6] σ o) (hw : WV y bytes nL' none 6) (hl0 : Cond.methodLink ow ix y ∈ gt) (hR : fr' + 1 ≤ fr ∧ 8 + (nL' + 11) + lo' ≤ lo) {ci : Nat} {Cn : String} {T : u_T} {N : Nat} {ty : Nat → FieldType} (hF : FC ci Cn T N ty) (hC : Cn = y.cls) {fs : List Value} (ha : a < Z.1) (hz : Z.2 (cq X) (ck X) σ a = .inr (ci, fs)) (hn : 6 = 6) (hcat : (st.map fun v => v.category).sum ≤ 8) (hd : dec cc pc (.invokevirtual ix) 3 nx) (kk : ∀ (r : Int32) (σ' : St), Sm X Z nL ret σ' lv nx st (kt r σ')) : Sm X Z nL ret σ lv pc (v6 :: v5 :: v4 :: v3 :: v2 :: v1 :: .ref (cq X a) :: st) (bnd o kt) :=
  s_callVv (As := [v1, v2, v3, v4, v5, v6]) C hM hw hl0 hR hF hC ha hz rfl hcat hd kk
theorem s_callS_0 {X : CX} {Z : Sh} {ow : String} {cc : ByteArray} {nL : Nat} {ret : Option FieldType} {fr lo : Nat} {σ : St} {lv : List (Nat × Value)} {pc nx : Nat} {st : List Value} (C : Cx X Z ow cc nL ret fr lo) {y : MethodName} {bytes : ByteArray} {nL' : Nat} {rt : FieldType} {fr' lo' ix : Nat} {o : Rt} {kt : Int32 → St → Rt} (hM : Ct (cl X) Z (cD X) (ck X) (cq X) y bytes nL' (some rt) fr' lo' [] σ o) (hw : WS y bytes nL' (some rt) 0) (hl0 : Cond.methodLink ow ix y ∈ gt) (hR : fr' + 1 ≤ fr ∧ 8 + (nL' + 11) + lo' ≤ lo) (hn : 0 = 0) (hcat : (st.map fun v => v.category).sum ≤ 8) (hd : dec cc pc (.invokestatic ix) 3 nx) (kk : ∀ (r : Int32) (σ' : St), Sm X Z nL ret σ' lv nx (.int r :: st) (kt r σ')) : Sm X Z nL ret σ lv pc (st) (bnd o kt) :=
  s_callS (As := []) C hM hw hl0 hR rfl hcat hd kk
theorem s_callS_1 {X : CX} {Z : Sh} {ow : String} {cc : ByteArray} {nL : Nat} {ret : Option FieldType} {fr lo : Nat} {σ : St} {lv : List (Nat × Value)} {pc nx : Nat} {st : List Value} (C : Cx X Z ow cc nL ret fr lo) {y : MethodName} {bytes : ByteArray} {nL' : Nat} {rt : FieldType} {fr' lo' ix : Nat} {v1 : Value} {o : Rt} {kt : Int32 → St → Rt} (hM : Ct (cl X) Z (cD X) (ck X) (cq X) y bytes nL' (some rt) fr' lo' [v1] σ o) (hw : WS y bytes nL' (some rt) 1) (hl0 : Cond.methodLink ow ix y ∈ gt) (hR : fr' + 1 ≤ fr ∧ 8 + (nL' + 11) + lo' ≤ lo) (hn : 1 = 1) (hcat : (st.map fun v => v.category).sum ≤ 8) (hd : dec cc pc (.invokestatic ix) 3 nx) (kk : ∀ (r : Int32) (σ' : St), Sm X Z nL ret σ' lv nx (.int r :: st) (kt r σ')) : Sm X Z nL ret σ lv pc (v1 :: st) (bnd o kt) :=
  s_callS (As := [v1]) C hM hw hl0 hR rfl hcat hd kk
theorem s_callS_2 {X : CX} {Z : Sh} {ow : String} {cc : ByteArray} {nL : Nat} {ret : Option FieldType} {fr lo : Nat} {σ : St} {lv : List (Nat × Value)} {pc nx : Nat} {st : List Value} (C : Cx X Z ow cc nL ret fr lo) {y : MethodName} {bytes : ByteArray} {nL' : Nat} {rt : FieldType} {fr' lo' ix : Nat} {v1 v2 : Value} {o : Rt} {kt : Int32 → St → Rt} (hM : Ct (cl X) Z (cD X) (ck X) (cq X) y bytes nL' (some rt) fr' lo' [v1, v2] σ o) (hw : WS y bytes nL' (some rt) 2) (hl0 : Cond.methodLink ow ix y ∈ gt) (hR : fr' + 1 ≤ fr ∧ 8 + (nL' + 11) + lo' ≤ lo) (hn : 2 = 2) (hcat : (st.map fun v => v.category).sum ≤ 8) (hd : dec cc pc (.invokestatic ix) 3 nx) (kk : ∀ (r : Int32) (σ' : St), Sm X Z nL ret σ' lv nx (.int r :: st) (kt r σ')) : Sm X Z nL ret σ lv pc (v2 :: v1 :: st) (bnd o kt) :=
  s_callS (As := [v1, v2]) C hM hw hl0 hR rfl hcat hd kk
theorem s_callS_3 {X : CX} {Z : Sh} {ow : String} {cc : ByteArray} {nL : Nat} {ret : Option FieldType} {fr lo : Nat} {σ : St} {lv : List (Nat × Value)} {pc nx : Nat} {st : List Value} (C : Cx X Z ow cc nL ret fr lo) {y : MethodName} {bytes : ByteArray} {nL' : Nat} {rt : FieldType} {fr' lo' ix : Nat} {v1 v2 v3 : Value} {o : Rt} {kt : Int32 → St → Rt} (hM : Ct (cl X) Z (cD X) (ck X) (cq X) y bytes nL' (some rt) fr' lo' [v1, v2, v3] σ o) (hw : WS y bytes nL' (some rt) 3) (hl0 : Cond.methodLink ow ix y ∈ gt) (hR : fr' + 1 ≤ fr ∧ 8 + (nL' + 11) + lo' ≤ lo) (hn : 3 = 3) (hcat : (st.map fun v => v.category).sum ≤ 8) (hd : dec cc pc (.invokestatic ix) 3 nx) (kk : ∀ (r : Int32) (σ' : St), Sm X Z nL ret σ' lv nx (.int r :: st) (kt r σ')) : Sm X Z nL ret σ lv pc (v3 :: v2 :: v1 :: st) (bnd o kt) :=
  s_callS (As := [v1, v2, v3]) C hM hw hl0 hR rfl hcat hd kk
theorem s_callS_4 {X : CX} {Z : Sh} {ow : String} {cc : ByteArray} {nL : Nat} {ret : Option FieldType} {fr lo : Nat} {σ : St} {lv : List (Nat × Value)} {pc nx : Nat} {st : List Value} (C : Cx X Z ow cc nL ret fr lo) {y : MethodName} {bytes : ByteArray} {nL' : Nat} {rt : FieldType} {fr' lo' ix : Nat} {v1 v2 v3 v4 : Value} {o : Rt} {kt : Int32 → St → Rt} (hM : Ct (cl X) Z (cD X) (ck X) (cq X) y bytes nL' (some rt) fr' lo' [v1, v2, v3, v4] σ o) (hw : WS y bytes nL' (some rt) 4) (hl0 : Cond.methodLink ow ix y ∈ gt) (hR : fr' + 1 ≤ fr ∧ 8 + (nL' + 11) + lo' ≤ lo) (hn : 4 = 4) (hcat : (st.map fun v => v.category).sum ≤ 8) (hd : dec cc pc (.invokestatic ix) 3 nx) (kk : ∀ (r : Int32) (σ' : St), Sm X Z nL ret σ' lv nx (.int r :: st) (kt r σ')) : Sm X Z nL ret σ lv pc (v4 :: v3 :: v2 :: v1 :: st) (bnd o kt) :=
  s_callS (As := [v1, v2, v3, v4]) C hM hw hl0 hR rfl hcat hd kk
theorem s_callS_5 {X : CX} {Z : Sh} {ow : String} {cc : ByteArray} {nL : Nat} {ret : Option FieldType} {fr lo : Nat} {σ : St} {lv : List (Nat × Value)} {pc nx : Nat} {st : List Value} (C : Cx X Z ow cc nL ret fr lo) {y : MethodName} {bytes : ByteArray} {nL' : Nat} {rt : FieldType} {fr' lo' ix : Nat} {v1 v2 v3 v4 v5 : Value} {o : Rt} {kt : Int32 → St → Rt} (hM : Ct (cl X) Z (cD X) (ck X) (cq X) y bytes nL' (some rt) fr' lo' [v1, v2, v3, v4, v5] σ o) (hw : WS y bytes nL' (some rt) 5) (hl0 : Cond.methodLink ow ix y ∈ gt) (hR : fr' + 1 ≤ fr ∧ 8 + (nL' + 11) + lo' ≤ lo) (hn : 5 = 5) (hcat : (st.map fun v => v.category).sum ≤ 8) (hd : dec cc pc (.invokestatic ix) 3 nx) (kk : ∀ (r : Int32) (σ' : St), Sm X Z nL ret σ' lv nx (.int r :: st) (kt r σ')) : Sm X Z nL ret σ lv pc (v5 :: v4 :: v3 :: v2 :: v1 :: st) (bnd o kt) :=
  s_callS (As := [v1, v2, v3, v4, v5]) C hM hw hl0 hR rfl hcat hd kk
theorem s_callS_6 {X : CX} {Z : Sh} {ow : String} {cc : ByteArray} {nL : Nat} {ret : Option FieldType} {fr lo : Nat} {σ : St} {lv : List (Nat × Value)} {pc nx : Nat} {st : List Value} (C : Cx X Z ow cc nL ret fr lo) {y : MethodName} {bytes : ByteArray} {nL' : Nat} {rt : FieldType} {fr' lo' ix : Nat} {v1 v2 v3 v4 v5 v6 : Value} {o : Rt} {kt : Int32 → St → Rt} (hM : Ct (cl X) Z (cD X) (ck X) (cq X) y bytes nL' (some rt) fr' lo' [v1, v2, v3, v4, v5, v6] σ o) (hw : WS y bytes nL' (some rt) 6) (hl0 : Cond.methodLink ow ix y ∈ gt) (hR : fr' + 1 ≤ fr ∧ 8 + (nL' + 11) + lo' ≤ lo) (hn : 6 = 6) (hcat : (st.map fun v => v.category).sum ≤ 8) (hd : dec cc pc (.invokestatic ix) 3 nx) (kk : ∀ (r : Int32) (σ' : St), Sm X Z nL ret σ' lv nx (.int r :: st) (kt r σ')) : Sm X Z nL ret σ lv pc (v6 :: v5 :: v4 :: v3 :: v2 :: v1 :: st) (bnd o kt) :=
  s_callS (As := [v1, v2, v3, v4, v5, v6]) C hM hw hl0 hR rfl hcat hd kk
theorem s_callSv_0 {X : CX} {Z : Sh} {ow : String} {cc : ByteArray} {nL : Nat} {ret : Option FieldType} {fr lo : Nat} {σ : St} {lv : List (Nat × Value)} {pc nx : Nat} {st : List Value} (C : Cx X Z ow cc nL ret fr lo) {y : MethodName} {bytes : ByteArray} {nL' : Nat} {fr' lo' ix : Nat} {o : Rt} {kt : Int32 → St → Rt} (hM : Ct (cl X) Z (cD X) (ck X) (cq X) y bytes nL' none fr' lo' [] σ o) (hw : WS y bytes nL' none 0) (hl0 : Cond.methodLink ow ix y ∈ gt) (hR : fr' + 1 ≤ fr ∧ 8 + (nL' + 11) + lo' ≤ lo) (hn : 0 = 0) (hcat : (st.map fun v => v.category).sum ≤ 8) (hd : dec cc pc (.invokestatic ix) 3 nx) (kk : ∀ (r : Int32) (σ' : St), Sm X Z nL ret σ' lv nx st (kt r σ')) : Sm X Z nL ret σ lv pc (st) (bnd o kt) :=
  s_callSv (As := []) C hM hw hl0 hR rfl hcat hd kk
theorem s_callSv_1 {X : CX} {Z : Sh} {ow : String} {cc : ByteArray} {nL : Nat} {ret : Option FieldType} {fr lo : Nat} {σ : St} {lv : List (Nat × Value)} {pc nx : Nat} {st : List Value} (C : Cx X Z ow cc nL ret fr lo) {y : MethodName} {bytes : ByteArray} {nL' : Nat} {fr' lo' ix : Nat} {v1 : Value} {o : Rt} {kt : Int32 → St → Rt} (hM : Ct (cl X) Z (cD X) (ck X) (cq X) y bytes nL' none fr' lo' [v1] σ o) (hw : WS y bytes nL' none 1) (hl0 : Cond.methodLink ow ix y ∈ gt) (hR : fr' + 1 ≤ fr ∧ 8 + (nL' + 11) + lo' ≤ lo) (hn : 1 = 1) (hcat : (st.map fun v => v.category).sum ≤ 8) (hd : dec cc pc (.invokestatic ix) 3 nx) (kk : ∀ (r : Int32) (σ' : St), Sm X Z nL ret σ' lv nx st (kt r σ')) : Sm X Z nL ret σ lv pc (v1 :: st) (bnd o kt) :=
  s_callSv (As := [v1]) C hM hw hl0 hR rfl hcat hd kk
theorem s_callSv_2 {X : CX} {Z : Sh} {ow : String} {cc : ByteArray} {nL : Nat} {ret : Option FieldType} {fr lo : Nat} {σ : St} {lv : List (Nat × Value)} {pc nx : Nat} {st : List Value} (C : Cx X Z ow cc nL ret fr lo) {y : MethodName} {bytes : ByteArray} {nL' : Nat} {fr' lo' ix : Nat} {v1 v2 : Value} {o : Rt} {kt : Int32 → St → Rt} (hM : Ct (cl X) Z (cD X) (ck X) (cq X) y bytes nL' none fr' lo' [v1, v2] σ o) (hw : WS y bytes nL' none 2) (hl0 : Cond.methodLink ow ix y ∈ gt) (hR : fr' + 1 ≤ fr ∧ 8 + (nL' + 11) + lo' ≤ lo) (hn : 2 = 2) (hcat : (st.map fun v => v.category).sum ≤ 8) (hd : dec cc pc (.invokestatic ix) 3 nx) (kk : ∀ (r : Int32) (σ' : St), Sm X Z nL ret σ' lv nx st (kt r σ')) : Sm X Z nL ret σ lv pc (v2 :: v1 :: st) (bnd o kt) :=
  s_callSv (As := [v1, v2]) C hM hw hl0 hR rfl hcat hd kk
theorem s_callSv_3 {X : CX} {Z : Sh} {ow : String} {cc : ByteArray} {nL : Nat} {ret : Option FieldType} {fr lo : Nat} {σ : St} {lv : List (Nat × Value)} {pc nx : Nat} {st : List Value} (C : Cx X Z ow cc nL ret fr lo) {y : MethodName} {bytes : ByteArray} {nL' : Nat} {fr' lo' ix : Nat} {v1 v2 v3 : Value} {o : Rt} {kt : Int32 → St → Rt} (hM : Ct (cl X) Z (cD X) (ck X) (cq X) y bytes nL' none fr' lo' [v1, v2, v3] σ o) (hw : WS y bytes nL' none 3) (hl0 : Cond.methodLink ow ix y ∈ gt) (hR : fr' + 1 ≤ fr ∧ 8 + (nL' + 11) + lo' ≤ lo) (hn : 3 = 3) (hcat : (st.map fun v => v.category).sum ≤ 8) (hd : dec cc pc (.invokestatic ix) 3 nx) (kk : ∀ (r : Int32) (σ' : St), Sm X Z nL ret σ' lv nx st (kt r σ')) : Sm X Z nL ret σ lv pc (v3 :: v2 :: v1 :: st) (bnd o kt) :=
  s_callSv (As := [v1, v2, v3]) C hM hw hl0 hR rfl hcat hd kk
theorem s_callSv_4 {X : CX} {Z : Sh} {ow : String} {cc : ByteArray} {nL : Nat} {ret : Option FieldType} {fr lo : Nat} {σ : St} {lv : List (Nat × Value)} {pc nx : Nat} {st : List Value} (C : Cx X Z ow cc nL ret fr lo) {y : MethodName} {bytes : ByteArray} {nL' : Nat} {fr' lo' ix : Nat} {v1 v2 v3 v4 : Value} {o : Rt} {kt : Int32 → St → Rt} (hM : Ct (cl X) Z (cD X) (ck X) (cq X) y bytes nL' none fr' lo' [v1, v2, v3, v4] σ o) (hw : WS y bytes nL' none 4) (hl0 : Cond.methodLink ow ix y ∈ gt) (hR : fr' + 1 ≤ fr ∧ 8 + (nL' + 11) + lo' ≤ lo) (hn : 4 = 4) (hcat : (st.map fun v => v.category).sum ≤ 8) (hd : dec cc pc (.invokestatic ix) 3 nx) (kk : ∀ (r : Int32) (σ' : St), Sm X Z nL ret σ' lv nx st (kt r σ')) : Sm X Z nL ret σ lv pc (v4 :: v3 :: v2 :: v1 :: st) (bnd o kt) :=
  s_callSv (As := [v1, v2, v3, v4]) C hM hw hl0 hR rfl hcat hd kk
theorem s_callSv_5 {X : CX} {Z : Sh} {ow : String} {cc : ByteArray} {nL : Nat} {ret : Option FieldType} {fr lo : Nat} {σ : St} {lv : List (Nat × Value)} {pc nx : Nat} {st : List Value} (C : Cx X Z ow cc nL ret fr lo) {y : MethodName} {bytes : ByteArray} {nL' : Nat} {fr' lo' ix : Nat} {v1 v2 v3 v4 v5 : Value} {o : Rt} {kt : Int32 → St → Rt} (hM : Ct (cl X) Z (cD X) (ck X) (cq X) y bytes nL' none fr' lo' [v1, v2, v3, v4, v5] σ o) (hw : WS y bytes nL' none 5) (hl0 : Cond.methodLink ow ix y ∈ gt) (hR : fr' + 1 ≤ fr ∧ 8 + (nL' + 11) + lo' ≤ lo) (hn : 5 = 5) (hcat : (st.map fun v => v.category).sum ≤ 8) (hd : dec cc pc (.invokestatic ix) 3 nx) (kk : ∀ (r : Int32) (σ' : St), Sm X Z nL ret σ' lv nx st (kt r σ')) : Sm X Z nL ret σ lv pc (v5 :: v4 :: v3 :: v2 :: v1 :: st) (bnd o kt) :=
  s_callSv (As := [v1, v2, v3, v4, v5]) C hM hw hl0 hR rfl hcat hd kk
theorem s_callSv_6 {X : CX} {Z : Sh} {ow : String} {cc : ByteArray} {nL : Nat} {ret : Option FieldType} {fr lo : Nat} {σ : St} {lv : List (Nat × Value)} {pc nx : Nat} {st : List Value} (C : Cx X Z ow cc nL ret fr lo) {y : MethodName} {bytes : ByteArray} {nL' : Nat} {fr' lo' ix : Nat} {v1 v2 v3 v4 v5 v6 : Value} {o : Rt} {kt : Int32 → St → Rt} (hM : Ct (cl X) Z (cD X) (ck X) (cq X) y bytes nL' none fr' lo' [v1, v2, v3, v4, v5, v6] σ o) (hw : WS y bytes nL' none 6) (hl0 : Cond.methodLink ow ix y ∈ gt) (hR : fr' + 1 ≤ fr ∧ 8 + (nL' + 11) + lo' ≤ lo) (hn : 6 = 6) (hcat : (st.map fun v => v.category).sum ≤ 8) (hd : dec cc pc (.invokestatic ix) 3 nx) (kk : ∀ (r : Int32) (σ' : St), Sm X Z nL ret σ' lv nx st (kt r σ')) : Sm X Z nL ret σ lv pc (v6 :: v5 :: v4 :: v3 :: v2 :: v1 :: st) (bnd o kt) :=
  s_callSv (As := [v1, v2, v3, v4, v5, v6]) C hM hw hl0 hR rfl hcat hd kk
theorem s_callN_0 {X : CX} {Z : Sh} {ow : String} {cc : ByteArray} {nL : Nat} {ret : Option FieldType} {fr lo : Nat} {σ : St} {lv : List (Nat × Value)} {pc nx : Nat} {st : List Value} (C : Cx X Z ow cc nL ret fr lo) {y : MethodName} {bytes : ByteArray} {nL' : Nat} {rt : FieldType} {fr' lo' ix : Nat} {host : String} {o : Rt} {kt : Int32 → St → Rt} (hM : Ct (cl X) Z (cD X) (ck X) (cq X) y bytes nL' (some rt) fr' lo' [] σ o) (hw : WS y bytes nL' (some rt) 0) (hl0 : Cond.methodLinkNest ow ix y host ∈ nw) (hR : fr' + 1 ≤ fr ∧ 8 + (nL' + 11) + lo' ≤ lo) (hn : 0 = 0) (hcat : (st.map fun v => v.category).sum ≤ 8) (hd : dec cc pc (.invokestatic ix) 3 nx) (kk : ∀ (r : Int32) (σ' : St), Sm X Z nL ret σ' lv nx (.int r :: st) (kt r σ')) : Sm X Z nL ret σ lv pc (st) (bnd o kt) :=
  s_callN (As := []) C hM hw hl0 hR rfl hcat hd kk
theorem s_callN_1 {X : CX} {Z : Sh} {ow : String} {cc : ByteArray} {nL : Nat} {ret : Option FieldType} {fr lo : Nat} {σ : St} {lv : List (Nat × Value)} {pc nx : Nat} {st : List Value} (C : Cx X Z ow cc nL ret fr lo) {y : MethodName} {bytes : ByteArray} {nL' : Nat} {rt : FieldType} {fr' lo' ix : Nat} {host : String} {v1 : Value} {o : Rt} {kt : Int32 → St → Rt} (hM : Ct (cl X) Z (cD X) (ck X) (cq X) y bytes nL' (some rt) fr' lo' [v1] σ o) (hw : WS y bytes nL' (some rt) 1) (hl0 : Cond.methodLinkNest ow ix y host ∈ nw) (hR : fr' + 1 ≤ fr ∧ 8 + (nL' + 11) + lo' ≤ lo) (hn : 1 = 1) (hcat : (st.map fun v => v.category).sum ≤ 8) (hd : dec cc pc (.invokestatic ix) 3 nx) (kk : ∀ (r : Int32) (σ' : St), Sm X Z nL ret σ' lv nx (.int r :: st) (kt r σ')) : Sm X Z nL ret σ lv pc (v1 :: st) (bnd o kt) :=
  s_callN (As := [v1]) C hM hw hl0 hR rfl hcat hd kk
theorem s_callN_2 {X : CX} {Z : Sh} {ow : String} {cc : ByteArray} {nL : Nat} {ret : Option FieldType} {fr lo : Nat} {σ : St} {lv : List (Nat × Value)} {pc nx : Nat} {st : List Value} (C : Cx X Z ow cc nL ret fr lo) {y : MethodName} {bytes : ByteArray} {nL' : Nat} {rt : FieldType} {fr' lo' ix : Nat} {host : String} {v1 v2 : Value} {o : Rt} {kt : Int32 → St → Rt} (hM : Ct (cl X) Z (cD X) (ck X) (cq X) y bytes nL' (some rt) fr' lo' [v1, v2] σ o) (hw : WS y bytes nL' (some rt) 2) (hl0 : Cond.methodLinkNest ow ix y host ∈ nw) (hR : fr' + 1 ≤ fr ∧ 8 + (nL' + 11) + lo' ≤ lo) (hn : 2 = 2) (hcat : (st.map fun v => v.category).sum ≤ 8) (hd : dec cc pc (.invokestatic ix) 3 nx) (kk : ∀ (r : Int32) (σ' : St), Sm X Z nL ret σ' lv nx (.int r :: st) (kt r σ')) : Sm X Z nL ret σ lv pc (v2 :: v1 :: st) (bnd o kt) :=
  s_callN (As := [v1, v2]) C hM hw hl0 hR rfl hcat hd kk
theorem s_callN_3 {X : CX} {Z : Sh} {ow : String} {cc : ByteArray} {nL : Nat} {ret : Option FieldType} {fr lo : Nat} {σ : St} {lv : List (Nat × Value)} {pc nx : Nat} {st : List Value} (C : Cx X Z ow cc nL ret fr lo) {y : MethodName} {bytes : ByteArray} {nL' : Nat} {rt : FieldType} {fr' lo' ix : Nat} {host : String} {v1 v2 v3 : Value} {o : Rt} {kt : Int32 → St → Rt} (hM : Ct (cl X) Z (cD X) (ck X) (cq X) y bytes nL' (some rt) fr' lo' [v1, v2, v3] σ o) (hw : WS y bytes nL' (some rt) 3) (hl0 : Cond.methodLinkNest ow ix y host ∈ nw) (hR : fr' + 1 ≤ fr ∧ 8 + (nL' + 11) + lo' ≤ lo) (hn : 3 = 3) (hcat : (st.map fun v => v.category).sum ≤ 8) (hd : dec cc pc (.invokestatic ix) 3 nx) (kk : ∀ (r : Int32) (σ' : St), Sm X Z nL ret σ' lv nx (.int r :: st) (kt r σ')) : Sm X Z nL ret σ lv pc (v3 :: v2 :: v1 :: st) (bnd o kt) :=
  s_callN (As := [v1, v2, v3]) C hM hw hl0 hR rfl hcat hd kk
theorem s_callN_4 {X : CX} {Z : Sh} {ow : String} {cc : ByteArray} {nL : Nat} {ret : Option FieldType} {fr lo : Nat} {σ : St} {lv : List (Nat × Value)} {pc nx : Nat} {st : List Value} (C : Cx X Z ow cc nL ret fr lo) {y : MethodName} {bytes : ByteArray} {nL' : Nat} {rt : FieldType} {fr' lo' ix : Nat} {host : String} {v1 v2 v3 v4 : Value} {o : Rt} {kt : Int32 → St → Rt} (hM : Ct (cl X) Z (cD X) (ck X) (cq X) y bytes nL' (some rt) fr' lo' [v1, v2, v3, v4] σ o) (hw : WS y bytes nL' (some rt) 4) (hl0 : Cond.methodLinkNest ow ix y host ∈ nw) (hR : fr' + 1 ≤ fr ∧ 8 + (nL' + 11) + lo' ≤ lo) (hn : 4 = 4) (hcat : (st.map fun v => v.category).sum ≤ 8) (hd : dec cc pc (.invokestatic ix) 3 nx) (kk : ∀ (r : Int32) (σ' : St), Sm X Z nL ret σ' lv nx (.int r :: st) (kt r σ')) : Sm X Z nL ret σ lv pc (v4 :: v3 :: v2 :: v1 :: st) (bnd o kt) :=
  s_callN (As := [v1, v2, v3, v4]) C hM hw hl0 hR rfl hcat hd kk
theorem s_callN_5 {X : CX} {Z : Sh} {ow : String} {cc : ByteArray} {nL : Nat} {ret : Option FieldType} {fr lo : Nat} {σ : St} {lv : List (Nat × Value)} {pc nx : Nat} {st : List Value} (C : Cx X Z ow cc nL ret fr lo) {y : MethodName} {bytes : ByteArray} {nL' : Nat} {rt : FieldType} {fr' lo' ix : Nat} {host : String} {v1 v2 v3 v4 v5 : Value} {o : Rt} {kt : Int32 → St → Rt} (hM : Ct (cl X) Z (cD X) (ck X) (cq X) y bytes nL' (some rt) fr' lo' [v1, v2, v3, v4, v5] σ o) (hw : WS y bytes nL' (some rt) 5) (hl0 : Cond.methodLinkNest ow ix y host ∈ nw) (hR : fr' + 1 ≤ fr ∧ 8 + (nL' + 11) + lo' ≤ lo) (hn : 5 = 5) (hcat : (st.map fun v => v.category).sum ≤ 8) (hd : dec cc pc (.invokestatic ix) 3 nx) (kk : ∀ (r : Int32) (σ' : St), Sm X Z nL ret σ' lv nx (.int r :: st) (kt r σ')) : Sm X Z nL ret σ lv pc (v5 :: v4 :: v3 :: v2 :: v1 :: st) (bnd o kt) :=
  s_callN (As := [v1, v2, v3, v4, v5]) C hM hw hl0 hR rfl hcat hd kk
theorem s_callN_6 {X : CX} {Z : Sh} {ow : String} {cc : ByteArray} {nL : Nat} {ret : Option FieldType} {fr lo : Nat} {σ : St} {lv : List (Nat × Value)} {pc nx : Nat} {st : List Value} (C : Cx X Z ow cc nL ret fr lo) {y : MethodName} {bytes : ByteArray} {nL' : Nat} {rt : FieldType} {fr' lo' ix : Nat} {host : String} {v1 v2 v3 v4 v5 v6 : Value} {o : Rt} {kt : Int32 → St → Rt} (hM : Ct (cl X) Z (cD X) (ck X) (cq X) y bytes nL' (some rt) fr' lo' [v1, v2, v3, v4, v5, v6] σ o) (hw : WS y bytes nL' (some rt) 6) (hl0 : Cond.methodLinkNest ow ix y host ∈ nw) (hR : fr' + 1 ≤ fr ∧ 8 + (nL' + 11) + lo' ≤ lo) (hn : 6 = 6) (hcat : (st.map fun v => v.category).sum ≤ 8) (hd : dec cc pc (.invokestatic ix) 3 nx) (kk : ∀ (r : Int32) (σ' : St), Sm X Z nL ret σ' lv nx (.int r :: st) (kt r σ')) : Sm X Z nL ret σ lv pc (v6 :: v5 :: v4 :: v3 :: v2 :: v1 :: st) (bnd o kt) :=
  s_callN (As := [v1, v2, v3, v4, v5, v6]) C hM hw hl0 hR rfl hcat hd kk
/-! the words, constants and rows of decoding -/
theorem ws_copy : Cond.native arraycopyName ∈ gt ∧ Cond.static arraycopyName ∈ gt ∧ Cond.initialized "java/lang/System" ∈ gt := ⟨gt_of (by decide +kernel) rfl, gt_of (by decide +kernel) rfl, gt_of (by decide +kernel) rfl⟩
theorem ws_min : Cond.static Lib.Math.min.name ∈ gt ∧ Cond.initialized "java/lang/Math" ∈ gt ∧ Cond.code Lib.Math.min.name Lib.Math.min.code 2 (some .int) ∈ gt := ⟨gt_of (by decide +kernel) rfl, gt_of (by decide +kernel) rfl, gt_of (by decide +kernel) rfl⟩
theorem g_0 : Cond.methodLinkNest RX5 23 yX6_within RX6 ∈ nw := List.mem_filter.mpr ⟨(List.mem_of_getElem? (i := 296) (by decide +kernel)), rfl⟩
theorem g_1 : Cond.static yX6_within ∈ gt := gt_of (List.mem_of_getElem? (i := 297) (by decide +kernel)) rfl
theorem g_2 : Cond.initialized RX6 ∈ gt := gt_of (List.mem_of_getElem? (i := 64) (by decide +kernel)) rfl
theorem g_3 : Cond.code yX6_within cX6_within 3 (some .boolean) ∈ gt := gt_of (List.mem_of_getElem? (i := 298) (by decide +kernel)) rfl
theorem g_4 : Cond.fieldLink RX6 274 (TX6 7).1 (TX6 7).2.1 (TX6 7).2.2.1 ∈ gt := gt_of (List.mem_of_getElem? (i := 270) (by decide +kernel)) rfl
theorem g_5 : Cond.constant RX6 277 (-1000010 : Int32) ∈ gt := gt_of (List.mem_of_getElem? (i := 305) (by decide +kernel)) rfl
theorem g_6 : Cond.fieldLink RX5 9 (TX5 0).1 (TX5 0).2.1 (TX5 0).2.2.1 ∈ gt := gt_of (List.mem_of_getElem? (i := 91) (by decide +kernel)) rfl
theorem g_7 : Cond.fieldLink RX5 15 (TX5 1).1 (TX5 1).2.1 (TX5 1).2.2.1 ∈ gt := gt_of (List.mem_of_getElem? (i := 93) (by decide +kernel)) rfl
theorem g_8 : Cond.fieldLink RX5 20 (TX5 2).1 (TX5 2).2.1 (TX5 2).2.2.1 ∈ gt := gt_of (List.mem_of_getElem? (i := 94) (by decide +kernel)) rfl
theorem g_9 : Cond.fieldLink RX6 10 (TX6 0).1 (TX6 0).2.1 (TX6 0).2.2.1 ∈ gt := gt_of (List.mem_of_getElem? (i := 263) (by decide +kernel)) rfl
theorem g_10 : Cond.constant RX6 65 (-1000001 : Int32) ∈ gt := gt_of (List.mem_of_getElem? (i := 300) (by decide +kernel)) rfl
theorem g_11 : Cond.methodLink RX6 74 yX6_foundNothing ∈ gt := gt_of (List.mem_of_getElem? (i := 310) (by decide +kernel)) rfl
theorem g_12 : Cond.instanceMethod yX6_foundNothing ∈ gt := gt_of (List.mem_of_getElem? (i := 312) (by decide +kernel)) rfl
theorem g_13 : Cond.selects RX6 yX6_foundNothing yX6_foundNothing ∈ gt := gt_of (List.mem_of_getElem? (i := 1) (by decide +kernel)) rfl
theorem g_14 : Cond.code yX6_foundNothing cX6_foundNothing 2 (some .int) ∈ gt := gt_of (List.mem_of_getElem? (i := 313) (by decide +kernel)) rfl
theorem g_15 : Cond.methodLink RX6 70 yX5_lay ∈ gt := gt_of (List.mem_of_getElem? (i := 306) (by decide +kernel)) rfl
theorem g_16 : Cond.instanceMethod yX5_lay ∈ gt := gt_of (List.mem_of_getElem? (i := 307) (by decide +kernel)) rfl
theorem g_17 : Cond.selects RX5 yX5_lay yX5_lay ∈ gt := gt_of (List.mem_of_getElem? (i := 308) (by decide +kernel)) rfl
theorem g_18 : Cond.initialized RX5 ∈ gt := gt_of (List.mem_of_getElem? (i := 65) (by decide +kernel)) rfl
theorem g_19 : Cond.code yX5_lay cX5_lay 5 none ∈ gt := gt_of (List.mem_of_getElem? (i := 309) (by decide +kernel)) rfl
theorem g_20 : Cond.methodLink RX6 66 yX6_finding ∈ gt := gt_of (List.mem_of_getElem? (i := 301) (by decide +kernel)) rfl
theorem g_21 : Cond.instanceMethod yX6_finding ∈ gt := gt_of (List.mem_of_getElem? (i := 303) (by decide +kernel)) rfl
theorem g_22 : Cond.selects RX6 yX6_finding yX6_finding ∈ gt := gt_of (List.mem_of_getElem? (i := 0) (by decide +kernel)) rfl
theorem g_23 : Cond.code yX6_finding cX6_finding 2 (some .int) ∈ gt := gt_of (List.mem_of_getElem? (i := 304) (by decide +kernel)) rfl
theorem g_24 : Cond.methodLink RX6 61 yX6_within ∈ gt := gt_of (List.mem_of_getElem? (i := 299) (by decide +kernel)) rfl
theorem g_25 : Cond.methodLink RX6 57 yX5_isRow ∈ gt := gt_of (List.mem_of_getElem? (i := 292) (by decide +kernel)) rfl
theorem g_26 : Cond.instanceMethod yX5_isRow ∈ gt := gt_of (List.mem_of_getElem? (i := 293) (by decide +kernel)) rfl
theorem g_27 : Cond.selects RX5 yX5_isRow yX5_isRow ∈ gt := gt_of (List.mem_of_getElem? (i := 294) (by decide +kernel)) rfl
theorem g_28 : Cond.code yX5_isRow cX5_isRow 2 (some .boolean) ∈ gt := gt_of (List.mem_of_getElem? (i := 295) (by decide +kernel)) rfl
theorem g_29 : Cond.methodLink RX6 83 yX5_put ∈ gt := gt_of (List.mem_of_getElem? (i := 326) (by decide +kernel)) rfl
theorem g_30 : Cond.instanceMethod yX5_put ∈ gt := gt_of (List.mem_of_getElem? (i := 327) (by decide +kernel)) rfl
theorem g_31 : Cond.selects RX5 yX5_put yX5_put ∈ gt := gt_of (List.mem_of_getElem? (i := 328) (by decide +kernel)) rfl
theorem g_32 : Cond.code yX5_put cX5_put 5 (some .int) ∈ gt := gt_of (List.mem_of_getElem? (i := 329) (by decide +kernel)) rfl
theorem g_33 : Cond.methodLink RX6 80 yX5_hasPlaces ∈ gt := gt_of (List.mem_of_getElem? (i := 322) (by decide +kernel)) rfl
theorem g_34 : Cond.instanceMethod yX5_hasPlaces ∈ gt := gt_of (List.mem_of_getElem? (i := 323) (by decide +kernel)) rfl
theorem g_35 : Cond.selects RX5 yX5_hasPlaces yX5_hasPlaces ∈ gt := gt_of (List.mem_of_getElem? (i := 324) (by decide +kernel)) rfl
theorem g_36 : Cond.code yX5_hasPlaces cX5_hasPlaces 4 (some .boolean) ∈ gt := gt_of (List.mem_of_getElem? (i := 325) (by decide +kernel)) rfl
theorem g_37 : Cond.methodLink RX6 77 yX5_isMissing ∈ gt := gt_of (List.mem_of_getElem? (i := 318) (by decide +kernel)) rfl
theorem g_38 : Cond.instanceMethod yX5_isMissing ∈ gt := gt_of (List.mem_of_getElem? (i := 319) (by decide +kernel)) rfl
theorem g_39 : Cond.selects RX5 yX5_isMissing yX5_isMissing ∈ gt := gt_of (List.mem_of_getElem? (i := 320) (by decide +kernel)) rfl
theorem g_40 : Cond.code yX5_isMissing cX5_isMissing 2 (some .boolean) ∈ gt := gt_of (List.mem_of_getElem? (i := 321) (by decide +kernel)) rfl
theorem g_41 : Cond.fieldLink RX6 87 (TX5 0).1 (TX5 0).2.1 (TX5 0).2.2.1 ∈ gt := gt_of (List.mem_of_getElem? (i := 92) (by decide +kernel)) rfl
theorem g_42 : Cond.fieldLink RX6 91 (TX5 2).1 (TX5 2).2.1 (TX5 2).2.2.1 ∈ gt := gt_of (List.mem_of_getElem? (i := 95) (by decide +kernel)) rfl
theorem g_43 : Cond.methodLink RX6 95 arraycopyName ∈ gt := gt_of (List.mem_of_getElem? (i := 334) (by decide +kernel)) rfl
theorem g_44 : Cond.methodLink RX6 101 yX5_remove ∈ gt := gt_of (List.mem_of_getElem? (i := 341) (by decide +kernel)) rfl
theorem g_45 : Cond.instanceMethod yX5_remove ∈ gt := gt_of (List.mem_of_getElem? (i := 342) (by decide +kernel)) rfl
theorem g_46 : Cond.selects RX5 yX5_remove yX5_remove ∈ gt := gt_of (List.mem_of_getElem? (i := 343) (by decide +kernel)) rfl
theorem g_47 : Cond.code yX5_remove cX5_remove 2 (some .int) ∈ gt := gt_of (List.mem_of_getElem? (i := 344) (by decide +kernel)) rfl
theorem g_48 : Cond.fieldLink RX4 15 (TX4 1).1 (TX4 1).2.1 (TX4 1).2.2.1 ∈ gt := gt_of (List.mem_of_getElem? (i := 111) (by decide +kernel)) rfl
theorem g_49 : Cond.fieldLink RX4 9 (TX4 0).1 (TX4 0).2.1 (TX4 0).2.2.1 ∈ gt := gt_of (List.mem_of_getElem? (i := 110) (by decide +kernel)) rfl
theorem g_50 : Cond.fieldLink RX6 19 (TX6 1).1 (TX6 1).2.1 (TX6 1).2.2.1 ∈ gt := gt_of (List.mem_of_getElem? (i := 264) (by decide +kernel)) rfl
theorem g_51 : Cond.fieldLink RX6 104 (TX4 1).1 (TX4 1).2.1 (TX4 1).2.2.1 ∈ gt := gt_of (List.mem_of_getElem? (i := 112) (by decide +kernel)) rfl
theorem g_52 : Cond.methodLink RX6 109 yX4_append ∈ gt := gt_of (List.mem_of_getElem? (i := 350) (by decide +kernel)) rfl
theorem g_53 : Cond.instanceMethod yX4_append ∈ gt := gt_of (List.mem_of_getElem? (i := 351) (by decide +kernel)) rfl
theorem g_54 : Cond.selects RX4 yX4_append yX4_append ∈ gt := gt_of (List.mem_of_getElem? (i := 352) (by decide +kernel)) rfl
theorem g_55 : Cond.initialized RX4 ∈ gt := gt_of (List.mem_of_getElem? (i := 66) (by decide +kernel)) rfl
theorem g_56 : Cond.code yX4_append cX4_append 2 (some .int) ∈ gt := gt_of (List.mem_of_getElem? (i := 353) (by decide +kernel)) rfl
theorem g_57 : Cond.constant RX6 108 (-1000003 : Int32) ∈ gt := gt_of (List.mem_of_getElem? (i := 349) (by decide +kernel)) rfl
theorem g_58 : Cond.fieldLink RX1 30 (TX1 0).1 (TX1 0).2.1 (TX1 0).2.2.1 ∈ gt := gt_of (List.mem_of_getElem? (i := 138) (by decide +kernel)) rfl
theorem g_59 : Cond.fieldLink RX1 34 (TX1 1).1 (TX1 1).2.1 (TX1 1).2.2.1 ∈ gt := gt_of (List.mem_of_getElem? (i := 142) (by decide +kernel)) rfl
theorem g_60 : Cond.fieldLink RX1 41 (TX1 2).1 (TX1 2).2.1 (TX1 2).2.2.1 ∈ gt := gt_of (List.mem_of_getElem? (i := 146) (by decide +kernel)) rfl
theorem g_61 : Cond.fieldLink RX1 44 (TX1 3).1 (TX1 3).2.1 (TX1 3).2.2.1 ∈ gt := gt_of (List.mem_of_getElem? (i := 150) (by decide +kernel)) rfl
theorem g_62 : Cond.fieldLink RX1 47 (TX1 4).1 (TX1 4).2.1 (TX1 4).2.2.1 ∈ gt := gt_of (List.mem_of_getElem? (i := 152) (by decide +kernel)) rfl
theorem g_63 : Cond.fieldLink RX1 50 (TX1 5).1 (TX1 5).2.1 (TX1 5).2.2.1 ∈ gt := gt_of (List.mem_of_getElem? (i := 155) (by decide +kernel)) rfl
theorem g_64 : Cond.fieldLink RX4 19 (TX4 4).1 (TX4 4).2.1 (TX4 4).2.2.1 ∈ gt := gt_of (List.mem_of_getElem? (i := 117) (by decide +kernel)) rfl
theorem g_65 : Cond.fieldLink RX4 102 (TX4 3).1 (TX4 3).2.1 (TX4 3).2.2.1 ∈ gt := gt_of (List.mem_of_getElem? (i := 116) (by decide +kernel)) rfl
theorem g_66 : Cond.fieldLink RX4 105 (TX4 2).1 (TX4 2).2.1 (TX4 2).2.2.1 ∈ gt := gt_of (List.mem_of_getElem? (i := 114) (by decide +kernel)) rfl
theorem g_67 : Cond.methodLink RX4 60 yX4_faultAt ∈ gt := gt_of (List.mem_of_getElem? (i := 378) (by decide +kernel)) rfl
theorem g_68 : Cond.instanceMethod yX4_faultAt ∈ gt := gt_of (List.mem_of_getElem? (i := 380) (by decide +kernel)) rfl
theorem g_69 : Cond.selects RX4 yX4_faultAt yX4_faultAt ∈ gt := gt_of (List.mem_of_getElem? (i := 5) (by decide +kernel)) rfl
theorem g_70 : Cond.code yX4_faultAt cX4_faultAt 3 (some .boolean) ∈ gt := gt_of (List.mem_of_getElem? (i := 381) (by decide +kernel)) rfl
theorem g_71 : Cond.methodLink RX4 51 yX4_isNext ∈ gt := gt_of (List.mem_of_getElem? (i := 374) (by decide +kernel)) rfl
theorem g_72 : Cond.instanceMethod yX4_isNext ∈ gt := gt_of (List.mem_of_getElem? (i := 376) (by decide +kernel)) rfl
theorem g_73 : Cond.selects RX4 yX4_isNext yX4_isNext ∈ gt := gt_of (List.mem_of_getElem? (i := 4) (by decide +kernel)) rfl
theorem g_74 : Cond.code yX4_isNext cX4_isNext 2 (some .boolean) ∈ gt := gt_of (List.mem_of_getElem? (i := 377) (by decide +kernel)) rfl
theorem g_75 : Cond.fieldLink RX4 45 (TX4 5).1 (TX4 5).2.1 (TX4 5).2.2.1 ∈ gt := gt_of (List.mem_of_getElem? (i := 118) (by decide +kernel)) rfl
theorem g_76 : Cond.methodLinkNest RX4 98 yX6_within RX6 ∈ nw := List.mem_filter.mpr ⟨(List.mem_of_getElem? (i := 386) (by decide +kernel)), rfl⟩
theorem g_77 : Cond.fieldLink RX4 48 (TX1 2).1 (TX1 2).2.1 (TX1 2).2.2.1 ∈ gt := gt_of (List.mem_of_getElem? (i := 147) (by decide +kernel)) rfl
theorem g_78 : Cond.methodLink RX4 37 yX4_takes ∈ gt := gt_of (List.mem_of_getElem? (i := 370) (by decide +kernel)) rfl
theorem g_79 : Cond.instanceMethod yX4_takes ∈ gt := gt_of (List.mem_of_getElem? (i := 372) (by decide +kernel)) rfl
theorem g_80 : Cond.selects RX4 yX4_takes yX4_takes ∈ gt := gt_of (List.mem_of_getElem? (i := 3) (by decide +kernel)) rfl
theorem g_81 : Cond.code yX4_takes cX4_takes 2 (some .boolean) ∈ gt := gt_of (List.mem_of_getElem? (i := 373) (by decide +kernel)) rfl
theorem g_82 : Cond.methodLink RX4 41 yX4_takesNumber ∈ gt := gt_of (List.mem_of_getElem? (i := 382) (by decide +kernel)) rfl
theorem g_83 : Cond.instanceMethod yX4_takesNumber ∈ gt := gt_of (List.mem_of_getElem? (i := 384) (by decide +kernel)) rfl
theorem g_84 : Cond.selects RX4 yX4_takesNumber yX4_takesNumber ∈ gt := gt_of (List.mem_of_getElem? (i := 6) (by decide +kernel)) rfl
theorem g_85 : Cond.code yX4_takesNumber cX4_takesNumber 5 (some .boolean) ∈ gt := gt_of (List.mem_of_getElem? (i := 385) (by decide +kernel)) rfl
theorem g_86 : Cond.fieldLink RX4 57 (TX1 0).1 (TX1 0).2.1 (TX1 0).2.2.1 ∈ gt := gt_of (List.mem_of_getElem? (i := 139) (by decide +kernel)) rfl
theorem g_87 : Cond.fieldLink RX4 63 (TX1 6).1 (TX1 6).2.1 (TX1 6).2.2.1 ∈ gt := gt_of (List.mem_of_getElem? (i := 159) (by decide +kernel)) rfl
theorem g_88 : Cond.methodLink RX4 54 yX4_readCell ∈ gt := gt_of (List.mem_of_getElem? (i := 391) (by decide +kernel)) rfl
theorem g_89 : Cond.instanceMethod yX4_readCell ∈ gt := gt_of (List.mem_of_getElem? (i := 393) (by decide +kernel)) rfl
theorem g_90 : Cond.selects RX4 yX4_readCell yX4_readCell ∈ gt := gt_of (List.mem_of_getElem? (i := 8) (by decide +kernel)) rfl
theorem g_91 : Cond.code yX4_readCell cX4_readCell 2 (some .boolean) ∈ gt := gt_of (List.mem_of_getElem? (i := 394) (by decide +kernel)) rfl
theorem g_92 : Cond.constant RX1 101 (-1000000 : Int32) ∈ gt := gt_of (List.mem_of_getElem? (i := 414) (by decide +kernel)) rfl
theorem g_93 : Cond.fieldLink RX1 15 (TX1 7).1 (TX1 7).2.1 (TX1 7).2.2.1 ∈ gt := gt_of (List.mem_of_getElem? (i := 162) (by decide +kernel)) rfl
theorem g_94 : Cond.constant RX4 91 (-1000000 : Int32) ∈ gt := gt_of (List.mem_of_getElem? (i := 415) (by decide +kernel)) rfl
theorem g_95 : Cond.fieldLink RX4 92 (TX1 7).1 (TX1 7).2.1 (TX1 7).2.2.1 ∈ gt := gt_of (List.mem_of_getElem? (i := 163) (by decide +kernel)) rfl
theorem g_96 : Cond.fieldLink RX4 73 (TX1 1).1 (TX1 1).2.1 (TX1 1).2.2.1 ∈ gt := gt_of (List.mem_of_getElem? (i := 145) (by decide +kernel)) rfl
theorem g_97 : Cond.fieldLink RX4 95 (TX1 11).1 (TX1 11).2.1 (TX1 11).2.2.1 ∈ gt := gt_of (List.mem_of_getElem? (i := 181) (by decide +kernel)) rfl
theorem g_98 : Cond.methodLink RX4 88 yX1_owner ∈ gt := gt_of (List.mem_of_getElem? (i := 410) (by decide +kernel)) rfl
theorem g_99 : Cond.instanceMethod yX1_owner ∈ gt := gt_of (List.mem_of_getElem? (i := 411) (by decide +kernel)) rfl
theorem g_100 : Cond.selects RX1 yX1_owner yX1_owner ∈ gt := gt_of (List.mem_of_getElem? (i := 412) (by decide +kernel)) rfl
theorem g_101 : Cond.initialized RX1 ∈ gt := gt_of (List.mem_of_getElem? (i := 67) (by decide +kernel)) rfl
theorem g_102 : Cond.code yX1_owner cX1_owner 3 (some .int) ∈ gt := gt_of (List.mem_of_getElem? (i := 413) (by decide +kernel)) rfl
theorem g_103 : Cond.methodLink RX4 69 yX4_kindOf ∈ gt := gt_of (List.mem_of_getElem? (i := 403) (by decide +kernel)) rfl
theorem g_104 : Cond.static yX4_kindOf ∈ gt := gt_of (List.mem_of_getElem? (i := 404) (by decide +kernel)) rfl
theorem g_105 : Cond.code yX4_kindOf cX4_kindOf 1 (some .int) ∈ gt := gt_of (List.mem_of_getElem? (i := 405) (by decide +kernel)) rfl
theorem g_106 : Cond.fieldLink RX4 76 (TX1 10).1 (TX1 10).2.1 (TX1 10).2.2.1 ∈ gt := gt_of (List.mem_of_getElem? (i := 176) (by decide +kernel)) rfl
theorem g_107 : Cond.fieldLink RX4 82 (TX1 8).1 (TX1 8).2.1 (TX1 8).2.2.1 ∈ gt := gt_of (List.mem_of_getElem? (i := 169) (by decide +kernel)) rfl
theorem g_108 : Cond.fieldLink RX4 85 (TX1 9).1 (TX1 9).2.1 (TX1 9).2.2.1 ∈ gt := gt_of (List.mem_of_getElem? (i := 172) (by decide +kernel)) rfl
theorem g_109 : Cond.methodLink RX4 79 yX4_readHome ∈ gt := gt_of (List.mem_of_getElem? (i := 406) (by decide +kernel)) rfl
theorem g_110 : Cond.instanceMethod yX4_readHome ∈ gt := gt_of (List.mem_of_getElem? (i := 408) (by decide +kernel)) rfl
theorem g_111 : Cond.selects RX4 yX4_readHome yX4_readHome ∈ gt := gt_of (List.mem_of_getElem? (i := 11) (by decide +kernel)) rfl
theorem g_112 : Cond.code yX4_readHome cX4_readHome 3 (some .boolean) ∈ gt := gt_of (List.mem_of_getElem? (i := 409) (by decide +kernel)) rfl
theorem g_113 : Cond.methodLink RX4 66 yX4_readPin ∈ gt := gt_of (List.mem_of_getElem? (i := 399) (by decide +kernel)) rfl
theorem g_114 : Cond.instanceMethod yX4_readPin ∈ gt := gt_of (List.mem_of_getElem? (i := 401) (by decide +kernel)) rfl
theorem g_115 : Cond.selects RX4 yX4_readPin yX4_readPin ∈ gt := gt_of (List.mem_of_getElem? (i := 10) (by decide +kernel)) rfl
theorem g_116 : Cond.code yX4_readPin cX4_readPin 4 (some .boolean) ∈ gt := gt_of (List.mem_of_getElem? (i := 402) (by decide +kernel)) rfl
theorem g_117 : Cond.methodLink RX4 34 yX4_readPins ∈ gt := gt_of (List.mem_of_getElem? (i := 395) (by decide +kernel)) rfl
theorem g_118 : Cond.instanceMethod yX4_readPins ∈ gt := gt_of (List.mem_of_getElem? (i := 397) (by decide +kernel)) rfl
theorem g_119 : Cond.selects RX4 yX4_readPins yX4_readPins ∈ gt := gt_of (List.mem_of_getElem? (i := 9) (by decide +kernel)) rfl
theorem g_120 : Cond.code yX4_readPins cX4_readPins 3 (some .boolean) ∈ gt := gt_of (List.mem_of_getElem? (i := 398) (by decide +kernel)) rfl
theorem g_121 : Cond.methodLink RX4 31 yX4_readCells ∈ gt := gt_of (List.mem_of_getElem? (i := 387) (by decide +kernel)) rfl
theorem g_122 : Cond.instanceMethod yX4_readCells ∈ gt := gt_of (List.mem_of_getElem? (i := 389) (by decide +kernel)) rfl
theorem g_123 : Cond.selects RX4 yX4_readCells yX4_readCells ∈ gt := gt_of (List.mem_of_getElem? (i := 7) (by decide +kernel)) rfl
theorem g_124 : Cond.code yX4_readCells cX4_readCells 3 (some .boolean) ∈ gt := gt_of (List.mem_of_getElem? (i := 390) (by decide +kernel)) rfl
theorem g_125 : Cond.methodLink RX4 27 yX4_readLaw ∈ gt := gt_of (List.mem_of_getElem? (i := 366) (by decide +kernel)) rfl
theorem g_126 : Cond.instanceMethod yX4_readLaw ∈ gt := gt_of (List.mem_of_getElem? (i := 368) (by decide +kernel)) rfl
theorem g_127 : Cond.selects RX4 yX4_readLaw yX4_readLaw ∈ gt := gt_of (List.mem_of_getElem? (i := 2) (by decide +kernel)) rfl
theorem g_128 : Cond.code yX4_readLaw cX4_readLaw 2 (some .boolean) ∈ gt := gt_of (List.mem_of_getElem? (i := 369) (by decide +kernel)) rfl
theorem g_129 : Cond.methodLink RX4 22 yX1_makeEmpty ∈ gt := gt_of (List.mem_of_getElem? (i := 362) (by decide +kernel)) rfl
theorem g_130 : Cond.instanceMethod yX1_makeEmpty ∈ gt := gt_of (List.mem_of_getElem? (i := 363) (by decide +kernel)) rfl
theorem g_131 : Cond.selects RX1 yX1_makeEmpty yX1_makeEmpty ∈ gt := gt_of (List.mem_of_getElem? (i := 364) (by decide +kernel)) rfl
theorem g_132 : Cond.code yX1_makeEmpty cX1_makeEmpty 1 none ∈ gt := gt_of (List.mem_of_getElem? (i := 365) (by decide +kernel)) rfl
theorem g_133 : Cond.fieldLink RX1 9 (TX1 6).1 (TX1 6).2.1 (TX1 6).2.2.1 ∈ gt := gt_of (List.mem_of_getElem? (i := 158) (by decide +kernel)) rfl
theorem g_134 : Cond.methodLink RX1 54 arraycopyName ∈ gt := gt_of (List.mem_of_getElem? (i := 425) (by decide +kernel)) rfl
theorem g_135 : Cond.fieldLink RX1 18 (TX1 8).1 (TX1 8).2.1 (TX1 8).2.2.1 ∈ gt := gt_of (List.mem_of_getElem? (i := 166) (by decide +kernel)) rfl
theorem g_136 : Cond.fieldLink RX1 21 (TX1 9).1 (TX1 9).2.1 (TX1 9).2.2.1 ∈ gt := gt_of (List.mem_of_getElem? (i := 171) (by decide +kernel)) rfl
theorem g_137 : Cond.fieldLink RX1 24 (TX1 10).1 (TX1 10).2.1 (TX1 10).2.2.1 ∈ gt := gt_of (List.mem_of_getElem? (i := 174) (by decide +kernel)) rfl
theorem g_138 : Cond.fieldLink RX1 27 (TX1 11).1 (TX1 11).2.1 (TX1 11).2.2.1 ∈ gt := gt_of (List.mem_of_getElem? (i := 179) (by decide +kernel)) rfl
theorem g_139 : Cond.fieldLink RX3 22 (TX3 0).1 (TX3 0).2.1 (TX3 0).2.2.1 ∈ gt := gt_of (List.mem_of_getElem? (i := 234) (by decide +kernel)) rfl
theorem g_140 : Cond.fieldLink RX6 35 (TX6 3).1 (TX6 3).2.1 (TX6 3).2.2.1 ∈ gt := gt_of (List.mem_of_getElem? (i := 266) (by decide +kernel)) rfl
theorem g_141 : Cond.fieldLink RX6 112 (TX2 0).1 (TX2 0).2.1 (TX2 0).2.2.1 ∈ gt := gt_of (List.mem_of_getElem? (i := 218) (by decide +kernel)) rfl
theorem g_142 : Cond.fieldLink RX6 26 (TX6 2).1 (TX6 2).2.1 (TX6 2).2.2.1 ∈ gt := gt_of (List.mem_of_getElem? (i := 265) (by decide +kernel)) rfl
theorem g_143 : Cond.fieldLink RX6 42 (TX6 4).1 (TX6 4).2.1 (TX6 4).2.2.1 ∈ gt := gt_of (List.mem_of_getElem? (i := 267) (by decide +kernel)) rfl
theorem g_144 : Cond.fieldLink RX6 132 (TX1 1).1 (TX1 1).2.1 (TX1 1).2.2.1 ∈ gt := gt_of (List.mem_of_getElem? (i := 144) (by decide +kernel)) rfl
theorem g_145 : Cond.methodLink RX6 129 yX3_forget ∈ gt := gt_of (List.mem_of_getElem? (i := 426) (by decide +kernel)) rfl
theorem g_146 : Cond.instanceMethod yX3_forget ∈ gt := gt_of (List.mem_of_getElem? (i := 427) (by decide +kernel)) rfl
theorem g_147 : Cond.selects RX3 yX3_forget yX3_forget ∈ gt := gt_of (List.mem_of_getElem? (i := 428) (by decide +kernel)) rfl
theorem g_148 : Cond.initialized RX3 ∈ gt := gt_of (List.mem_of_getElem? (i := 69) (by decide +kernel)) rfl
theorem g_149 : Cond.code yX3_forget cX3_forget 1 none ∈ gt := gt_of (List.mem_of_getElem? (i := 429) (by decide +kernel)) rfl
theorem g_150 : Cond.methodLink RX6 126 yX1_takeFrom ∈ gt := gt_of (List.mem_of_getElem? (i := 421) (by decide +kernel)) rfl
theorem g_151 : Cond.instanceMethod yX1_takeFrom ∈ gt := gt_of (List.mem_of_getElem? (i := 422) (by decide +kernel)) rfl
theorem g_152 : Cond.selects RX1 yX1_takeFrom yX1_takeFrom ∈ gt := gt_of (List.mem_of_getElem? (i := 423) (by decide +kernel)) rfl
theorem g_153 : Cond.code yX1_takeFrom cX1_takeFrom 2 none ∈ gt := gt_of (List.mem_of_getElem? (i := 424) (by decide +kernel)) rfl
theorem g_154 : Cond.constant RX6 122 (-1000100 : Int32) ∈ gt := gt_of (List.mem_of_getElem? (i := 420) (by decide +kernel)) rfl
theorem g_155 : Cond.fieldLink RX6 123 (TX4 3).1 (TX4 3).2.1 (TX4 3).2.2.1 ∈ gt := gt_of (List.mem_of_getElem? (i := 115) (by decide +kernel)) rfl
theorem g_156 : Cond.methodLink RX6 119 yX4_clear ∈ gt := gt_of (List.mem_of_getElem? (i := 416) (by decide +kernel)) rfl
theorem g_157 : Cond.instanceMethod yX4_clear ∈ gt := gt_of (List.mem_of_getElem? (i := 417) (by decide +kernel)) rfl
theorem g_158 : Cond.selects RX4 yX4_clear yX4_clear ∈ gt := gt_of (List.mem_of_getElem? (i := 418) (by decide +kernel)) rfl
theorem g_159 : Cond.code yX4_clear cX4_clear 1 none ∈ gt := gt_of (List.mem_of_getElem? (i := 419) (by decide +kernel)) rfl
theorem g_160 : Cond.methodLink RX6 115 yX4_readInto ∈ gt := gt_of (List.mem_of_getElem? (i := 358) (by decide +kernel)) rfl
theorem g_161 : Cond.instanceMethod yX4_readInto ∈ gt := gt_of (List.mem_of_getElem? (i := 359) (by decide +kernel)) rfl
theorem g_162 : Cond.selects RX4 yX4_readInto yX4_readInto ∈ gt := gt_of (List.mem_of_getElem? (i := 360) (by decide +kernel)) rfl
theorem g_163 : Cond.code yX4_readInto cX4_readInto 2 (some .boolean) ∈ gt := gt_of (List.mem_of_getElem? (i := 361) (by decide +kernel)) rfl
theorem g_164 : Cond.fieldLink RX6 135 (TX4 2).1 (TX4 2).2.1 (TX4 2).2.2.1 ∈ gt := gt_of (List.mem_of_getElem? (i := 113) (by decide +kernel)) rfl
theorem g_165 : Cond.fieldLink RX3 11 (TX3 2).1 (TX3 2).2.1 (TX3 2).2.2.1 ∈ gt := gt_of (List.mem_of_getElem? (i := 237) (by decide +kernel)) rfl
theorem g_166 : Cond.fieldLink RX3 18 (TX3 1).1 (TX3 1).2.1 (TX3 1).2.2.1 ∈ gt := gt_of (List.mem_of_getElem? (i := 236) (by decide +kernel)) rfl
theorem g_167 : Cond.methodLink RX3 25 yX1_takeFrom ∈ gt := gt_of (List.mem_of_getElem? (i := 447) (by decide +kernel)) rfl
theorem g_168 : Cond.methodLink RX1 85 yX1_change ∈ gt := gt_of (List.mem_of_getElem? (i := 467) (by decide +kernel)) rfl
theorem g_169 : Cond.instanceMethod yX1_change ∈ gt := gt_of (List.mem_of_getElem? (i := 468) (by decide +kernel)) rfl
theorem g_170 : Cond.selects RX1 yX1_change yX1_change ∈ gt := gt_of (List.mem_of_getElem? (i := 469) (by decide +kernel)) rfl
theorem g_171 : Cond.code yX1_change cX1_change 4 none ∈ gt := gt_of (List.mem_of_getElem? (i := 470) (by decide +kernel)) rfl
theorem g_172 : Cond.methodLink RX1 82 yX1_mix ∈ gt := gt_of (List.mem_of_getElem? (i := 463) (by decide +kernel)) rfl
theorem g_173 : Cond.instanceMethod yX1_mix ∈ gt := gt_of (List.mem_of_getElem? (i := 465) (by decide +kernel)) rfl
theorem g_174 : Cond.selects RX1 yX1_mix yX1_mix ∈ gt := gt_of (List.mem_of_getElem? (i := 12) (by decide +kernel)) rfl
theorem g_175 : Cond.code yX1_mix cX1_mix 3 none ∈ gt := gt_of (List.mem_of_getElem? (i := 466) (by decide +kernel)) rfl
theorem g_176 : Cond.methodLinkNest RX1 78 yX6_isSet RX6 ∈ nw := List.mem_filter.mpr ⟨(List.mem_of_getElem? (i := 460) (by decide +kernel)), rfl⟩
theorem g_177 : Cond.static yX6_isSet ∈ gt := gt_of (List.mem_of_getElem? (i := 461) (by decide +kernel)) rfl
theorem g_178 : Cond.code yX6_isSet cX6_isSet 2 (some .boolean) ∈ gt := gt_of (List.mem_of_getElem? (i := 462) (by decide +kernel)) rfl
theorem g_179 : Cond.methodLink RX1 102 yX1_place ∈ gt := gt_of (List.mem_of_getElem? (i := 480) (by decide +kernel)) rfl
theorem g_180 : Cond.instanceMethod yX1_place ∈ gt := gt_of (List.mem_of_getElem? (i := 481) (by decide +kernel)) rfl
theorem g_181 : Cond.selects RX1 yX1_place yX1_place ∈ gt := gt_of (List.mem_of_getElem? (i := 482) (by decide +kernel)) rfl
theorem g_182 : Cond.code yX1_place cX1_place 2 (some .int) ∈ gt := gt_of (List.mem_of_getElem? (i := 483) (by decide +kernel)) rfl
theorem g_183 : Cond.constant RJ6 265 (1431655765 : Int32) ∈ gt := gt_of (List.mem_of_getElem? (i := 487) (by decide +kernel)) rfl
theorem g_184 : Cond.constant RJ6 266 (858993459 : Int32) ∈ gt := gt_of (List.mem_of_getElem? (i := 488) (by decide +kernel)) rfl
theorem g_185 : Cond.constant RJ6 267 (252645135 : Int32) ∈ gt := gt_of (List.mem_of_getElem? (i := 489) (by decide +kernel)) rfl
theorem g_186 : Cond.methodLinkNest RX1 37 yX6_within RX6 ∈ nw := List.mem_filter.mpr ⟨(List.mem_of_getElem? (i := 494) (by decide +kernel)), rfl⟩
theorem g_187 : Cond.methodLink RX1 98 yX1_worth ∈ gt := gt_of (List.mem_of_getElem? (i := 490) (by decide +kernel)) rfl
theorem g_188 : Cond.instanceMethod yX1_worth ∈ gt := gt_of (List.mem_of_getElem? (i := 491) (by decide +kernel)) rfl
theorem g_189 : Cond.selects RX1 yX1_worth yX1_worth ∈ gt := gt_of (List.mem_of_getElem? (i := 492) (by decide +kernel)) rfl
theorem g_190 : Cond.code yX1_worth cX1_worth 3 (some .int) ∈ gt := gt_of (List.mem_of_getElem? (i := 493) (by decide +kernel)) rfl
theorem g_191 : Cond.methodLink RX1 93 yJ6_bitCount_0f7a4 ∈ gt := gt_of (List.mem_of_getElem? (i := 484) (by decide +kernel)) rfl
theorem g_192 : Cond.static yJ6_bitCount_0f7a4 ∈ gt := gt_of (List.mem_of_getElem? (i := 485) (by decide +kernel)) rfl
theorem g_193 : Cond.initialized RJ6 ∈ gt := gt_of (List.mem_of_getElem? (i := 73) (by decide +kernel)) rfl
theorem g_194 : Cond.code yJ6_bitCount_0f7a4 cJ6_bitCount_0f7a4 1 (some .int) ∈ gt := gt_of (List.mem_of_getElem? (i := 486) (by decide +kernel)) rfl
theorem g_195 : Cond.methodLink RX1 89 yX1_pinsIn ∈ gt := gt_of (List.mem_of_getElem? (i := 476) (by decide +kernel)) rfl
theorem g_196 : Cond.instanceMethod yX1_pinsIn ∈ gt := gt_of (List.mem_of_getElem? (i := 477) (by decide +kernel)) rfl
theorem g_197 : Cond.selects RX1 yX1_pinsIn yX1_pinsIn ∈ gt := gt_of (List.mem_of_getElem? (i := 478) (by decide +kernel)) rfl
theorem g_198 : Cond.code yX1_pinsIn cX1_pinsIn 4 (some .int) ∈ gt := gt_of (List.mem_of_getElem? (i := 479) (by decide +kernel)) rfl
theorem g_199 : Cond.constant RX1 67 (999999 : Int32) ∈ gt := gt_of (List.mem_of_getElem? (i := 471) (by decide +kernel)) rfl
theorem g_200 : Cond.methodLink RX1 72 Lib.Math.min.name ∈ gt := gt_of (List.mem_of_getElem? (i := 495) (by decide +kernel)) rfl
theorem g_201 : Cond.methodLink RX1 68 yX1_yieldOfAll ∈ gt := gt_of (List.mem_of_getElem? (i := 472) (by decide +kernel)) rfl
theorem g_202 : Cond.instanceMethod yX1_yieldOfAll ∈ gt := gt_of (List.mem_of_getElem? (i := 474) (by decide +kernel)) rfl
theorem g_203 : Cond.selects RX1 yX1_yieldOfAll yX1_yieldOfAll ∈ gt := gt_of (List.mem_of_getElem? (i := 13) (by decide +kernel)) rfl
theorem g_204 : Cond.code yX1_yieldOfAll cX1_yieldOfAll 4 (some .int) ∈ gt := gt_of (List.mem_of_getElem? (i := 475) (by decide +kernel)) rfl
theorem g_205 : Cond.methodLink RX1 63 yX1_open ∈ gt := gt_of (List.mem_of_getElem? (i := 456) (by decide +kernel)) rfl
theorem g_206 : Cond.instanceMethod yX1_open ∈ gt := gt_of (List.mem_of_getElem? (i := 457) (by decide +kernel)) rfl
theorem g_207 : Cond.selects RX1 yX1_open yX1_open ∈ gt := gt_of (List.mem_of_getElem? (i := 458) (by decide +kernel)) rfl
theorem g_208 : Cond.code yX1_open cX1_open 3 none ∈ gt := gt_of (List.mem_of_getElem? (i := 459) (by decide +kernel)) rfl
theorem g_209 : Cond.methodLink RX1 60 yX1_openAndWork ∈ gt := gt_of (List.mem_of_getElem? (i := 452) (by decide +kernel)) rfl
theorem g_210 : Cond.instanceMethod yX1_openAndWork ∈ gt := gt_of (List.mem_of_getElem? (i := 453) (by decide +kernel)) rfl
theorem g_211 : Cond.selects RX1 yX1_openAndWork yX1_openAndWork ∈ gt := gt_of (List.mem_of_getElem? (i := 454) (by decide +kernel)) rfl
theorem g_212 : Cond.code yX1_openAndWork cX1_openAndWork 1 none ∈ gt := gt_of (List.mem_of_getElem? (i := 455) (by decide +kernel)) rfl
theorem g_213 : Cond.fieldLink RX6 143 (TX1 3).1 (TX1 3).2.1 (TX1 3).2.2.1 ∈ gt := gt_of (List.mem_of_getElem? (i := 151) (by decide +kernel)) rfl
theorem g_214 : Cond.constant RX6 142 (-1000002 : Int32) ∈ gt := gt_of (List.mem_of_getElem? (i := 442) (by decide +kernel)) rfl
theorem g_215 : Cond.methodLink RX6 138 yX1_stands ∈ gt := gt_of (List.mem_of_getElem? (i := 438) (by decide +kernel)) rfl
theorem g_216 : Cond.instanceMethod yX1_stands ∈ gt := gt_of (List.mem_of_getElem? (i := 439) (by decide +kernel)) rfl
theorem g_217 : Cond.selects RX1 yX1_stands yX1_stands ∈ gt := gt_of (List.mem_of_getElem? (i := 440) (by decide +kernel)) rfl
theorem g_218 : Cond.code yX1_stands cX1_stands 1 (some .boolean) ∈ gt := gt_of (List.mem_of_getElem? (i := 441) (by decide +kernel)) rfl
theorem g_219 : Cond.methodLink RX6 149 yX1_turn ∈ gt := gt_of (List.mem_of_getElem? (i := 448) (by decide +kernel)) rfl
theorem g_220 : Cond.instanceMethod yX1_turn ∈ gt := gt_of (List.mem_of_getElem? (i := 449) (by decide +kernel)) rfl
theorem g_221 : Cond.selects RX1 yX1_turn yX1_turn ∈ gt := gt_of (List.mem_of_getElem? (i := 450) (by decide +kernel)) rfl
theorem g_222 : Cond.code yX1_turn cX1_turn 1 none ∈ gt := gt_of (List.mem_of_getElem? (i := 451) (by decide +kernel)) rfl
theorem g_223 : Cond.methodLink RX6 146 yX3_keep ∈ gt := gt_of (List.mem_of_getElem? (i := 443) (by decide +kernel)) rfl
theorem g_224 : Cond.instanceMethod yX3_keep ∈ gt := gt_of (List.mem_of_getElem? (i := 444) (by decide +kernel)) rfl
theorem g_225 : Cond.selects RX3 yX3_keep yX3_keep ∈ gt := gt_of (List.mem_of_getElem? (i := 445) (by decide +kernel)) rfl
theorem g_226 : Cond.code yX3_keep cX3_keep 2 none ∈ gt := gt_of (List.mem_of_getElem? (i := 446) (by decide +kernel)) rfl
theorem g_227 : Cond.fieldLink RX6 152 (TX1 5).1 (TX1 5).2.1 (TX1 5).2.2.1 ∈ gt := gt_of (List.mem_of_getElem? (i := 156) (by decide +kernel)) rfl
theorem g_228 : Cond.fieldLink RX6 162 (TX1 11).1 (TX1 11).2.1 (TX1 11).2.2.1 ∈ gt := gt_of (List.mem_of_getElem? (i := 180) (by decide +kernel)) rfl
theorem g_229 : Cond.methodLink RX6 159 yX1_hasCell ∈ gt := gt_of (List.mem_of_getElem? (i := 506) (by decide +kernel)) rfl
theorem g_230 : Cond.instanceMethod yX1_hasCell ∈ gt := gt_of (List.mem_of_getElem? (i := 507) (by decide +kernel)) rfl
theorem g_231 : Cond.selects RX1 yX1_hasCell yX1_hasCell ∈ gt := gt_of (List.mem_of_getElem? (i := 508) (by decide +kernel)) rfl
theorem g_232 : Cond.code yX1_hasCell cX1_hasCell 2 (some .boolean) ∈ gt := gt_of (List.mem_of_getElem? (i := 509) (by decide +kernel)) rfl
theorem g_233 : Cond.methodLink RX6 156 yX1_hasPin ∈ gt := gt_of (List.mem_of_getElem? (i := 502) (by decide +kernel)) rfl
theorem g_234 : Cond.instanceMethod yX1_hasPin ∈ gt := gt_of (List.mem_of_getElem? (i := 503) (by decide +kernel)) rfl
theorem g_235 : Cond.selects RX1 yX1_hasPin yX1_hasPin ∈ gt := gt_of (List.mem_of_getElem? (i := 504) (by decide +kernel)) rfl
theorem g_236 : Cond.code yX1_hasPin cX1_hasPin 2 (some .boolean) ∈ gt := gt_of (List.mem_of_getElem? (i := 505) (by decide +kernel)) rfl
theorem g_237 : Cond.methodLink RX6 165 yX1_change ∈ gt := gt_of (List.mem_of_getElem? (i := 514) (by decide +kernel)) rfl
theorem g_238 : Cond.fieldLink RX6 169 (TX1 6).1 (TX1 6).2.1 (TX1 6).2.2.1 ∈ gt := gt_of (List.mem_of_getElem? (i := 161) (by decide +kernel)) rfl
theorem g_239 : Cond.fieldLink RX6 172 (TX1 2).1 (TX1 2).2.1 (TX1 2).2.2.1 ∈ gt := gt_of (List.mem_of_getElem? (i := 148) (by decide +kernel)) rfl
theorem g_240 : Cond.fieldLink RX6 175 (TX3 0).1 (TX3 0).2.1 (TX3 0).2.2.1 ∈ gt := gt_of (List.mem_of_getElem? (i := 235) (by decide +kernel)) rfl
theorem g_241 : Cond.methodLink RX6 178 yX3_giveBack ∈ gt := gt_of (List.mem_of_getElem? (i := 527) (by decide +kernel)) rfl
theorem g_242 : Cond.instanceMethod yX3_giveBack ∈ gt := gt_of (List.mem_of_getElem? (i := 528) (by decide +kernel)) rfl
theorem g_243 : Cond.selects RX3 yX3_giveBack yX3_giveBack ∈ gt := gt_of (List.mem_of_getElem? (i := 529) (by decide +kernel)) rfl
theorem g_244 : Cond.code yX3_giveBack cX3_giveBack 2 none ∈ gt := gt_of (List.mem_of_getElem? (i := 530) (by decide +kernel)) rfl
theorem g_245 : Cond.fieldLink RX6 181 (TX1 7).1 (TX1 7).2.1 (TX1 7).2.2.1 ∈ gt := gt_of (List.mem_of_getElem? (i := 165) (by decide +kernel)) rfl
theorem g_246 : Cond.fieldLink RX6 184 (TX1 8).1 (TX1 8).2.1 (TX1 8).2.2.1 ∈ gt := gt_of (List.mem_of_getElem? (i := 170) (by decide +kernel)) rfl
theorem g_247 : Cond.fieldLink RX6 187 (TX1 9).1 (TX1 9).2.1 (TX1 9).2.2.1 ∈ gt := gt_of (List.mem_of_getElem? (i := 173) (by decide +kernel)) rfl
theorem g_248 : Cond.methodLink RX6 190 yX1_place ∈ gt := gt_of (List.mem_of_getElem? (i := 535) (by decide +kernel)) rfl
theorem g_249 : Cond.methodLink RX6 193 yX1_pinsIn ∈ gt := gt_of (List.mem_of_getElem? (i := 540) (by decide +kernel)) rfl
theorem g_250 : Cond.methodLink RX6 196 yX1_owner ∈ gt := gt_of (List.mem_of_getElem? (i := 541) (by decide +kernel)) rfl
theorem g_251 : Cond.fieldLink RX2 12 (TX2 0).1 (TX2 0).2.1 (TX2 0).2.2.1 ∈ gt := gt_of (List.mem_of_getElem? (i := 217) (by decide +kernel)) rfl
theorem g_252 : Cond.fieldLink RX2 18 (TX2 1).1 (TX2 1).2.1 (TX2 1).2.2.1 ∈ gt := gt_of (List.mem_of_getElem? (i := 219) (by decide +kernel)) rfl
theorem g_253 : Cond.methodLink RX2 21 yX1_takeFrom ∈ gt := gt_of (List.mem_of_getElem? (i := 550) (by decide +kernel)) rfl
theorem g_254 : Cond.methodLink RX2 25 yX1_turn ∈ gt := gt_of (List.mem_of_getElem? (i := 551) (by decide +kernel)) rfl
theorem g_255 : Cond.methodLink RX6 199 yX2_goOn ∈ gt := gt_of (List.mem_of_getElem? (i := 546) (by decide +kernel)) rfl
theorem g_256 : Cond.instanceMethod yX2_goOn ∈ gt := gt_of (List.mem_of_getElem? (i := 547) (by decide +kernel)) rfl
theorem g_257 : Cond.selects RX2 yX2_goOn yX2_goOn ∈ gt := gt_of (List.mem_of_getElem? (i := 548) (by decide +kernel)) rfl
theorem g_258 : Cond.initialized RX2 ∈ gt := gt_of (List.mem_of_getElem? (i := 68) (by decide +kernel)) rfl
theorem g_259 : Cond.code yX2_goOn cX2_goOn 3 none ∈ gt := gt_of (List.mem_of_getElem? (i := 549) (by decide +kernel)) rfl
theorem g_260 : Cond.fieldLink RX6 203 (TX1 4).1 (TX1 4).2.1 (TX1 4).2.2.1 ∈ gt := gt_of (List.mem_of_getElem? (i := 153) (by decide +kernel)) rfl
theorem g_261 : Cond.constant RX2 32 (-1000000 : Int32) ∈ gt := gt_of (List.mem_of_getElem? (i := 565) (by decide +kernel)) rfl
theorem g_262 : Cond.methodLink RX2 28 yX1_place ∈ gt := gt_of (List.mem_of_getElem? (i := 564) (by decide +kernel)) rfl
theorem g_263 : Cond.methodLink RX6 206 yX2_turnsTillIn ∈ gt := gt_of (List.mem_of_getElem? (i := 560) (by decide +kernel)) rfl
theorem g_264 : Cond.instanceMethod yX2_turnsTillIn ∈ gt := gt_of (List.mem_of_getElem? (i := 561) (by decide +kernel)) rfl
theorem g_265 : Cond.selects RX2 yX2_turnsTillIn yX2_turnsTillIn ∈ gt := gt_of (List.mem_of_getElem? (i := 562) (by decide +kernel)) rfl
theorem g_266 : Cond.code yX2_turnsTillIn cX2_turnsTillIn 4 (some .int) ∈ gt := gt_of (List.mem_of_getElem? (i := 563) (by decide +kernel)) rfl
theorem g_267 : Cond.fieldLink RX2 37 (TX1 1).1 (TX1 1).2.1 (TX1 1).2.2.1 ∈ gt := gt_of (List.mem_of_getElem? (i := 143) (by decide +kernel)) rfl
theorem g_268 : Cond.methodLink RX2 33 yX2_isSamePlaces ∈ gt := gt_of (List.mem_of_getElem? (i := 574) (by decide +kernel)) rfl
theorem g_269 : Cond.instanceMethod yX2_isSamePlaces ∈ gt := gt_of (List.mem_of_getElem? (i := 576) (by decide +kernel)) rfl
theorem g_270 : Cond.selects RX2 yX2_isSamePlaces yX2_isSamePlaces ∈ gt := gt_of (List.mem_of_getElem? (i := 14) (by decide +kernel)) rfl
theorem g_271 : Cond.code yX2_isSamePlaces cX2_isSamePlaces 2 (some .boolean) ∈ gt := gt_of (List.mem_of_getElem? (i := 577) (by decide +kernel)) rfl
theorem g_272 : Cond.methodLink RX6 210 yX2_turnsTillSame ∈ gt := gt_of (List.mem_of_getElem? (i := 570) (by decide +kernel)) rfl
theorem g_273 : Cond.instanceMethod yX2_turnsTillSame ∈ gt := gt_of (List.mem_of_getElem? (i := 571) (by decide +kernel)) rfl
theorem g_274 : Cond.selects RX2 yX2_turnsTillSame yX2_turnsTillSame ∈ gt := gt_of (List.mem_of_getElem? (i := 572) (by decide +kernel)) rfl
theorem g_275 : Cond.code yX2_turnsTillSame cX2_turnsTillSame 2 (some .int) ∈ gt := gt_of (List.mem_of_getElem? (i := 573) (by decide +kernel)) rfl
theorem g_276 : Cond.methodLink RX1 116 yX1_owner ∈ gt := gt_of (List.mem_of_getElem? (i := 599) (by decide +kernel)) rfl
theorem g_277 : Cond.methodLink RX1 112 yX1_hasPin ∈ gt := gt_of (List.mem_of_getElem? (i := 598) (by decide +kernel)) rfl
theorem g_278 : Cond.methodLink RX1 105 yX1_fillsHomes ∈ gt := gt_of (List.mem_of_getElem? (i := 590) (by decide +kernel)) rfl
theorem g_279 : Cond.instanceMethod yX1_fillsHomes ∈ gt := gt_of (List.mem_of_getElem? (i := 592) (by decide +kernel)) rfl
theorem g_280 : Cond.selects RX1 yX1_fillsHomes yX1_fillsHomes ∈ gt := gt_of (List.mem_of_getElem? (i := 15) (by decide +kernel)) rfl
theorem g_281 : Cond.code yX1_fillsHomes cX1_fillsHomes 4 (some .boolean) ∈ gt := gt_of (List.mem_of_getElem? (i := 593) (by decide +kernel)) rfl
theorem g_282 : Cond.methodLink RX1 109 yX1_ringOf ∈ gt := gt_of (List.mem_of_getElem? (i := 594) (by decide +kernel)) rfl
theorem g_283 : Cond.instanceMethod yX1_ringOf ∈ gt := gt_of (List.mem_of_getElem? (i := 596) (by decide +kernel)) rfl
theorem g_284 : Cond.selects RX1 yX1_ringOf yX1_ringOf ∈ gt := gt_of (List.mem_of_getElem? (i := 16) (by decide +kernel)) rfl
theorem g_285 : Cond.code yX1_ringOf cX1_ringOf 5 (some .int) ∈ gt := gt_of (List.mem_of_getElem? (i := 597) (by decide +kernel)) rfl
theorem g_286 : Cond.methodLink RX6 214 yX1_pinsAtHome ∈ gt := gt_of (List.mem_of_getElem? (i := 582) (by decide +kernel)) rfl
theorem g_287 : Cond.instanceMethod yX1_pinsAtHome ∈ gt := gt_of (List.mem_of_getElem? (i := 583) (by decide +kernel)) rfl
theorem g_288 : Cond.selects RX1 yX1_pinsAtHome yX1_pinsAtHome ∈ gt := gt_of (List.mem_of_getElem? (i := 584) (by decide +kernel)) rfl
theorem g_289 : Cond.code yX1_pinsAtHome cX1_pinsAtHome 3 (some .int) ∈ gt := gt_of (List.mem_of_getElem? (i := 585) (by decide +kernel)) rfl
theorem g_290 : Cond.methodLink RX6 217 yX1_fewestChanges ∈ gt := gt_of (List.mem_of_getElem? (i := 586) (by decide +kernel)) rfl
theorem g_291 : Cond.instanceMethod yX1_fewestChanges ∈ gt := gt_of (List.mem_of_getElem? (i := 587) (by decide +kernel)) rfl
theorem g_292 : Cond.selects RX1 yX1_fewestChanges yX1_fewestChanges ∈ gt := gt_of (List.mem_of_getElem? (i := 588) (by decide +kernel)) rfl
theorem g_293 : Cond.code yX1_fewestChanges cX1_fewestChanges 4 (some .int) ∈ gt := gt_of (List.mem_of_getElem? (i := 589) (by decide +kernel)) rfl
theorem g_294 : Cond.methodLinkNest RX2 51 yX6_isSet RX6 ∈ nw := List.mem_filter.mpr ⟨(List.mem_of_getElem? (i := 613) (by decide +kernel)), rfl⟩
theorem g_295 : Cond.fieldLink RX2 55 (TX1 8).1 (TX1 8).2.1 (TX1 8).2.2.1 ∈ gt := gt_of (List.mem_of_getElem? (i := 168) (by decide +kernel)) rfl
theorem g_296 : Cond.fieldLink RX2 59 (TX1 0).1 (TX1 0).2.1 (TX1 0).2.2.1 ∈ gt := gt_of (List.mem_of_getElem? (i := 140) (by decide +kernel)) rfl
theorem g_297 : Cond.fieldLink RX2 62 (TX1 6).1 (TX1 6).2.1 (TX1 6).2.2.1 ∈ gt := gt_of (List.mem_of_getElem? (i := 160) (by decide +kernel)) rfl
theorem g_298 : Cond.methodLink RX2 47 yX1_worth ∈ gt := gt_of (List.mem_of_getElem? (i := 618) (by decide +kernel)) rfl
theorem g_299 : Cond.methodLink RX2 44 yX2_busiest ∈ gt := gt_of (List.mem_of_getElem? (i := 614) (by decide +kernel)) rfl
theorem g_300 : Cond.instanceMethod yX2_busiest ∈ gt := gt_of (List.mem_of_getElem? (i := 616) (by decide +kernel)) rfl
theorem g_301 : Cond.selects RX2 yX2_busiest yX2_busiest ∈ gt := gt_of (List.mem_of_getElem? (i := 18) (by decide +kernel)) rfl
theorem g_302 : Cond.code yX2_busiest cX2_busiest 5 (some .int) ∈ gt := gt_of (List.mem_of_getElem? (i := 617) (by decide +kernel)) rfl
theorem g_303 : Cond.methodLink RX2 41 yX2_strongest ∈ gt := gt_of (List.mem_of_getElem? (i := 609) (by decide +kernel)) rfl
theorem g_304 : Cond.instanceMethod yX2_strongest ∈ gt := gt_of (List.mem_of_getElem? (i := 611) (by decide +kernel)) rfl
theorem g_305 : Cond.selects RX2 yX2_strongest yX2_strongest ∈ gt := gt_of (List.mem_of_getElem? (i := 17) (by decide +kernel)) rfl
theorem g_306 : Cond.code yX2_strongest cX2_strongest 5 (some .int) ∈ gt := gt_of (List.mem_of_getElem? (i := 612) (by decide +kernel)) rfl
theorem g_307 : Cond.methodLink RX2 65 yX2_mostWorth ∈ gt := gt_of (List.mem_of_getElem? (i := 623) (by decide +kernel)) rfl
theorem g_308 : Cond.instanceMethod yX2_mostWorth ∈ gt := gt_of (List.mem_of_getElem? (i := 606) (by decide +kernel)) rfl
theorem g_309 : Cond.selects RX2 yX2_mostWorth yX2_mostWorth ∈ gt := gt_of (List.mem_of_getElem? (i := 607) (by decide +kernel)) rfl
theorem g_310 : Cond.code yX2_mostWorth cX2_mostWorth 9 (some .int) ∈ gt := gt_of (List.mem_of_getElem? (i := 608) (by decide +kernel)) rfl
theorem g_311 : Cond.methodLink RX2 68 yX2_leastCell ∈ gt := gt_of (List.mem_of_getElem? (i := 624) (by decide +kernel)) rfl
theorem g_312 : Cond.instanceMethod yX2_leastCell ∈ gt := gt_of (List.mem_of_getElem? (i := 626) (by decide +kernel)) rfl
theorem g_313 : Cond.selects RX2 yX2_leastCell yX2_leastCell ∈ gt := gt_of (List.mem_of_getElem? (i := 19) (by decide +kernel)) rfl
theorem g_314 : Cond.code yX2_leastCell cX2_leastCell 6 (some .int) ∈ gt := gt_of (List.mem_of_getElem? (i := 627) (by decide +kernel)) rfl
theorem g_315 : Cond.fieldLink RX6 220 (TX1 0).1 (TX1 0).2.1 (TX1 0).2.2.1 ∈ gt := gt_of (List.mem_of_getElem? (i := 141) (by decide +kernel)) rfl
theorem g_316 : Cond.methodLink RX6 227 yX2_bestCell ∈ gt := gt_of (List.mem_of_getElem? (i := 619) (by decide +kernel)) rfl
theorem g_317 : Cond.instanceMethod yX2_bestCell ∈ gt := gt_of (List.mem_of_getElem? (i := 620) (by decide +kernel)) rfl
theorem g_318 : Cond.selects RX2 yX2_bestCell yX2_bestCell ∈ gt := gt_of (List.mem_of_getElem? (i := 621) (by decide +kernel)) rfl
theorem g_319 : Cond.code yX2_bestCell cX2_bestCell 6 (some .int) ∈ gt := gt_of (List.mem_of_getElem? (i := 622) (by decide +kernel)) rfl
theorem g_320 : Cond.methodLink RX6 224 yX2_mostWorth ∈ gt := gt_of (List.mem_of_getElem? (i := 605) (by decide +kernel)) rfl
theorem g_321 : Cond.constant RX6 223 (-1000000 : Int32) ∈ gt := gt_of (List.mem_of_getElem? (i := 604) (by decide +kernel)) rfl
theorem g_322 : Cond.fieldLink RX2 83 (TX1 10).1 (TX1 10).2.1 (TX1 10).2.2.1 ∈ gt := gt_of (List.mem_of_getElem? (i := 177) (by decide +kernel)) rfl
theorem g_323 : Cond.fieldLink RX2 86 (TX1 2).1 (TX1 2).2.1 (TX1 2).2.2.1 ∈ gt := gt_of (List.mem_of_getElem? (i := 149) (by decide +kernel)) rfl
theorem g_324 : Cond.fieldLink RX2 89 (TX1 7).1 (TX1 7).2.1 (TX1 7).2.2.1 ∈ gt := gt_of (List.mem_of_getElem? (i := 164) (by decide +kernel)) rfl
theorem g_325 : Cond.fieldLink RX2 92 (TX1 11).1 (TX1 11).2.1 (TX1 11).2.2.1 ∈ gt := gt_of (List.mem_of_getElem? (i := 183) (by decide +kernel)) rfl
theorem g_326 : Cond.methodLink RX2 95 yX1_open ∈ gt := gt_of (List.mem_of_getElem? (i := 648) (by decide +kernel)) rfl
theorem g_327 : Cond.methodLink RX2 72 yX2_mostSupposed ∈ gt := gt_of (List.mem_of_getElem? (i := 636) (by decide +kernel)) rfl
theorem g_328 : Cond.instanceMethod yX2_mostSupposed ∈ gt := gt_of (List.mem_of_getElem? (i := 638) (by decide +kernel)) rfl
theorem g_329 : Cond.selects RX2 yX2_mostSupposed yX2_mostSupposed ∈ gt := gt_of (List.mem_of_getElem? (i := 20) (by decide +kernel)) rfl
theorem g_330 : Cond.code yX2_mostSupposed cX2_mostSupposed 2 (some .int) ∈ gt := gt_of (List.mem_of_getElem? (i := 639) (by decide +kernel)) rfl
theorem g_331 : Cond.methodLink RX2 79 yX2_tells ∈ gt := gt_of (List.mem_of_getElem? (i := 644) (by decide +kernel)) rfl
theorem g_332 : Cond.instanceMethod yX2_tells ∈ gt := gt_of (List.mem_of_getElem? (i := 646) (by decide +kernel)) rfl
theorem g_333 : Cond.selects RX2 yX2_tells yX2_tells ∈ gt := gt_of (List.mem_of_getElem? (i := 22) (by decide +kernel)) rfl
theorem g_334 : Cond.code yX2_tells cX2_tells 6 (some .boolean) ∈ gt := gt_of (List.mem_of_getElem? (i := 647) (by decide +kernel)) rfl
theorem g_335 : Cond.methodLink RX2 75 yX2_suppose ∈ gt := gt_of (List.mem_of_getElem? (i := 640) (by decide +kernel)) rfl
theorem g_336 : Cond.instanceMethod yX2_suppose ∈ gt := gt_of (List.mem_of_getElem? (i := 642) (by decide +kernel)) rfl
theorem g_337 : Cond.selects RX2 yX2_suppose yX2_suppose ∈ gt := gt_of (List.mem_of_getElem? (i := 21) (by decide +kernel)) rfl
theorem g_338 : Cond.code yX2_suppose cX2_suppose 4 none ∈ gt := gt_of (List.mem_of_getElem? (i := 643) (by decide +kernel)) rfl
theorem g_339 : Cond.methodLink RX6 230 yX2_fitting ∈ gt := gt_of (List.mem_of_getElem? (i := 632) (by decide +kernel)) rfl
theorem g_340 : Cond.instanceMethod yX2_fitting ∈ gt := gt_of (List.mem_of_getElem? (i := 633) (by decide +kernel)) rfl
theorem g_341 : Cond.selects RX2 yX2_fitting yX2_fitting ∈ gt := gt_of (List.mem_of_getElem? (i := 634) (by decide +kernel)) rfl
theorem g_342 : Cond.code yX2_fitting cX2_fitting 9 (some .int) ∈ gt := gt_of (List.mem_of_getElem? (i := 635) (by decide +kernel)) rfl
theorem g_343 : Cond.methodLink RX2 121 yX1_pinsIn ∈ gt := gt_of (List.mem_of_getElem? (i := 665) (by decide +kernel)) rfl
theorem g_344 : Cond.fieldLink RX2 99 (TX1 5).1 (TX1 5).2.1 (TX1 5).2.2.1 ∈ gt := gt_of (List.mem_of_getElem? (i := 157) (by decide +kernel)) rfl
theorem g_345 : Cond.methodLink RX2 103 yX1_pinsInTray ∈ gt := gt_of (List.mem_of_getElem? (i := 657) (by decide +kernel)) rfl
theorem g_346 : Cond.instanceMethod yX1_pinsInTray ∈ gt := gt_of (List.mem_of_getElem? (i := 658) (by decide +kernel)) rfl
theorem g_347 : Cond.selects RX1 yX1_pinsInTray yX1_pinsInTray ∈ gt := gt_of (List.mem_of_getElem? (i := 659) (by decide +kernel)) rfl
theorem g_348 : Cond.code yX1_pinsInTray cX1_pinsInTray 3 (some .int) ∈ gt := gt_of (List.mem_of_getElem? (i := 660) (by decide +kernel)) rfl
theorem g_349 : Cond.methodLink RX2 115 yX2_power ∈ gt := gt_of (List.mem_of_getElem? (i := 667) (by decide +kernel)) rfl
theorem g_350 : Cond.static yX2_power ∈ gt := gt_of (List.mem_of_getElem? (i := 668) (by decide +kernel)) rfl
theorem g_351 : Cond.code yX2_power cX2_power 4 (some .int) ∈ gt := gt_of (List.mem_of_getElem? (i := 669) (by decide +kernel)) rfl
theorem g_352 : Cond.methodLink RX2 110 yJ6_bitCount_0f7a4 ∈ gt := gt_of (List.mem_of_getElem? (i := 666) (by decide +kernel)) rfl
theorem g_353 : Cond.methodLink RX2 107 yX2_isHeld ∈ gt := gt_of (List.mem_of_getElem? (i := 661) (by decide +kernel)) rfl
theorem g_354 : Cond.instanceMethod yX2_isHeld ∈ gt := gt_of (List.mem_of_getElem? (i := 663) (by decide +kernel)) rfl
theorem g_355 : Cond.selects RX2 yX2_isHeld yX2_isHeld ∈ gt := gt_of (List.mem_of_getElem? (i := 23) (by decide +kernel)) rfl
theorem g_356 : Cond.code yX2_isHeld cX2_isHeld 3 (some .boolean) ∈ gt := gt_of (List.mem_of_getElem? (i := 664) (by decide +kernel)) rfl
theorem g_357 : Cond.methodLink RX2 118 yX2_commonDivisor ∈ gt := gt_of (List.mem_of_getElem? (i := 670) (by decide +kernel)) rfl
theorem g_358 : Cond.static yX2_commonDivisor ∈ gt := gt_of (List.mem_of_getElem? (i := 671) (by decide +kernel)) rfl
theorem g_359 : Cond.code yX2_commonDivisor cX2_commonDivisor 6 (some .int) ∈ gt := gt_of (List.mem_of_getElem? (i := 672) (by decide +kernel)) rfl
theorem g_360 : Cond.methodLink RX6 234 yX2_heldWhenLeftOut ∈ gt := gt_of (List.mem_of_getElem? (i := 653) (by decide +kernel)) rfl
theorem g_361 : Cond.instanceMethod yX2_heldWhenLeftOut ∈ gt := gt_of (List.mem_of_getElem? (i := 654) (by decide +kernel)) rfl
theorem g_362 : Cond.selects RX2 yX2_heldWhenLeftOut yX2_heldWhenLeftOut ∈ gt := gt_of (List.mem_of_getElem? (i := 655) (by decide +kernel)) rfl
theorem g_363 : Cond.code yX2_heldWhenLeftOut cX2_heldWhenLeftOut 9 (some .int) ∈ gt := gt_of (List.mem_of_getElem? (i := 656) (by decide +kernel)) rfl
theorem g_364 : Cond.fieldLink RX2 124 (TX1 4).1 (TX1 4).2.1 (TX1 4).2.2.1 ∈ gt := gt_of (List.mem_of_getElem? (i := 154) (by decide +kernel)) rfl
theorem g_365 : Cond.constantLong RX2 127 (16807 : Int64) ∈ gt := gt_of (List.mem_of_getElem? (i := 682) (by decide +kernel)) rfl
theorem g_366 : Cond.constantLong RX2 129 (2147483647 : Int64) ∈ gt := gt_of (List.mem_of_getElem? (i := 683) (by decide +kernel)) rfl
theorem g_367 : Cond.constantLong RX2 131 (16 : Int64) ∈ gt := gt_of (List.mem_of_getElem? (i := 684) (by decide +kernel)) rfl
theorem g_368 : Cond.methodLink RX2 133 yX1_openAndWork ∈ gt := gt_of (List.mem_of_getElem? (i := 685) (by decide +kernel)) rfl
theorem g_369 : Cond.constant RX6 237 (999999 : Int32) ∈ gt := gt_of (List.mem_of_getElem? (i := 677) (by decide +kernel)) rfl
theorem g_370 : Cond.methodLink RX6 241 yJ6_bitCount_0f7a4 ∈ gt := gt_of (List.mem_of_getElem? (i := 686) (by decide +kernel)) rfl
theorem g_371 : Cond.methodLink RX6 238 yX2_drawYears ∈ gt := gt_of (List.mem_of_getElem? (i := 678) (by decide +kernel)) rfl
theorem g_372 : Cond.instanceMethod yX2_drawYears ∈ gt := gt_of (List.mem_of_getElem? (i := 679) (by decide +kernel)) rfl
theorem g_373 : Cond.selects RX2 yX2_drawYears yX2_drawYears ∈ gt := gt_of (List.mem_of_getElem? (i := 680) (by decide +kernel)) rfl
theorem g_374 : Cond.code yX2_drawYears cX2_drawYears 6 none ∈ gt := gt_of (List.mem_of_getElem? (i := 681) (by decide +kernel)) rfl
theorem g_375 : Cond.fieldLink RX6 53 (TX6 6).1 (TX6 6).2.1 (TX6 6).2.2.1 ∈ gt := gt_of (List.mem_of_getElem? (i := 269) (by decide +kernel)) rfl
theorem g_376 : Cond.fieldLink RX6 246 (TX1 10).1 (TX1 10).2.1 (TX1 10).2.2.1 ∈ gt := gt_of (List.mem_of_getElem? (i := 178) (by decide +kernel)) rfl
theorem g_377 : Cond.methodLink RX6 249 yX6_isA ∈ gt := gt_of (List.mem_of_getElem? (i := 703) (by decide +kernel)) rfl
theorem g_378 : Cond.static yX6_isA ∈ gt := gt_of (List.mem_of_getElem? (i := 704) (by decide +kernel)) rfl
theorem g_379 : Cond.code yX6_isA cX6_isA 2 (some .boolean) ∈ gt := gt_of (List.mem_of_getElem? (i := 705) (by decide +kernel)) rfl
theorem g_380 : Cond.fieldLink RX0 19 (TX0 1).1 (TX0 1).2.1 (TX0 1).2.2.1 ∈ gt := gt_of (List.mem_of_getElem? (i := 253) (by decide +kernel)) rfl
theorem g_381 : Cond.fieldLink RX0 9 (TX0 0).1 (TX0 0).2.1 (TX0 0).2.2.1 ∈ gt := gt_of (List.mem_of_getElem? (i := 251) (by decide +kernel)) rfl
theorem g_382 : Cond.fieldLink RX0 15 (TX0 2).1 (TX0 2).2.1 (TX0 2).2.2.1 ∈ gt := gt_of (List.mem_of_getElem? (i := 255) (by decide +kernel)) rfl
theorem g_383 : Cond.fieldLink RX0 55 (TX1 8).1 (TX1 8).2.1 (TX1 8).2.2.1 ∈ gt := gt_of (List.mem_of_getElem? (i := 167) (by decide +kernel)) rfl
theorem g_384 : Cond.methodLink RX0 39 yX0_leave ∈ gt := gt_of (List.mem_of_getElem? (i := 727) (by decide +kernel)) rfl
theorem g_385 : Cond.instanceMethod yX0_leave ∈ gt := gt_of (List.mem_of_getElem? (i := 729) (by decide +kernel)) rfl
theorem g_386 : Cond.selects RX0 yX0_leave yX0_leave ∈ gt := gt_of (List.mem_of_getElem? (i := 26) (by decide +kernel)) rfl
theorem g_387 : Cond.initialized RX0 ∈ gt := gt_of (List.mem_of_getElem? (i := 70) (by decide +kernel)) rfl
theorem g_388 : Cond.code yX0_leave cX0_leave 2 none ∈ gt := gt_of (List.mem_of_getElem? (i := 730) (by decide +kernel)) rfl
theorem g_389 : Cond.methodLink RX0 58 yX0_body10 ∈ gt := gt_of (List.mem_of_getElem? (i := 731) (by decide +kernel)) rfl
theorem g_390 : Cond.instanceMethod yX0_body10 ∈ gt := gt_of (List.mem_of_getElem? (i := 733) (by decide +kernel)) rfl
theorem g_391 : Cond.selects RX0 yX0_body10 yX0_body10 ∈ gt := gt_of (List.mem_of_getElem? (i := 27) (by decide +kernel)) rfl
theorem g_392 : Cond.code yX0_body10 cX0_body10 2 (some .int) ∈ gt := gt_of (List.mem_of_getElem? (i := 734) (by decide +kernel)) rfl
theorem g_393 : Cond.fieldLink RX0 23 (TX1 10).1 (TX1 10).2.1 (TX1 10).2.2.1 ∈ gt := gt_of (List.mem_of_getElem? (i := 175) (by decide +kernel)) rfl
theorem g_394 : Cond.methodLink RX0 43 yX0_body13 ∈ gt := gt_of (List.mem_of_getElem? (i := 723) (by decide +kernel)) rfl
theorem g_395 : Cond.instanceMethod yX0_body13 ∈ gt := gt_of (List.mem_of_getElem? (i := 725) (by decide +kernel)) rfl
theorem g_396 : Cond.selects RX0 yX0_body13 yX0_body13 ∈ gt := gt_of (List.mem_of_getElem? (i := 25) (by decide +kernel)) rfl
theorem g_397 : Cond.code yX0_body13 cX0_body13 2 (some .int) ∈ gt := gt_of (List.mem_of_getElem? (i := 726) (by decide +kernel)) rfl
theorem g_398 : Cond.fieldLink RX0 64 (TX1 11).1 (TX1 11).2.1 (TX1 11).2.2.1 ∈ gt := gt_of (List.mem_of_getElem? (i := 182) (by decide +kernel)) rfl
theorem g_399 : Cond.methodLink RX0 61 yX0_body20 ∈ gt := gt_of (List.mem_of_getElem? (i := 747) (by decide +kernel)) rfl
theorem g_400 : Cond.instanceMethod yX0_body20 ∈ gt := gt_of (List.mem_of_getElem? (i := 749) (by decide +kernel)) rfl
theorem g_401 : Cond.selects RX0 yX0_body20 yX0_body20 ∈ gt := gt_of (List.mem_of_getElem? (i := 31) (by decide +kernel)) rfl
theorem g_402 : Cond.code yX0_body20 cX0_body20 2 (some .int) ∈ gt := gt_of (List.mem_of_getElem? (i := 750) (by decide +kernel)) rfl
theorem g_403 : Cond.methodLink RX0 52 yX0_body21 ∈ gt := gt_of (List.mem_of_getElem? (i := 743) (by decide +kernel)) rfl
theorem g_404 : Cond.instanceMethod yX0_body21 ∈ gt := gt_of (List.mem_of_getElem? (i := 745) (by decide +kernel)) rfl
theorem g_405 : Cond.selects RX0 yX0_body21 yX0_body21 ∈ gt := gt_of (List.mem_of_getElem? (i := 30) (by decide +kernel)) rfl
theorem g_406 : Cond.code yX0_body21 cX0_body21 2 (some .int) ∈ gt := gt_of (List.mem_of_getElem? (i := 746) (by decide +kernel)) rfl
theorem g_407 : Cond.methodLink RX0 49 yX0_markOfAgent ∈ gt := gt_of (List.mem_of_getElem? (i := 739) (by decide +kernel)) rfl
theorem g_408 : Cond.instanceMethod yX0_markOfAgent ∈ gt := gt_of (List.mem_of_getElem? (i := 741) (by decide +kernel)) rfl
theorem g_409 : Cond.selects RX0 yX0_markOfAgent yX0_markOfAgent ∈ gt := gt_of (List.mem_of_getElem? (i := 29) (by decide +kernel)) rfl
theorem g_410 : Cond.code yX0_markOfAgent cX0_markOfAgent 2 (some .int) ∈ gt := gt_of (List.mem_of_getElem? (i := 742) (by decide +kernel)) rfl
theorem g_411 : Cond.methodLink RX0 36 yX0_body11 ∈ gt := gt_of (List.mem_of_getElem? (i := 735) (by decide +kernel)) rfl
theorem g_412 : Cond.instanceMethod yX0_body11 ∈ gt := gt_of (List.mem_of_getElem? (i := 737) (by decide +kernel)) rfl
theorem g_413 : Cond.selects RX0 yX0_body11 yX0_body11 ∈ gt := gt_of (List.mem_of_getElem? (i := 28) (by decide +kernel)) rfl
theorem g_414 : Cond.code yX0_body11 cX0_body11 3 (some .int) ∈ gt := gt_of (List.mem_of_getElem? (i := 738) (by decide +kernel)) rfl
theorem g_415 : Cond.methodLink RX0 32 yX0_sizeOfOldOne ∈ gt := gt_of (List.mem_of_getElem? (i := 719) (by decide +kernel)) rfl
theorem g_416 : Cond.instanceMethod yX0_sizeOfOldOne ∈ gt := gt_of (List.mem_of_getElem? (i := 721) (by decide +kernel)) rfl
theorem g_417 : Cond.selects RX0 yX0_sizeOfOldOne yX0_sizeOfOldOne ∈ gt := gt_of (List.mem_of_getElem? (i := 24) (by decide +kernel)) rfl
theorem g_418 : Cond.code yX0_sizeOfOldOne cX0_sizeOfOldOne 2 (some .int) ∈ gt := gt_of (List.mem_of_getElem? (i := 722) (by decide +kernel)) rfl
theorem g_419 : Cond.methodLinkNest RX0 28 yX6_isA RX6 ∈ nw := List.mem_filter.mpr ⟨(List.mem_of_getElem? (i := 718) (by decide +kernel)), rfl⟩
theorem g_420 : Cond.methodLink RX0 46 yX0_body23 ∈ gt := gt_of (List.mem_of_getElem? (i := 755) (by decide +kernel)) rfl
theorem g_421 : Cond.instanceMethod yX0_body23 ∈ gt := gt_of (List.mem_of_getElem? (i := 757) (by decide +kernel)) rfl
theorem g_422 : Cond.selects RX0 yX0_body23 yX0_body23 ∈ gt := gt_of (List.mem_of_getElem? (i := 32) (by decide +kernel)) rfl
theorem g_423 : Cond.code yX0_body23 cX0_body23 3 (some .int) ∈ gt := gt_of (List.mem_of_getElem? (i := 758) (by decide +kernel)) rfl
theorem g_424 : Cond.fieldLink RX6 49 (TX6 5).1 (TX6 5).2.1 (TX6 5).2.2.1 ∈ gt := gt_of (List.mem_of_getElem? (i := 268) (by decide +kernel)) rfl
theorem g_425 : Cond.methodLink RX6 259 yX0_markOf ∈ gt := gt_of (List.mem_of_getElem? (i := 751) (by decide +kernel)) rfl
theorem g_426 : Cond.instanceMethod yX0_markOf ∈ gt := gt_of (List.mem_of_getElem? (i := 752) (by decide +kernel)) rfl
theorem g_427 : Cond.selects RX0 yX0_markOf yX0_markOf ∈ gt := gt_of (List.mem_of_getElem? (i := 753) (by decide +kernel)) rfl
theorem g_428 : Cond.code yX0_markOf cX0_markOf 2 (some .int) ∈ gt := gt_of (List.mem_of_getElem? (i := 754) (by decide +kernel)) rfl
theorem g_429 : Cond.methodLink RX6 256 yX0_sizeOf ∈ gt := gt_of (List.mem_of_getElem? (i := 714) (by decide +kernel)) rfl
theorem g_430 : Cond.instanceMethod yX0_sizeOf ∈ gt := gt_of (List.mem_of_getElem? (i := 715) (by decide +kernel)) rfl
theorem g_431 : Cond.selects RX0 yX0_sizeOf yX0_sizeOf ∈ gt := gt_of (List.mem_of_getElem? (i := 716) (by decide +kernel)) rfl
theorem g_432 : Cond.code yX0_sizeOf cX0_sizeOf 2 (some .int) ∈ gt := gt_of (List.mem_of_getElem? (i := 717) (by decide +kernel)) rfl
theorem g_433 : Cond.methodLink RX6 253 yX0_begin ∈ gt := gt_of (List.mem_of_getElem? (i := 710) (by decide +kernel)) rfl
theorem g_434 : Cond.instanceMethod yX0_begin ∈ gt := gt_of (List.mem_of_getElem? (i := 711) (by decide +kernel)) rfl
theorem g_435 : Cond.selects RX0 yX0_begin yX0_begin ∈ gt := gt_of (List.mem_of_getElem? (i := 712) (by decide +kernel)) rfl
theorem g_436 : Cond.code yX0_begin cX0_begin 1 none ∈ gt := gt_of (List.mem_of_getElem? (i := 713) (by decide +kernel)) rfl
theorem g_437 : Cond.fieldLink RX6 262 (TX0 1).1 (TX0 1).2.1 (TX0 1).2.2.1 ∈ gt := gt_of (List.mem_of_getElem? (i := 254) (by decide +kernel)) rfl
theorem g_438 : Cond.fieldLink RX6 265 (TX0 0).1 (TX0 0).2.1 (TX0 0).2.2.1 ∈ gt := gt_of (List.mem_of_getElem? (i := 252) (by decide +kernel)) rfl
theorem g_439 : Cond.methodLink RX5 27 yX5_isMissing ∈ gt := gt_of (List.mem_of_getElem? (i := 771) (by decide +kernel)) rfl
theorem g_440 : Cond.methodLink RX6 268 yX5_present ∈ gt := gt_of (List.mem_of_getElem? (i := 767) (by decide +kernel)) rfl
theorem g_441 : Cond.instanceMethod yX5_present ∈ gt := gt_of (List.mem_of_getElem? (i := 768) (by decide +kernel)) rfl
theorem g_442 : Cond.selects RX5 yX5_present yX5_present ∈ gt := gt_of (List.mem_of_getElem? (i := 769) (by decide +kernel)) rfl
theorem g_443 : Cond.code yX5_present cX5_present 3 (some .int) ∈ gt := gt_of (List.mem_of_getElem? (i := 770) (by decide +kernel)) rfl
theorem g_444 : Cond.methodLink RX6 271 yX1_pinsInTray ∈ gt := gt_of (List.mem_of_getElem? (i := 772) (by decide +kernel)) rfl
theorem g_445 : Cond.fieldLink RX7 57 (TX7 4).1 (TX7 4).2.1 (TX7 4).2.2.1 ∈ gt := gt_of (List.mem_of_getElem? (i := 788) (by decide +kernel)) rfl
theorem g_446 : Cond.constant RX7 61 (-1000010 : Int32) ∈ gt := gt_of (List.mem_of_getElem? (i := 876) (by decide +kernel)) rfl
theorem g_447 : Cond.methodLink RX7 62 yX7_in ∈ gt := gt_of (List.mem_of_getElem? (i := 868) (by decide +kernel)) rfl
theorem g_448 : Cond.static yX7_in ∈ gt := gt_of (List.mem_of_getElem? (i := 869) (by decide +kernel)) rfl
theorem g_449 : Cond.initialized RX7 ∈ gt := gt_of (List.mem_of_getElem? (i := 71) (by decide +kernel)) rfl
theorem g_450 : Cond.code yX7_in cX7_in 3 (some .boolean) ∈ gt := gt_of (List.mem_of_getElem? (i := 870) (by decide +kernel)) rfl
theorem g_451 : Cond.fieldLink RX7 7 (TX7 0).1 (TX7 0).2.1 (TX7 0).2.2.1 ∈ gt := gt_of (List.mem_of_getElem? (i := 784) (by decide +kernel)) rfl
theorem g_452 : Cond.constant RX7 56 (-1000000 : Int32) ∈ gt := gt_of (List.mem_of_getElem? (i := 783) (by decide +kernel)) rfl
theorem g_453 : Cond.constant RX7 70 (-1000001 : Int32) ∈ gt := gt_of (List.mem_of_getElem? (i := 871) (by decide +kernel)) rfl
theorem g_454 : Cond.fieldLink RX7 13 (TX7 1).1 (TX7 1).2.1 (TX7 1).2.2.1 ∈ gt := gt_of (List.mem_of_getElem? (i := 785) (by decide +kernel)) rfl
theorem g_455 : Cond.methodLink RX7 71 yX7_found ∈ gt := gt_of (List.mem_of_getElem? (i := 872) (by decide +kernel)) rfl
theorem g_456 : Cond.instanceMethod yX7_found ∈ gt := gt_of (List.mem_of_getElem? (i := 874) (by decide +kernel)) rfl
theorem g_457 : Cond.selects RX7 yX7_found yX7_found ∈ gt := gt_of (List.mem_of_getElem? (i := 33) (by decide +kernel)) rfl
theorem g_458 : Cond.code yX7_found cX7_found 2 (some .int) ∈ gt := gt_of (List.mem_of_getElem? (i := 875) (by decide +kernel)) rfl
theorem g_459 : Cond.methodLink RX7 66 yX7_isRow ∈ gt := gt_of (List.mem_of_getElem? (i := 865) (by decide +kernel)) rfl
theorem g_460 : Cond.static yX7_isRow ∈ gt := gt_of (List.mem_of_getElem? (i := 866) (by decide +kernel)) rfl
theorem g_461 : Cond.code yX7_isRow cX7_isRow 1 (some .boolean) ∈ gt := gt_of (List.mem_of_getElem? (i := 867) (by decide +kernel)) rfl
theorem g_462 : Cond.fieldLink RX7 16 (TX7 2).1 (TX7 2).2.1 (TX7 2).2.2.1 ∈ gt := gt_of (List.mem_of_getElem? (i := 786) (by decide +kernel)) rfl
theorem g_463 : Cond.methodLink RX7 75 yX7_well ∈ gt := gt_of (List.mem_of_getElem? (i := 877) (by decide +kernel)) rfl
theorem g_464 : Cond.instanceMethod yX7_well ∈ gt := gt_of (List.mem_of_getElem? (i := 879) (by decide +kernel)) rfl
theorem g_465 : Cond.selects RX7 yX7_well yX7_well ∈ gt := gt_of (List.mem_of_getElem? (i := 34) (by decide +kernel)) rfl
theorem g_466 : Cond.code yX7_well cX7_well 2 (some .int) ∈ gt := gt_of (List.mem_of_getElem? (i := 880) (by decide +kernel)) rfl
theorem g_467 : Cond.methodLink RX7 81 yX7_cut ∈ gt := gt_of (List.mem_of_getElem? (i := 889) (by decide +kernel)) rfl
theorem g_468 : Cond.static yX7_cut ∈ gt := gt_of (List.mem_of_getElem? (i := 890) (by decide +kernel)) rfl
theorem g_469 : Cond.code yX7_cut cX7_cut 2 (some .int) ∈ gt := gt_of (List.mem_of_getElem? (i := 891) (by decide +kernel)) rfl
theorem g_470 : Cond.methodLink RX7 78 yX7_isMissing ∈ gt := gt_of (List.mem_of_getElem? (i := 885) (by decide +kernel)) rfl
theorem g_471 : Cond.instanceMethod yX7_isMissing ∈ gt := gt_of (List.mem_of_getElem? (i := 887) (by decide +kernel)) rfl
theorem g_472 : Cond.selects RX7 yX7_isMissing yX7_isMissing ∈ gt := gt_of (List.mem_of_getElem? (i := 35) (by decide +kernel)) rfl
theorem g_473 : Cond.code yX7_isMissing cX7_isMissing 2 (some .boolean) ∈ gt := gt_of (List.mem_of_getElem? (i := 888) (by decide +kernel)) rfl
theorem g_474 : Cond.methodLink RX7 85 yX7_isPart ∈ gt := gt_of (List.mem_of_getElem? (i := 896) (by decide +kernel)) rfl
theorem g_475 : Cond.instanceMethod yX7_isPart ∈ gt := gt_of (List.mem_of_getElem? (i := 898) (by decide +kernel)) rfl
theorem g_476 : Cond.selects RX7 yX7_isPart yX7_isPart ∈ gt := gt_of (List.mem_of_getElem? (i := 36) (by decide +kernel)) rfl
theorem g_477 : Cond.code yX7_isPart cX7_isPart 4 (some .boolean) ∈ gt := gt_of (List.mem_of_getElem? (i := 899) (by decide +kernel)) rfl
theorem g_478 : Cond.fieldLink RX7 19 (TX7 3).1 (TX7 3).2.1 (TX7 3).2.2.1 ∈ gt := gt_of (List.mem_of_getElem? (i := 787) (by decide +kernel)) rfl
theorem g_479 : Cond.fieldLink RX7 88 (TX7 6).1 (TX7 6).2.1 (TX7 6).2.2.1 ∈ gt := gt_of (List.mem_of_getElem? (i := 790) (by decide +kernel)) rfl
theorem g_480 : Cond.fieldLink RX7 22 (TX7 5).1 (TX7 5).2.1 (TX7 5).2.2.1 ∈ gt := gt_of (List.mem_of_getElem? (i := 789) (by decide +kernel)) rfl
theorem g_481 : Cond.constant RX7 91 (-1000003 : Int32) ∈ gt := gt_of (List.mem_of_getElem? (i := 908) (by decide +kernel)) rfl
theorem g_482 : Cond.fieldLink RX7 92 (TX7 9).1 (TX7 9).2.1 (TX7 9).2.2.1 ∈ gt := gt_of (List.mem_of_getElem? (i := 793) (by decide +kernel)) rfl
theorem g_483 : Cond.fieldLink RX7 95 (TX7 10).1 (TX7 10).2.1 (TX7 10).2.2.1 ∈ gt := gt_of (List.mem_of_getElem? (i := 794) (by decide +kernel)) rfl
theorem g_484 : Cond.fieldLink RX7 101 (TX7 12).1 (TX7 12).2.1 (TX7 12).2.2.1 ∈ gt := gt_of (List.mem_of_getElem? (i := 796) (by decide +kernel)) rfl
theorem g_485 : Cond.methodLink RX7 98 yX7_byteAt ∈ gt := gt_of (List.mem_of_getElem? (i := 917) (by decide +kernel)) rfl
theorem g_486 : Cond.instanceMethod yX7_byteAt ∈ gt := gt_of (List.mem_of_getElem? (i := 919) (by decide +kernel)) rfl
theorem g_487 : Cond.selects RX7 yX7_byteAt yX7_byteAt ∈ gt := gt_of (List.mem_of_getElem? (i := 38) (by decide +kernel)) rfl
theorem g_488 : Cond.code yX7_byteAt cX7_byteAt 2 (some .int) ∈ gt := gt_of (List.mem_of_getElem? (i := 920) (by decide +kernel)) rfl
theorem g_489 : Cond.fieldLink RX7 104 (TX7 11).1 (TX7 11).2.1 (TX7 11).2.2.1 ∈ gt := gt_of (List.mem_of_getElem? (i := 795) (by decide +kernel)) rfl
theorem g_490 : Cond.fieldLink RX7 107 (TX7 8).1 (TX7 8).2.1 (TX7 8).2.2.1 ∈ gt := gt_of (List.mem_of_getElem? (i := 792) (by decide +kernel)) rfl
theorem g_491 : Cond.methodLink RX7 117 yX7_advances ∈ gt := gt_of (List.mem_of_getElem? (i := 913) (by decide +kernel)) rfl
theorem g_492 : Cond.instanceMethod yX7_advances ∈ gt := gt_of (List.mem_of_getElem? (i := 915) (by decide +kernel)) rfl
theorem g_493 : Cond.selects RX7 yX7_advances yX7_advances ∈ gt := gt_of (List.mem_of_getElem? (i := 37) (by decide +kernel)) rfl
theorem g_494 : Cond.code yX7_advances cX7_advances 2 none ∈ gt := gt_of (List.mem_of_getElem? (i := 916) (by decide +kernel)) rfl
theorem g_495 : Cond.fieldLink RX7 114 (TX7 7).1 (TX7 7).2.1 (TX7 7).2.2.1 ∈ gt := gt_of (List.mem_of_getElem? (i := 791) (by decide +kernel)) rfl
theorem g_496 : Cond.methodLink RX7 110 yX7_isWell ∈ gt := gt_of (List.mem_of_getElem? (i := 925) (by decide +kernel)) rfl
theorem g_497 : Cond.instanceMethod yX7_isWell ∈ gt := gt_of (List.mem_of_getElem? (i := 927) (by decide +kernel)) rfl
theorem g_498 : Cond.selects RX7 yX7_isWell yX7_isWell ∈ gt := gt_of (List.mem_of_getElem? (i := 40) (by decide +kernel)) rfl
theorem g_499 : Cond.code yX7_isWell cX7_isWell 1 (some .boolean) ∈ gt := gt_of (List.mem_of_getElem? (i := 928) (by decide +kernel)) rfl
theorem g_500 : Cond.methodLink RX7 120 yX7_takes ∈ gt := gt_of (List.mem_of_getElem? (i := 921) (by decide +kernel)) rfl
theorem g_501 : Cond.instanceMethod yX7_takes ∈ gt := gt_of (List.mem_of_getElem? (i := 923) (by decide +kernel)) rfl
theorem g_502 : Cond.selects RX7 yX7_takes yX7_takes ∈ gt := gt_of (List.mem_of_getElem? (i := 39) (by decide +kernel)) rfl
theorem g_503 : Cond.code yX7_takes cX7_takes 4 (some .int) ∈ gt := gt_of (List.mem_of_getElem? (i := 924) (by decide +kernel)) rfl
theorem g_504 : Cond.methodLink RX7 124 yX7_figure ∈ gt := gt_of (List.mem_of_getElem? (i := 929) (by decide +kernel)) rfl
theorem g_505 : Cond.instanceMethod yX7_figure ∈ gt := gt_of (List.mem_of_getElem? (i := 931) (by decide +kernel)) rfl
theorem g_506 : Cond.selects RX7 yX7_figure yX7_figure ∈ gt := gt_of (List.mem_of_getElem? (i := 41) (by decide +kernel)) rfl
theorem g_507 : Cond.code yX7_figure cX7_figure 3 (some .int) ∈ gt := gt_of (List.mem_of_getElem? (i := 932) (by decide +kernel)) rfl
theorem g_508 : Cond.fieldLink RX7 28 (TX7 14).1 (TX7 14).2.1 (TX7 14).2.2.1 ∈ gt := gt_of (List.mem_of_getElem? (i := 798) (by decide +kernel)) rfl
theorem g_509 : Cond.methodLink RX7 127 yX7_kindOf ∈ gt := gt_of (List.mem_of_getElem? (i := 941) (by decide +kernel)) rfl
theorem g_510 : Cond.static yX7_kindOf ∈ gt := gt_of (List.mem_of_getElem? (i := 942) (by decide +kernel)) rfl
theorem g_511 : Cond.code yX7_kindOf cX7_kindOf 1 (some .int) ∈ gt := gt_of (List.mem_of_getElem? (i := 943) (by decide +kernel)) rfl
theorem g_512 : Cond.methodLink RX7 130 yX7_homeOf ∈ gt := gt_of (List.mem_of_getElem? (i := 948) (by decide +kernel)) rfl
theorem g_513 : Cond.static yX7_homeOf ∈ gt := gt_of (List.mem_of_getElem? (i := 949) (by decide +kernel)) rfl
theorem g_514 : Cond.code yX7_homeOf cX7_homeOf 3 (some .int) ∈ gt := gt_of (List.mem_of_getElem? (i := 950) (by decide +kernel)) rfl
theorem g_515 : Cond.methodLink RX7 138 yX7_follows ∈ gt := gt_of (List.mem_of_getElem? (i := 955) (by decide +kernel)) rfl
theorem g_516 : Cond.instanceMethod yX7_follows ∈ gt := gt_of (List.mem_of_getElem? (i := 957) (by decide +kernel)) rfl
theorem g_517 : Cond.selects RX7 yX7_follows yX7_follows ∈ gt := gt_of (List.mem_of_getElem? (i := 46) (by decide +kernel)) rfl
theorem g_518 : Cond.code yX7_follows cX7_follows 3 (some .int) ∈ gt := gt_of (List.mem_of_getElem? (i := 958) (by decide +kernel)) rfl
theorem g_519 : Cond.methodLink RX7 134 yX7_takes2 ∈ gt := gt_of (List.mem_of_getElem? (i := 951) (by decide +kernel)) rfl
theorem g_520 : Cond.instanceMethod yX7_takes2 ∈ gt := gt_of (List.mem_of_getElem? (i := 953) (by decide +kernel)) rfl
theorem g_521 : Cond.selects RX7 yX7_takes2 yX7_takes2 ∈ gt := gt_of (List.mem_of_getElem? (i := 45) (by decide +kernel)) rfl
theorem g_522 : Cond.code yX7_takes2 cX7_takes2 2 none ∈ gt := gt_of (List.mem_of_getElem? (i := 954) (by decide +kernel)) rfl
theorem g_523 : Cond.methodLink RX7 141 yX7_readsCell ∈ gt := gt_of (List.mem_of_getElem? (i := 933) (by decide +kernel)) rfl
theorem g_524 : Cond.instanceMethod yX7_readsCell ∈ gt := gt_of (List.mem_of_getElem? (i := 935) (by decide +kernel)) rfl
theorem g_525 : Cond.selects RX7 yX7_readsCell yX7_readsCell ∈ gt := gt_of (List.mem_of_getElem? (i := 42) (by decide +kernel)) rfl
theorem g_526 : Cond.code yX7_readsCell cX7_readsCell 3 none ∈ gt := gt_of (List.mem_of_getElem? (i := 936) (by decide +kernel)) rfl
theorem g_527 : Cond.methodLink RX7 144 yX7_must ∈ gt := gt_of (List.mem_of_getElem? (i := 937) (by decide +kernel)) rfl
theorem g_528 : Cond.instanceMethod yX7_must ∈ gt := gt_of (List.mem_of_getElem? (i := 939) (by decide +kernel)) rfl
theorem g_529 : Cond.selects RX7 yX7_must yX7_must ∈ gt := gt_of (List.mem_of_getElem? (i := 43) (by decide +kernel)) rfl
theorem g_530 : Cond.code yX7_must cX7_must 2 none ∈ gt := gt_of (List.mem_of_getElem? (i := 940) (by decide +kernel)) rfl
theorem g_531 : Cond.methodLink RX7 147 yX7_readsPin ∈ gt := gt_of (List.mem_of_getElem? (i := 944) (by decide +kernel)) rfl
theorem g_532 : Cond.instanceMethod yX7_readsPin ∈ gt := gt_of (List.mem_of_getElem? (i := 946) (by decide +kernel)) rfl
theorem g_533 : Cond.selects RX7 yX7_readsPin yX7_readsPin ∈ gt := gt_of (List.mem_of_getElem? (i := 44) (by decide +kernel)) rfl
theorem g_534 : Cond.code yX7_readsPin cX7_readsPin 6 none ∈ gt := gt_of (List.mem_of_getElem? (i := 947) (by decide +kernel)) rfl
theorem g_535 : Cond.fieldLink RX7 25 (TX7 13).1 (TX7 13).2.1 (TX7 13).2.2.1 ∈ gt := gt_of (List.mem_of_getElem? (i := 797) (by decide +kernel)) rfl
theorem g_536 : Cond.fieldLink RX7 155 (TX7 17).1 (TX7 17).2.1 (TX7 17).2.2.1 ∈ gt := gt_of (List.mem_of_getElem? (i := 801) (by decide +kernel)) rfl
theorem g_537 : Cond.methodLink RX7 151 yX7_copies ∈ gt := gt_of (List.mem_of_getElem? (i := 960) (by decide +kernel)) rfl
theorem g_538 : Cond.static yX7_copies ∈ gt := gt_of (List.mem_of_getElem? (i := 961) (by decide +kernel)) rfl
theorem g_539 : Cond.code yX7_copies cX7_copies 5 none ∈ gt := gt_of (List.mem_of_getElem? (i := 962) (by decide +kernel)) rfl
theorem g_540 : Cond.constant RX7 150 (-1000100 : Int32) ∈ gt := gt_of (List.mem_of_getElem? (i := 959) (by decide +kernel)) rfl
theorem g_541 : Cond.methodLink RX7 158 yX7_inCell ∈ gt := gt_of (List.mem_of_getElem? (i := 998) (by decide +kernel)) rfl
theorem g_542 : Cond.static yX7_inCell ∈ gt := gt_of (List.mem_of_getElem? (i := 999) (by decide +kernel)) rfl
theorem g_543 : Cond.code yX7_inCell cX7_inCell 4 (some .int) ∈ gt := gt_of (List.mem_of_getElem? (i := 1000) (by decide +kernel)) rfl
theorem g_544 : Cond.methodLink RX7 161 yX7_mixedWith ∈ gt := gt_of (List.mem_of_getElem? (i := 995) (by decide +kernel)) rfl
theorem g_545 : Cond.static yX7_mixedWith ∈ gt := gt_of (List.mem_of_getElem? (i := 996) (by decide +kernel)) rfl
theorem g_546 : Cond.code yX7_mixedWith cX7_mixedWith 3 (some .int) ∈ gt := gt_of (List.mem_of_getElem? (i := 997) (by decide +kernel)) rfl
theorem g_547 : Cond.methodLink RX7 168 yX7_putsBack ∈ gt := gt_of (List.mem_of_getElem? (i := 992) (by decide +kernel)) rfl
theorem g_548 : Cond.static yX7_putsBack ∈ gt := gt_of (List.mem_of_getElem? (i := 993) (by decide +kernel)) rfl
theorem g_549 : Cond.code yX7_putsBack cX7_putsBack 5 none ∈ gt := gt_of (List.mem_of_getElem? (i := 994) (by decide +kernel)) rfl
theorem g_550 : Cond.methodLink RX7 164 yX7_has ∈ gt := gt_of (List.mem_of_getElem? (i := 989) (by decide +kernel)) rfl
theorem g_551 : Cond.static yX7_has ∈ gt := gt_of (List.mem_of_getElem? (i := 990) (by decide +kernel)) rfl
theorem g_552 : Cond.code yX7_has cX7_has 2 (some .boolean) ∈ gt := gt_of (List.mem_of_getElem? (i := 991) (by decide +kernel)) rfl
theorem g_553 : Cond.methodLink RX7 172 yX7_ones ∈ gt := gt_of (List.mem_of_getElem? (i := 1001) (by decide +kernel)) rfl
theorem g_554 : Cond.static yX7_ones ∈ gt := gt_of (List.mem_of_getElem? (i := 1002) (by decide +kernel)) rfl
theorem g_555 : Cond.code yX7_ones cX7_ones 3 (some .int) ∈ gt := gt_of (List.mem_of_getElem? (i := 1003) (by decide +kernel)) rfl
theorem g_556 : Cond.constant RX7 175 (999999 : Int32) ∈ gt := gt_of (List.mem_of_getElem? (i := 1004) (by decide +kernel)) rfl
theorem g_557 : Cond.methodLink RX7 180 yX7_opens ∈ gt := gt_of (List.mem_of_getElem? (i := 986) (by decide +kernel)) rfl
theorem g_558 : Cond.static yX7_opens ∈ gt := gt_of (List.mem_of_getElem? (i := 987) (by decide +kernel)) rfl
theorem g_559 : Cond.code yX7_opens cX7_opens 4 none ∈ gt := gt_of (List.mem_of_getElem? (i := 988) (by decide +kernel)) rfl
theorem g_560 : Cond.methodLink RX7 176 yX7_closes ∈ gt := gt_of (List.mem_of_getElem? (i := 983) (by decide +kernel)) rfl
theorem g_561 : Cond.static yX7_closes ∈ gt := gt_of (List.mem_of_getElem? (i := 984) (by decide +kernel)) rfl
theorem g_562 : Cond.code yX7_closes cX7_closes 2 none ∈ gt := gt_of (List.mem_of_getElem? (i := 985) (by decide +kernel)) rfl
theorem g_563 : Cond.fieldLink RX7 34 (TX7 16).1 (TX7 16).2.1 (TX7 16).2.2.1 ∈ gt := gt_of (List.mem_of_getElem? (i := 800) (by decide +kernel)) rfl
theorem g_564 : Cond.constant RX7 186 (-1000002 : Int32) ∈ gt := gt_of (List.mem_of_getElem? (i := 975) (by decide +kernel)) rfl
theorem g_565 : Cond.methodLink RX7 183 yX7_isMap ∈ gt := gt_of (List.mem_of_getElem? (i := 971) (by decide +kernel)) rfl
theorem g_566 : Cond.instanceMethod yX7_isMap ∈ gt := gt_of (List.mem_of_getElem? (i := 973) (by decide +kernel)) rfl
theorem g_567 : Cond.selects RX7 yX7_isMap yX7_isMap ∈ gt := gt_of (List.mem_of_getElem? (i := 47) (by decide +kernel)) rfl
theorem g_568 : Cond.code yX7_isMap cX7_isMap 1 (some .boolean) ∈ gt := gt_of (List.mem_of_getElem? (i := 974) (by decide +kernel)) rfl
theorem g_569 : Cond.methodLink RX7 190 yX7_passes ∈ gt := gt_of (List.mem_of_getElem? (i := 980) (by decide +kernel)) rfl
theorem g_570 : Cond.static yX7_passes ∈ gt := gt_of (List.mem_of_getElem? (i := 981) (by decide +kernel)) rfl
theorem g_571 : Cond.code yX7_passes cX7_passes 1 none ∈ gt := gt_of (List.mem_of_getElem? (i := 982) (by decide +kernel)) rfl
theorem g_572 : Cond.methodLink RX7 187 yX7_notes ∈ gt := gt_of (List.mem_of_getElem? (i := 976) (by decide +kernel)) rfl
theorem g_573 : Cond.instanceMethod yX7_notes ∈ gt := gt_of (List.mem_of_getElem? (i := 978) (by decide +kernel)) rfl
theorem g_574 : Cond.selects RX7 yX7_notes yX7_notes ∈ gt := gt_of (List.mem_of_getElem? (i := 48) (by decide +kernel)) rfl
theorem g_575 : Cond.code yX7_notes cX7_notes 2 none ∈ gt := gt_of (List.mem_of_getElem? (i := 979) (by decide +kernel)) rfl
theorem g_576 : Cond.methodLink RX7 199 yX7_lays ∈ gt := gt_of (List.mem_of_getElem? (i := 1017) (by decide +kernel)) rfl
theorem g_577 : Cond.static yX7_lays ∈ gt := gt_of (List.mem_of_getElem? (i := 1018) (by decide +kernel)) rfl
theorem g_578 : Cond.code yX7_lays cX7_lays 3 none ∈ gt := gt_of (List.mem_of_getElem? (i := 1019) (by decide +kernel)) rfl
theorem g_579 : Cond.methodLink RX7 196 yX7_isCell ∈ gt := gt_of (List.mem_of_getElem? (i := 1013) (by decide +kernel)) rfl
theorem g_580 : Cond.instanceMethod yX7_isCell ∈ gt := gt_of (List.mem_of_getElem? (i := 1015) (by decide +kernel)) rfl
theorem g_581 : Cond.selects RX7 yX7_isCell yX7_isCell ∈ gt := gt_of (List.mem_of_getElem? (i := 50) (by decide +kernel)) rfl
theorem g_582 : Cond.code yX7_isCell cX7_isCell 2 (some .boolean) ∈ gt := gt_of (List.mem_of_getElem? (i := 1016) (by decide +kernel)) rfl
theorem g_583 : Cond.methodLink RX7 193 yX7_isPin ∈ gt := gt_of (List.mem_of_getElem? (i := 1009) (by decide +kernel)) rfl
theorem g_584 : Cond.instanceMethod yX7_isPin ∈ gt := gt_of (List.mem_of_getElem? (i := 1011) (by decide +kernel)) rfl
theorem g_585 : Cond.selects RX7 yX7_isPin yX7_isPin ∈ gt := gt_of (List.mem_of_getElem? (i := 49) (by decide +kernel)) rfl
theorem g_586 : Cond.code yX7_isPin cX7_isPin 2 (some .boolean) ∈ gt := gt_of (List.mem_of_getElem? (i := 1012) (by decide +kernel)) rfl
theorem g_587 : Cond.fieldLink RX7 31 (TX7 15).1 (TX7 15).2.1 (TX7 15).2.2.1 ∈ gt := gt_of (List.mem_of_getElem? (i := 799) (by decide +kernel)) rfl
theorem g_588 : Cond.methodLink RX7 203 yX7_goesOn ∈ gt := gt_of (List.mem_of_getElem? (i := 1048) (by decide +kernel)) rfl
theorem g_589 : Cond.instanceMethod yX7_goesOn ∈ gt := gt_of (List.mem_of_getElem? (i := 1050) (by decide +kernel)) rfl
theorem g_590 : Cond.selects RX7 yX7_goesOn yX7_goesOn ∈ gt := gt_of (List.mem_of_getElem? (i := 51) (by decide +kernel)) rfl
theorem g_591 : Cond.code yX7_goesOn cX7_goesOn 3 none ∈ gt := gt_of (List.mem_of_getElem? (i := 1051) (by decide +kernel)) rfl
theorem g_592 : Cond.methodLink RX7 211 yX7_changes ∈ gt := gt_of (List.mem_of_getElem? (i := 1071) (by decide +kernel)) rfl
theorem g_593 : Cond.instanceMethod yX7_changes ∈ gt := gt_of (List.mem_of_getElem? (i := 1073) (by decide +kernel)) rfl
theorem g_594 : Cond.selects RX7 yX7_changes yX7_changes ∈ gt := gt_of (List.mem_of_getElem? (i := 52) (by decide +kernel)) rfl
theorem g_595 : Cond.code yX7_changes cX7_changes 5 (some .int) ∈ gt := gt_of (List.mem_of_getElem? (i := 1074) (by decide +kernel)) rfl
theorem g_596 : Cond.methodLink RX7 207 yX7_rights ∈ gt := gt_of (List.mem_of_getElem? (i := 1068) (by decide +kernel)) rfl
theorem g_597 : Cond.static yX7_rights ∈ gt := gt_of (List.mem_of_getElem? (i := 1069) (by decide +kernel)) rfl
theorem g_598 : Cond.code yX7_rights cX7_rights 3 (some .int) ∈ gt := gt_of (List.mem_of_getElem? (i := 1070) (by decide +kernel)) rfl
theorem g_599 : Cond.fieldLink RX7 44 (TX7 20).1 (TX7 20).2.1 (TX7 20).2.2.1 ∈ gt := gt_of (List.mem_of_getElem? (i := 804) (by decide +kernel)) rfl
theorem g_600 : Cond.methodLink RX7 215 yX7_laysIn ∈ gt := gt_of (List.mem_of_getElem? (i := 1083) (by decide +kernel)) rfl
theorem g_601 : Cond.static yX7_laysIn ∈ gt := gt_of (List.mem_of_getElem? (i := 1084) (by decide +kernel)) rfl
theorem g_602 : Cond.code yX7_laysIn cX7_laysIn 4 none ∈ gt := gt_of (List.mem_of_getElem? (i := 1085) (by decide +kernel)) rfl
theorem g_603 : Cond.fieldLink RX7 47 (TX7 21).1 (TX7 21).2.1 (TX7 21).2.2.1 ∈ gt := gt_of (List.mem_of_getElem? (i := 805) (by decide +kernel)) rfl
theorem g_604 : Cond.methodLink RX7 218 yX7_mostOf ∈ gt := gt_of (List.mem_of_getElem? (i := 1079) (by decide +kernel)) rfl
theorem g_605 : Cond.instanceMethod yX7_mostOf ∈ gt := gt_of (List.mem_of_getElem? (i := 1081) (by decide +kernel)) rfl
theorem g_606 : Cond.selects RX7 yX7_mostOf yX7_mostOf ∈ gt := gt_of (List.mem_of_getElem? (i := 53) (by decide +kernel)) rfl
theorem g_607 : Cond.code yX7_mostOf cX7_mostOf 7 (some .int) ∈ gt := gt_of (List.mem_of_getElem? (i := 1082) (by decide +kernel)) rfl
theorem g_608 : Cond.fieldLink RX7 50 (TX7 22).1 (TX7 22).2.1 (TX7 22).2.2.1 ∈ gt := gt_of (List.mem_of_getElem? (i := 806) (by decide +kernel)) rfl
theorem g_609 : Cond.methodLink RX7 221 yX7_toOpening ∈ gt := gt_of (List.mem_of_getElem? (i := 1098) (by decide +kernel)) rfl
theorem g_610 : Cond.instanceMethod yX7_toOpening ∈ gt := gt_of (List.mem_of_getElem? (i := 1100) (by decide +kernel)) rfl
theorem g_611 : Cond.selects RX7 yX7_toOpening yX7_toOpening ∈ gt := gt_of (List.mem_of_getElem? (i := 56) (by decide +kernel)) rfl
theorem g_612 : Cond.code yX7_toOpening cX7_toOpening 1 none ∈ gt := gt_of (List.mem_of_getElem? (i := 1101) (by decide +kernel)) rfl
theorem g_613 : Cond.methodLink RX7 228 yX7_isSeen ∈ gt := gt_of (List.mem_of_getElem? (i := 1094) (by decide +kernel)) rfl
theorem g_614 : Cond.instanceMethod yX7_isSeen ∈ gt := gt_of (List.mem_of_getElem? (i := 1096) (by decide +kernel)) rfl
theorem g_615 : Cond.selects RX7 yX7_isSeen yX7_isSeen ∈ gt := gt_of (List.mem_of_getElem? (i := 55) (by decide +kernel)) rfl
theorem g_616 : Cond.code yX7_isSeen cX7_isSeen 6 (some .boolean) ∈ gt := gt_of (List.mem_of_getElem? (i := 1097) (by decide +kernel)) rfl
theorem g_617 : Cond.methodLink RX7 224 yX7_triesBy ∈ gt := gt_of (List.mem_of_getElem? (i := 1090) (by decide +kernel)) rfl
theorem g_618 : Cond.instanceMethod yX7_triesBy ∈ gt := gt_of (List.mem_of_getElem? (i := 1092) (by decide +kernel)) rfl
theorem g_619 : Cond.selects RX7 yX7_triesBy yX7_triesBy ∈ gt := gt_of (List.mem_of_getElem? (i := 54) (by decide +kernel)) rfl
theorem g_620 : Cond.code yX7_triesBy cX7_triesBy 5 none ∈ gt := gt_of (List.mem_of_getElem? (i := 1093) (by decide +kernel)) rfl
theorem g_621 : Cond.methodLink RX7 231 yX7_inTray ∈ gt := gt_of (List.mem_of_getElem? (i := 1106) (by decide +kernel)) rfl
theorem g_622 : Cond.static yX7_inTray ∈ gt := gt_of (List.mem_of_getElem? (i := 1107) (by decide +kernel)) rfl
theorem g_623 : Cond.code yX7_inTray cX7_inTray 1 (some .int) ∈ gt := gt_of (List.mem_of_getElem? (i := 1108) (by decide +kernel)) rfl
theorem g_624 : Cond.constantLong RX7 234 (16807 : Int64) ∈ gt := gt_of (List.mem_of_getElem? (i := 1113) (by decide +kernel)) rfl
theorem g_625 : Cond.constantLong RX7 236 (2147483647 : Int64) ∈ gt := gt_of (List.mem_of_getElem? (i := 1114) (by decide +kernel)) rfl
theorem g_626 : Cond.constantLong RX7 238 (16 : Int64) ∈ gt := gt_of (List.mem_of_getElem? (i := 1115) (by decide +kernel)) rfl
theorem g_627 : Cond.fieldLink RX7 37 (TX7 18).1 (TX7 18).2.1 (TX7 18).2.2.1 ∈ gt := gt_of (List.mem_of_getElem? (i := 802) (by decide +kernel)) rfl
theorem g_628 : Cond.fieldLink RX7 40 (TX7 19).1 (TX7 19).2.1 (TX7 19).2.2.1 ∈ gt := gt_of (List.mem_of_getElem? (i := 803) (by decide +kernel)) rfl
theorem g_629 : Cond.methodLink RX7 240 yX7_kindIn ∈ gt := gt_of (List.mem_of_getElem? (i := 1128) (by decide +kernel)) rfl
theorem g_630 : Cond.instanceMethod yX7_kindIn ∈ gt := gt_of (List.mem_of_getElem? (i := 1130) (by decide +kernel)) rfl
theorem g_631 : Cond.selects RX7 yX7_kindIn yX7_kindIn ∈ gt := gt_of (List.mem_of_getElem? (i := 57) (by decide +kernel)) rfl
theorem g_632 : Cond.code yX7_kindIn cX7_kindIn 2 (some .int) ∈ gt := gt_of (List.mem_of_getElem? (i := 1131) (by decide +kernel)) rfl
theorem g_633 : Cond.fieldLink RX7 243 (TX7 24).1 (TX7 24).2.1 (TX7 24).2.2.1 ∈ gt := gt_of (List.mem_of_getElem? (i := 808) (by decide +kernel)) rfl
theorem g_634 : Cond.fieldLink RX7 53 (TX7 23).1 (TX7 23).2.1 (TX7 23).2.2.1 ∈ gt := gt_of (List.mem_of_getElem? (i := 807) (by decide +kernel)) rfl
theorem g_635 : Cond.methodLink RX7 246 yX7_begins ∈ gt := gt_of (List.mem_of_getElem? (i := 1144) (by decide +kernel)) rfl
theorem g_636 : Cond.instanceMethod yX7_begins ∈ gt := gt_of (List.mem_of_getElem? (i := 1146) (by decide +kernel)) rfl
theorem g_637 : Cond.selects RX7 yX7_begins yX7_begins ∈ gt := gt_of (List.mem_of_getElem? (i := 59) (by decide +kernel)) rfl
theorem g_638 : Cond.code yX7_begins cX7_begins 2 none ∈ gt := gt_of (List.mem_of_getElem? (i := 1147) (by decide +kernel)) rfl
theorem g_639 : Cond.methodLink RX7 249 yX7_agentMark ∈ gt := gt_of (List.mem_of_getElem? (i := 1152) (by decide +kernel)) rfl
theorem g_640 : Cond.instanceMethod yX7_agentMark ∈ gt := gt_of (List.mem_of_getElem? (i := 1154) (by decide +kernel)) rfl
theorem g_641 : Cond.selects RX7 yX7_agentMark yX7_agentMark ∈ gt := gt_of (List.mem_of_getElem? (i := 61) (by decide +kernel)) rfl
theorem g_642 : Cond.code yX7_agentMark cX7_agentMark 4 (some .int) ∈ gt := gt_of (List.mem_of_getElem? (i := 1155) (by decide +kernel)) rfl
theorem g_643 : Cond.methodLink RX7 252 yX7_oldSize ∈ gt := gt_of (List.mem_of_getElem? (i := 1140) (by decide +kernel)) rfl
theorem g_644 : Cond.instanceMethod yX7_oldSize ∈ gt := gt_of (List.mem_of_getElem? (i := 1142) (by decide +kernel)) rfl
theorem g_645 : Cond.selects RX7 yX7_oldSize yX7_oldSize ∈ gt := gt_of (List.mem_of_getElem? (i := 58) (by decide +kernel)) rfl
theorem g_646 : Cond.code yX7_oldSize cX7_oldSize 4 (some .int) ∈ gt := gt_of (List.mem_of_getElem? (i := 1143) (by decide +kernel)) rfl
theorem g_647 : Cond.methodLink RX7 258 yX7_oldMark ∈ gt := gt_of (List.mem_of_getElem? (i := 1156) (by decide +kernel)) rfl
theorem g_648 : Cond.instanceMethod yX7_oldMark ∈ gt := gt_of (List.mem_of_getElem? (i := 1158) (by decide +kernel)) rfl
theorem g_649 : Cond.selects RX7 yX7_oldMark yX7_oldMark ∈ gt := gt_of (List.mem_of_getElem? (i := 62) (by decide +kernel)) rfl
theorem g_650 : Cond.code yX7_oldMark cX7_oldMark 2 (some .int) ∈ gt := gt_of (List.mem_of_getElem? (i := 1159) (by decide +kernel)) rfl
theorem g_651 : Cond.methodLink RX7 255 yX7_agentSize ∈ gt := gt_of (List.mem_of_getElem? (i := 1148) (by decide +kernel)) rfl
theorem g_652 : Cond.instanceMethod yX7_agentSize ∈ gt := gt_of (List.mem_of_getElem? (i := 1150) (by decide +kernel)) rfl
theorem g_653 : Cond.selects RX7 yX7_agentSize yX7_agentSize ∈ gt := gt_of (List.mem_of_getElem? (i := 60) (by decide +kernel)) rfl
theorem g_654 : Cond.code yX7_agentSize cX7_agentSize 4 (some .int) ∈ gt := gt_of (List.mem_of_getElem? (i := 1151) (by decide +kernel)) rfl
theorem wv_P_within : WS yX6_within cX6_within 3 (some .boolean) 3 := ⟨g_1, g_2, g_3, by decide +kernel⟩
theorem wv_P_foundNothing : WV yX6_foundNothing cX6_foundNothing 2 (some .int) 1 := ⟨g_12, g_13, g_2, g_14, by decide +kernel⟩
theorem wv_Rows_lay : WV yX5_lay cX5_lay 5 none 3 := ⟨g_16, g_17, g_18, g_19, by decide +kernel⟩
theorem wv_P_finding : WV yX6_finding cX6_finding 2 (some .int) 1 := ⟨g_21, g_22, g_2, g_23, by decide +kernel⟩
theorem wv_Rows_isRow : WV yX5_isRow cX5_isRow 2 (some .boolean) 1 := ⟨g_26, g_27, g_18, g_28, by decide +kernel⟩
theorem wv_Rows_put : WV yX5_put cX5_put 5 (some .int) 3 := ⟨g_30, g_31, g_18, g_32, by decide +kernel⟩
theorem wv_Rows_hasPlaces : WV yX5_hasPlaces cX5_hasPlaces 4 (some .boolean) 3 := ⟨g_34, g_35, g_18, g_36, by decide +kernel⟩
theorem wv_Rows_isMissing : WV yX5_isMissing cX5_isMissing 2 (some .boolean) 1 := ⟨g_38, g_39, g_18, g_40, by decide +kernel⟩
theorem wv_Rows_remove : WV yX5_remove cX5_remove 2 (some .int) 1 := ⟨g_45, g_46, g_18, g_47, by decide +kernel⟩
theorem wv_Reader_append : WV yX4_append cX4_append 2 (some .int) 1 := ⟨g_53, g_54, g_55, g_56, by decide +kernel⟩
theorem wv_Reader_faultAt : WV yX4_faultAt cX4_faultAt 3 (some .boolean) 2 := ⟨g_68, g_69, g_55, g_70, by decide +kernel⟩
theorem wv_Reader_isNext : WV yX4_isNext cX4_isNext 2 (some .boolean) 1 := ⟨g_72, g_73, g_55, g_74, by decide +kernel⟩
theorem wv_Reader_takes : WV yX4_takes cX4_takes 2 (some .boolean) 1 := ⟨g_79, g_80, g_55, g_81, by decide +kernel⟩
theorem wv_Reader_takesNumber : WV yX4_takesNumber cX4_takesNumber 5 (some .boolean) 2 := ⟨g_83, g_84, g_55, g_85, by decide +kernel⟩
theorem wv_Reader_readCell : WV yX4_readCell cX4_readCell 2 (some .boolean) 1 := ⟨g_89, g_90, g_55, g_91, by decide +kernel⟩
theorem wv_Board_owner : WV yX1_owner cX1_owner 3 (some .int) 1 := ⟨g_99, g_100, g_101, g_102, by decide +kernel⟩
theorem wv_Reader_kindOf : WS yX4_kindOf cX4_kindOf 1 (some .int) 1 := ⟨g_104, g_55, g_105, by decide +kernel⟩
theorem wv_Reader_readHome : WV yX4_readHome cX4_readHome 3 (some .boolean) 1 := ⟨g_110, g_111, g_55, g_112, by decide +kernel⟩
theorem wv_Reader_readPin : WV yX4_readPin cX4_readPin 4 (some .boolean) 1 := ⟨g_114, g_115, g_55, g_116, by decide +kernel⟩
theorem wv_Reader_readPins : WV yX4_readPins cX4_readPins 3 (some .boolean) 1 := ⟨g_118, g_119, g_55, g_120, by decide +kernel⟩
theorem wv_Reader_readCells : WV yX4_readCells cX4_readCells 3 (some .boolean) 1 := ⟨g_122, g_123, g_55, g_124, by decide +kernel⟩
theorem wv_Reader_readLaw : WV yX4_readLaw cX4_readLaw 2 (some .boolean) 1 := ⟨g_126, g_127, g_55, g_128, by decide +kernel⟩
theorem wv_Board_makeEmpty : WV yX1_makeEmpty cX1_makeEmpty 1 none 0 := ⟨g_130, g_131, g_101, g_132, by decide +kernel⟩
theorem wv_Past_forget : WV yX3_forget cX3_forget 1 none 0 := ⟨g_146, g_147, g_148, g_149, by decide +kernel⟩
theorem wv_Board_takeFrom : WV yX1_takeFrom cX1_takeFrom 2 none 1 := ⟨g_151, g_152, g_101, g_153, by decide +kernel⟩
theorem wv_Reader_clear : WV yX4_clear cX4_clear 1 none 0 := ⟨g_157, g_158, g_55, g_159, by decide +kernel⟩
theorem wv_Reader_readInto : WV yX4_readInto cX4_readInto 2 (some .boolean) 1 := ⟨g_161, g_162, g_55, g_163, by decide +kernel⟩
theorem wv_Board_change : WV yX1_change cX1_change 4 none 2 := ⟨g_169, g_170, g_101, g_171, by decide +kernel⟩
theorem wv_Board_mix : WV yX1_mix cX1_mix 3 none 1 := ⟨g_173, g_174, g_101, g_175, by decide +kernel⟩
theorem wv_P_isSet : WS yX6_isSet cX6_isSet 2 (some .boolean) 2 := ⟨g_177, g_2, g_178, by decide +kernel⟩
theorem wv_Board_place : WV yX1_place cX1_place 2 (some .int) 1 := ⟨g_180, g_181, g_101, g_182, by decide +kernel⟩
theorem wv_Board_worth : WV yX1_worth cX1_worth 3 (some .int) 2 := ⟨g_188, g_189, g_101, g_190, by decide +kernel⟩
theorem wv_I_bitCount : WS yJ6_bitCount_0f7a4 cJ6_bitCount_0f7a4 1 (some .int) 1 := ⟨g_192, g_193, g_194, by decide +kernel⟩
theorem wv_Board_pinsIn : WV yX1_pinsIn cX1_pinsIn 4 (some .int) 1 := ⟨g_196, g_197, g_101, g_198, by decide +kernel⟩
theorem wv_Board_yieldOfAll : WV yX1_yieldOfAll cX1_yieldOfAll 4 (some .int) 0 := ⟨g_202, g_203, g_101, g_204, by decide +kernel⟩
theorem wv_Board_open : WV yX1_open cX1_open 3 none 1 := ⟨g_206, g_207, g_101, g_208, by decide +kernel⟩
theorem wv_Board_openAndWork : WV yX1_openAndWork cX1_openAndWork 1 none 0 := ⟨g_210, g_211, g_101, g_212, by decide +kernel⟩
theorem wv_Board_stands : WV yX1_stands cX1_stands 1 (some .boolean) 0 := ⟨g_216, g_217, g_101, g_218, by decide +kernel⟩
theorem wv_Board_turn : WV yX1_turn cX1_turn 1 none 0 := ⟨g_220, g_221, g_101, g_222, by decide +kernel⟩
theorem wv_Past_keep : WV yX3_keep cX3_keep 2 none 1 := ⟨g_224, g_225, g_148, g_226, by decide +kernel⟩
theorem wv_Board_hasCell : WV yX1_hasCell cX1_hasCell 2 (some .boolean) 1 := ⟨g_230, g_231, g_101, g_232, by decide +kernel⟩
theorem wv_Board_hasPin : WV yX1_hasPin cX1_hasPin 2 (some .boolean) 1 := ⟨g_234, g_235, g_101, g_236, by decide +kernel⟩
theorem wv_Past_giveBack : WV yX3_giveBack cX3_giveBack 2 none 1 := ⟨g_242, g_243, g_148, g_244, by decide +kernel⟩
theorem wv_Fore_goOn : WV yX2_goOn cX2_goOn 3 none 1 := ⟨g_256, g_257, g_258, g_259, by decide +kernel⟩
theorem wv_Fore_turnsTillIn : WV yX2_turnsTillIn cX2_turnsTillIn 4 (some .int) 2 := ⟨g_264, g_265, g_258, g_266, by decide +kernel⟩
theorem wv_Fore_isSamePlaces : WV yX2_isSamePlaces cX2_isSamePlaces 2 (some .boolean) 0 := ⟨g_269, g_270, g_258, g_271, by decide +kernel⟩
theorem wv_Fore_turnsTillSame : WV yX2_turnsTillSame cX2_turnsTillSame 2 (some .int) 0 := ⟨g_273, g_274, g_258, g_275, by decide +kernel⟩
theorem wv_Board_fillsHomes : WV yX1_fillsHomes cX1_fillsHomes 4 (some .boolean) 0 := ⟨g_279, g_280, g_101, g_281, by decide +kernel⟩
theorem wv_Board_ringOf : WV yX1_ringOf cX1_ringOf 5 (some .int) 1 := ⟨g_283, g_284, g_101, g_285, by decide +kernel⟩
theorem wv_Board_pinsAtHome : WV yX1_pinsAtHome cX1_pinsAtHome 3 (some .int) 0 := ⟨g_287, g_288, g_101, g_289, by decide +kernel⟩
theorem wv_Board_fewestChanges : WV yX1_fewestChanges cX1_fewestChanges 4 (some .int) 0 := ⟨g_291, g_292, g_101, g_293, by decide +kernel⟩
theorem wv_Fore_busiest : WV yX2_busiest cX2_busiest 5 (some .int) 1 := ⟨g_300, g_301, g_258, g_302, by decide +kernel⟩
theorem wv_Fore_strongest : WV yX2_strongest cX2_strongest 5 (some .int) 1 := ⟨g_304, g_305, g_258, g_306, by decide +kernel⟩
theorem wv_Fore_mostWorth : WV yX2_mostWorth cX2_mostWorth 9 (some .int) 2 := ⟨g_308, g_309, g_258, g_310, by decide +kernel⟩
theorem wv_Fore_leastCell : WV yX2_leastCell cX2_leastCell 6 (some .int) 3 := ⟨g_312, g_313, g_258, g_314, by decide +kernel⟩
theorem wv_Fore_bestCell : WV yX2_bestCell cX2_bestCell 6 (some .int) 1 := ⟨g_317, g_318, g_258, g_319, by decide +kernel⟩
theorem wv_Fore_mostSupposed : WV yX2_mostSupposed cX2_mostSupposed 2 (some .int) 1 := ⟨g_328, g_329, g_258, g_330, by decide +kernel⟩
theorem wv_Fore_tells : WV yX2_tells cX2_tells 6 (some .boolean) 4 := ⟨g_332, g_333, g_258, g_334, by decide +kernel⟩
theorem wv_Fore_suppose : WV yX2_suppose cX2_suppose 4 none 3 := ⟨g_336, g_337, g_258, g_338, by decide +kernel⟩
theorem wv_Fore_fitting : WV yX2_fitting cX2_fitting 9 (some .int) 5 := ⟨g_340, g_341, g_258, g_342, by decide +kernel⟩
theorem wv_Board_pinsInTray : WV yX1_pinsInTray cX1_pinsInTray 3 (some .int) 0 := ⟨g_346, g_347, g_101, g_348, by decide +kernel⟩
theorem wv_Fore_power : WS yX2_power cX2_power 4 (some .int) 2 := ⟨g_350, g_258, g_351, by decide +kernel⟩
theorem wv_Fore_isHeld : WV yX2_isHeld cX2_isHeld 3 (some .boolean) 2 := ⟨g_354, g_355, g_258, g_356, by decide +kernel⟩
theorem wv_Fore_commonDivisor : WS yX2_commonDivisor cX2_commonDivisor 6 (some .int) 2 := ⟨g_358, g_258, g_359, by decide +kernel⟩
theorem wv_Fore_heldWhenLeftOut : WV yX2_heldWhenLeftOut cX2_heldWhenLeftOut 9 (some .int) 3 := ⟨g_361, g_362, g_258, g_363, by decide +kernel⟩
theorem wv_Fore_drawYears : WV yX2_drawYears cX2_drawYears 6 none 2 := ⟨g_372, g_373, g_258, g_374, by decide +kernel⟩
theorem wv_P_isA : WS yX6_isA cX6_isA 2 (some .boolean) 2 := ⟨g_378, g_2, g_379, by decide +kernel⟩
theorem wv_Asks_leave : WV yX0_leave cX0_leave 2 none 1 := ⟨g_385, g_386, g_387, g_388, by decide +kernel⟩
theorem wv_Asks_body10 : WV yX0_body10 cX0_body10 2 (some .int) 1 := ⟨g_390, g_391, g_387, g_392, by decide +kernel⟩
theorem wv_Asks_body13 : WV yX0_body13 cX0_body13 2 (some .int) 1 := ⟨g_395, g_396, g_387, g_397, by decide +kernel⟩
theorem wv_Asks_body20 : WV yX0_body20 cX0_body20 2 (some .int) 1 := ⟨g_400, g_401, g_387, g_402, by decide +kernel⟩
theorem wv_Asks_body21 : WV yX0_body21 cX0_body21 2 (some .int) 1 := ⟨g_404, g_405, g_387, g_406, by decide +kernel⟩
theorem wv_Asks_markOfAgent : WV yX0_markOfAgent cX0_markOfAgent 2 (some .int) 1 := ⟨g_408, g_409, g_387, g_410, by decide +kernel⟩
theorem wv_Asks_body11 : WV yX0_body11 cX0_body11 3 (some .int) 1 := ⟨g_412, g_413, g_387, g_414, by decide +kernel⟩
theorem wv_Asks_sizeOfOldOne : WV yX0_sizeOfOldOne cX0_sizeOfOldOne 2 (some .int) 1 := ⟨g_416, g_417, g_387, g_418, by decide +kernel⟩
theorem wv_Asks_body23 : WV yX0_body23 cX0_body23 3 (some .int) 1 := ⟨g_421, g_422, g_387, g_423, by decide +kernel⟩
theorem wv_Asks_markOf : WV yX0_markOf cX0_markOf 2 (some .int) 1 := ⟨g_426, g_427, g_387, g_428, by decide +kernel⟩
theorem wv_Asks_sizeOf : WV yX0_sizeOf cX0_sizeOf 2 (some .int) 1 := ⟨g_430, g_431, g_387, g_432, by decide +kernel⟩
theorem wv_Asks_begin : WV yX0_begin cX0_begin 1 none 0 := ⟨g_434, g_435, g_387, g_436, by decide +kernel⟩
theorem wv_Rows_present : WV yX5_present cX5_present 3 (some .int) 0 := ⟨g_441, g_442, g_18, g_443, by decide +kernel⟩
theorem wv_M_in : WS yX7_in cX7_in 3 (some .boolean) 3 := ⟨g_448, g_449, g_450, by decide +kernel⟩
theorem wv_M_found : WV yX7_found cX7_found 2 (some .int) 1 := ⟨g_456, g_457, g_449, g_458, by decide +kernel⟩
theorem wv_M_isRow : WS yX7_isRow cX7_isRow 1 (some .boolean) 1 := ⟨g_460, g_449, g_461, by decide +kernel⟩
theorem wv_M_well : WV yX7_well cX7_well 2 (some .int) 1 := ⟨g_464, g_465, g_449, g_466, by decide +kernel⟩
theorem wv_M_cut : WS yX7_cut cX7_cut 2 (some .int) 2 := ⟨g_468, g_449, g_469, by decide +kernel⟩
theorem wv_M_isMissing : WV yX7_isMissing cX7_isMissing 2 (some .boolean) 1 := ⟨g_471, g_472, g_449, g_473, by decide +kernel⟩
theorem wv_M_isPart : WV yX7_isPart cX7_isPart 4 (some .boolean) 3 := ⟨g_475, g_476, g_449, g_477, by decide +kernel⟩
theorem wv_M_byteAt : WV yX7_byteAt cX7_byteAt 2 (some .int) 1 := ⟨g_486, g_487, g_449, g_488, by decide +kernel⟩
theorem wv_M_advances : WV yX7_advances cX7_advances 2 none 0 := ⟨g_492, g_493, g_449, g_494, by decide +kernel⟩
theorem wv_M_isWell : WV yX7_isWell cX7_isWell 1 (some .boolean) 0 := ⟨g_497, g_498, g_449, g_499, by decide +kernel⟩
theorem wv_M_takes : WV yX7_takes cX7_takes 4 (some .int) 2 := ⟨g_501, g_502, g_449, g_503, by decide +kernel⟩
theorem wv_M_figure : WV yX7_figure cX7_figure 3 (some .int) 2 := ⟨g_505, g_506, g_449, g_507, by decide +kernel⟩
theorem wv_M_kindOf : WS yX7_kindOf cX7_kindOf 1 (some .int) 1 := ⟨g_510, g_449, g_511, by decide +kernel⟩
theorem wv_M_homeOf : WS yX7_homeOf cX7_homeOf 3 (some .int) 2 := ⟨g_513, g_449, g_514, by decide +kernel⟩
theorem wv_M_follows : WV yX7_follows cX7_follows 3 (some .int) 2 := ⟨g_516, g_517, g_449, g_518, by decide +kernel⟩
theorem wv_M_takes2 : WV yX7_takes2 cX7_takes2 2 none 1 := ⟨g_520, g_521, g_449, g_522, by decide +kernel⟩
theorem wv_M_readsCell : WV yX7_readsCell cX7_readsCell 3 none 0 := ⟨g_524, g_525, g_449, g_526, by decide +kernel⟩
theorem wv_M_must : WV yX7_must cX7_must 2 none 1 := ⟨g_528, g_529, g_449, g_530, by decide +kernel⟩
theorem wv_M_readsPin : WV yX7_readsPin cX7_readsPin 6 none 0 := ⟨g_532, g_533, g_449, g_534, by decide +kernel⟩
theorem wv_M_copies : WS yX7_copies cX7_copies 5 none 4 := ⟨g_538, g_449, g_539, by decide +kernel⟩
theorem wv_M_inCell : WS yX7_inCell cX7_inCell 4 (some .int) 2 := ⟨g_542, g_449, g_543, by decide +kernel⟩
theorem wv_M_mixedWith : WS yX7_mixedWith cX7_mixedWith 3 (some .int) 2 := ⟨g_545, g_449, g_546, by decide +kernel⟩
theorem wv_M_putsBack : WS yX7_putsBack cX7_putsBack 5 none 2 := ⟨g_548, g_449, g_549, by decide +kernel⟩
theorem wv_M_has : WS yX7_has cX7_has 2 (some .boolean) 2 := ⟨g_551, g_449, g_552, by decide +kernel⟩
theorem wv_M_ones : WS yX7_ones cX7_ones 3 (some .int) 1 := ⟨g_554, g_449, g_555, by decide +kernel⟩
theorem wv_M_opens : WS yX7_opens cX7_opens 4 none 2 := ⟨g_558, g_449, g_559, by decide +kernel⟩
theorem wv_M_closes : WS yX7_closes cX7_closes 2 none 1 := ⟨g_561, g_449, g_562, by decide +kernel⟩
theorem wv_M_isMap : WV yX7_isMap cX7_isMap 1 (some .boolean) 0 := ⟨g_566, g_567, g_449, g_568, by decide +kernel⟩
theorem wv_M_passes : WS yX7_passes cX7_passes 1 none 1 := ⟨g_570, g_449, g_571, by decide +kernel⟩
theorem wv_M_notes : WV yX7_notes cX7_notes 2 none 0 := ⟨g_573, g_574, g_449, g_575, by decide +kernel⟩
theorem wv_M_lays : WS yX7_lays cX7_lays 3 none 3 := ⟨g_577, g_449, g_578, by decide +kernel⟩
theorem wv_M_isCell : WV yX7_isCell cX7_isCell 2 (some .boolean) 1 := ⟨g_580, g_581, g_449, g_582, by decide +kernel⟩
theorem wv_M_isPin : WV yX7_isPin cX7_isPin 2 (some .boolean) 1 := ⟨g_584, g_585, g_449, g_586, by decide +kernel⟩
theorem wv_M_goesOn : WV yX7_goesOn cX7_goesOn 3 none 1 := ⟨g_589, g_590, g_449, g_591, by decide +kernel⟩
theorem wv_M_changes : WV yX7_changes cX7_changes 5 (some .int) 0 := ⟨g_593, g_594, g_449, g_595, by decide +kernel⟩
theorem wv_M_rights : WS yX7_rights cX7_rights 3 (some .int) 1 := ⟨g_597, g_449, g_598, by decide +kernel⟩
theorem wv_M_laysIn : WS yX7_laysIn cX7_laysIn 4 none 3 := ⟨g_601, g_449, g_602, by decide +kernel⟩
theorem wv_M_mostOf : WV yX7_mostOf cX7_mostOf 7 (some .int) 2 := ⟨g_605, g_606, g_449, g_607, by decide +kernel⟩
theorem wv_M_toOpening : WV yX7_toOpening cX7_toOpening 1 none 0 := ⟨g_610, g_611, g_449, g_612, by decide +kernel⟩
theorem wv_M_isSeen : WV yX7_isSeen cX7_isSeen 6 (some .boolean) 3 := ⟨g_614, g_615, g_449, g_616, by decide +kernel⟩
theorem wv_M_triesBy : WV yX7_triesBy cX7_triesBy 5 none 3 := ⟨g_618, g_619, g_449, g_620, by decide +kernel⟩
theorem wv_M_inTray : WS yX7_inTray cX7_inTray 1 (some .int) 1 := ⟨g_622, g_449, g_623, by decide +kernel⟩
theorem wv_M_kindIn : WV yX7_kindIn cX7_kindIn 2 (some .int) 1 := ⟨g_630, g_631, g_449, g_632, by decide +kernel⟩
theorem wv_M_begins : WV yX7_begins cX7_begins 2 none 1 := ⟨g_636, g_637, g_449, g_638, by decide +kernel⟩
theorem wv_M_agentMark : WV yX7_agentMark cX7_agentMark 4 (some .int) 1 := ⟨g_640, g_641, g_449, g_642, by decide +kernel⟩
theorem wv_M_oldSize : WV yX7_oldSize cX7_oldSize 4 (some .int) 1 := ⟨g_644, g_645, g_449, g_646, by decide +kernel⟩
theorem wv_M_oldMark : WV yX7_oldMark cX7_oldMark 2 (some .int) 1 := ⟨g_648, g_649, g_449, g_650, by decide +kernel⟩
theorem wv_M_agentSize : WV yX7_agentSize cX7_agentSize 4 (some .int) 1 := ⟨g_652, g_653, g_449, g_654, by decide +kernel⟩
theorem bp_7 : (Int8.ofInt 7).toInt32 = (7 : Int32) := by decide
theorem bp_40 : (Int8.ofInt 40).toInt32 = (40 : Int32) := by decide
theorem sp_130 : (Int16.ofInt 130).toInt32 = (130 : Int32) := by decide
theorem sp_255 : (Int16.ofInt 255).toInt32 = (255 : Int32) := by decide
theorem bp_48 : (Int8.ofInt 48).toInt32 = (48 : Int32) := by decide
theorem bp_57 : (Int8.ofInt 57).toInt32 = (57 : Int32) := by decide
theorem bp_10 : (Int8.ofInt 10).toInt32 = (10 : Int32) := by decide
theorem bp_109 : (Int8.ofInt 109).toInt32 = (109 : Int32) := by decide
theorem bp_15 : (Int8.ofInt 15).toInt32 = (15 : Int32) := by decide
theorem bp_59 : (Int8.ofInt 59).toInt32 = (59 : Int32) := by decide
theorem bp_16 : (Int8.ofInt 16).toInt32 = (16 : Int32) := by decide
theorem bp_99 : (Int8.ofInt 99).toInt32 = (99 : Int32) := by decide
theorem bp_9 : (Int8.ofInt 9).toInt32 = (9 : Int32) := by decide
theorem bp_44 : (Int8.ofInt 44).toInt32 = (44 : Int32) := by decide
theorem bp_24 : (Int8.ofInt 24).toInt32 = (24 : Int32) := by decide
theorem bp_8 : (Int8.ofInt 8).toInt32 = (8 : Int32) := by decide
theorem bp_63 : (Int8.ofInt 63).toInt32 = (63 : Int32) := by decide
theorem sp_9999 : (Int16.ofInt 9999).toInt32 = (9999 : Int32) := by decide
theorem bp_60 : (Int8.ofInt 60).toInt32 = (60 : Int32) := by decide
theorem sp_200 : (Int16.ofInt 200).toInt32 = (200 : Int32) := by decide
theorem bp_12 : (Int8.ofInt 12).toInt32 = (12 : Int32) := by decide
theorem bp_100 : (Int8.ofInt 100).toInt32 = (100 : Int32) := by decide
theorem bp_30 : (Int8.ofInt 30).toInt32 = (30 : Int32) := by decide
theorem bp_13 : (Int8.ofInt 13).toInt32 = (13 : Int32) := by decide
theorem bp_14 : (Int8.ofInt 14).toInt32 = (14 : Int32) := by decide
theorem bp_20 : (Int8.ofInt 20).toInt32 = (20 : Int32) := by decide
theorem bp_21 : (Int8.ofInt 21).toInt32 = (21 : Int32) := by decide
theorem bp_22 : (Int8.ofInt 22).toInt32 = (22 : Int32) := by decide
theorem sp_1000 : (Int16.ofInt 1000).toInt32 = (1000 : Int32) := by decide
theorem bp_11 : (Int8.ofInt 11).toInt32 = (11 : Int32) := by decide
theorem bp_23 : (Int8.ofInt 23).toInt32 = (23 : Int32) := by decide
theorem bp_64 : (Int8.ofInt 64).toInt32 = (64 : Int32) := by decide
theorem bp_97 : (Int8.ofInt 97).toInt32 = (97 : Int32) := by decide
theorem bp_122 : (Int8.ofInt 122).toInt32 = (122 : Int32) := by decide
theorem bp_115 : (Int8.ofInt 115).toInt32 = (115 : Int32) := by decide
theorem bp_114 : (Int8.ofInt 114).toInt32 = (114 : Int32) := by decide
theorem bp_111 : (Int8.ofInt 111).toInt32 = (111 : Int32) := by decide
theorem bp_119 : (Int8.ofInt 119).toInt32 = (119 : Int32) := by decide
theorem bp_6 : (Int8.ofInt 6).toInt32 = (6 : Int32) := by decide
theorem sp_1472 : (Int16.ofInt 1472).toInt32 = (1472 : Int32) := by decide
theorem bp_61 : (Int8.ofInt 61).toInt32 = (61 : Int32) := by decide
theorem sp_201 : (Int16.ofInt 201).toInt32 = (201 : Int32) := by decide
theorem ii_1 : Int32.ofInt 1 = (1 : Int32) := by decide
theorem ii_m1 : Int32.ofInt (-1) = (-1 : Int32) := by decide
