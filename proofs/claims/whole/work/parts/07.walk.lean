set_option maxRecDepth 100000 in
theorem w_P_within {X : CX} (C : Cx X ZX RX6 cX6_within 3 (some .boolean) 0 0)  (σ : St) (x0 : Int32) (x1 : Int32) (x2 : Int32) : Sm X ZX 3 (some .boolean) σ [(0, .int x0), (1, .int x1), (2, .int x2)] 0 [] (m_P_within σ x0 x1 x2) := by
  unfold m_P_within
  refine s_iload_n C e_P_within_0 rfl ?_
  refine s_iload_n C e_P_within_1 rfl ?_
  refine s_icmp_lt (tgt := 14) C e_P_within_2 rfl ?_ ?_
  · refine s_iconst C e_P_within_14 (v := (0 : Int32)) ic_0 ?_
    exact s_zret C e_P_within_15
  · refine s_iload_n C e_P_within_5 rfl ?_
    refine s_iload_n C e_P_within_6 rfl ?_
    refine s_icmp_gt (tgt := 14) C e_P_within_7 rfl ?_ ?_
    · refine s_iconst C e_P_within_14 (v := (0 : Int32)) ic_0 ?_
      exact s_zret C e_P_within_15
    · refine s_iconst C e_P_within_10 (v := (1 : Int32)) ic_1 ?_
      refine s_goto (tgt := 15) C e_P_within_11 rfl ?_
      exact s_zret C e_P_within_15
theorem c_P_within {l : Launch} {D : va_G} {k : Nat → ClassId} {q : Nat → Nat} (hq : Inj ZX q)  (σ : St) (x0 : Int32) (x1 : Int32) (x2 : Int32) : Ct l ZX D k q yX6_within cX6_within 3 (some .boolean) 0 0 [.int x0, .int x1, .int x2] σ (m_P_within σ x0 x1 x2) :=
  Ct_of hq lcX (by decide) (Nat.le_of_ble_eq_true rfl) (fun _ _ _ _ _ _ _ _ _ _ C => w_P_within C σ x0 x1 x2)
set_option maxRecDepth 100000 in
theorem w_Rows_isRow {X : CX} (C : Cx X ZX RX5 cX5_isRow 2 (some .boolean) 1 22)  (σ : St) (x1 : Int32) : Sm X ZX 2 (some .boolean) σ [(0, .ref (cq X 1)), (1, .int x1)] 0 [] (m_Rows_isRow σ x1) := by
  unfold m_Rows_isRow
  refine s_iload_n C e_Rows_isRow_0 rfl ?_
  refine s_iconst C e_Rows_isRow_1 (v := (0 : Int32)) ic_0 ?_
  refine s_bipush C e_Rows_isRow_2 (v := (7 : Int32)) bp_7 ?_
  refine s_callN_3 C (c_P_within C.inj _ _ _ _) wv_P_within g_0 ⟨by decide, by decide⟩ rfl (Nat.le_of_ble_eq_true rfl) e_Rows_isRow_4 (fun v1 σ2 => ?_)
  exact s_zret C e_Rows_isRow_7
theorem c_Rows_isRow {l : Launch} {D : va_G} {k : Nat → ClassId} {q : Nat → Nat} (hq : Inj ZX q)  (σ : St) (x1 : Int32) : Ct l ZX D k q yX5_isRow cX5_isRow 2 (some .boolean) 1 22 [.ref (q 1), .int x1] σ (m_Rows_isRow σ x1) :=
  Ct_of hq lcX (by decide) (Nat.le_of_ble_eq_true rfl) (fun _ _ _ _ _ _ _ _ _ _ C => w_Rows_isRow C σ x1)
set_option maxRecDepth 100000 in
theorem w_P_finding {X : CX} (C : Cx X ZX RX6 cX6_finding 2 (some .int) 0 0)  (σ : St) (x1 : Int32) : Sm X ZX 2 (some .int) σ [(0, .ref (cq X 0)), (1, .int x1)] 0 [] (m_P_finding σ x1) := by
  unfold m_P_finding
  refine s_aload_n C e_P_finding_0 rfl ?_
  refine s_iload_n C e_P_finding_1 rfl ?_
  refine s_put C fc_6 zx_lt_0 (zx_0 _ _ _) 7 (by decide) (zxp_0_7 _ _ _ _) (Nat.le_of_ble_eq_true rfl) e_P_finding_2 g_4 rfl rfl (fun σ1 => ?_)
  refine s_ldcw C e_P_finding_5 g_5 ?_
  refine s_iload_n C e_P_finding_8 rfl ?_
  refine s_isub C e_P_finding_9 ?_
  exact s_iret C e_P_finding_10
theorem c_P_finding {l : Launch} {D : va_G} {k : Nat → ClassId} {q : Nat → Nat} (hq : Inj ZX q)  (σ : St) (x1 : Int32) : Ct l ZX D k q yX6_finding cX6_finding 2 (some .int) 0 0 [.ref (q 0), .int x1] σ (m_P_finding σ x1) :=
  Ct_of hq lcX (by decide) (Nat.le_of_ble_eq_true rfl) (fun _ _ _ _ _ _ _ _ _ _ C => w_P_finding C σ x1)
set_option maxRecDepth 100000 in
theorem w_Rows_lay_B17 {X : CX} (C : Cx X ZX RX5 cX5_lay 5 none 0 0)  (r17 : St → Int32 → Int32 → Rt) (hr17 : ∀ (σ : St) (x1 : Int32) (x4 : Int32), Sm X ZX 5 none σ [(0, .ref (cq X 1)), (1, .int x1), (4, .int x4)] 17 [] (r17 σ x1 x4)) (σ : St) (x1 : Int32) (x4 : Int32) : Sm X ZX 5 none σ [(0, .ref (cq X 1)), (1, .int x1), (4, .int x4)] 17 [] (m_Rows_lay_B17 r17 σ x1 x4) := by
  unfold m_Rows_lay_B17
  refine s_iload C e_Rows_lay_17 rfl ?_
  refine s_bipush C e_Rows_lay_19 (v := (40 : Int32)) bp_40 ?_
  refine s_icmp_ge (tgt := 40) C e_Rows_lay_21 rfl ?_ ?_
  · exact s_vret C e_Rows_lay_40
  · refine s_aload_n C e_Rows_lay_24 rfl ?_
    refine s_get C fc_5 zx_lt_1 (zx_1 _ _ _) 2 (by decide) e_Rows_lay_25 g_8 rfl ?_
    refine s_iload_n C e_Rows_lay_28 rfl ?_
    refine s_aald (c := 3) (ty := .array .int) C gIt zx_lt_4 (zx_4 _ _ _) rfl rfl zxf_4 e_Rows_lay_29 (fun hi29 => ?_)
    refine s_iload C e_Rows_lay_30 rfl ?_
    refine s_iconst C e_Rows_lay_32 (v := (0 : Int32)) ic_0 ?_
    refine s_iast C (zi_lt (isI_g hi29)) (zi (isI_g hi29)) e_Rows_lay_33 (fun σ1 => ?_)
    refine s_iinc C e_Rows_lay_34 (v := (1 : Int32)) rfl (by decide) ii_1 ?_
    refine s_goto (tgt := 17) C e_Rows_lay_37 rfl ?_
    exact s_cut (hr17 _ _ _) ⟨rfl, rfl, rfl, trivial⟩
theorem w_Rows_lay_L17 {X : CX} (C : Cx X ZX RX5 cX5_lay 5 none 0 0)   : ∀ (n : Nat) (σ : St) (x1 : Int32) (x4 : Int32), Sm X ZX 5 none σ [(0, .ref (cq X 1)), (1, .int x1), (4, .int x4)] 17 [] (m_Rows_lay_L17 n σ x1 x4)
  | 0, _, _, _ => s_none
  | n + 1, σ, x1, x4 => w_Rows_lay_B17 C (m_Rows_lay_L17 n) (w_Rows_lay_L17 C n) σ x1 x4
set_option maxRecDepth 100000 in
theorem w_Rows_lay {X : CX} (C : Cx X ZX RX5 cX5_lay 5 none 0 0)  (σ : St) (x1 : Int32) (x2 : Int32) (x3 : Int32) : Sm X ZX 5 none σ [(0, .ref (cq X 1)), (1, .int x1), (2, .int x2), (3, .int x3)] 0 [] (m_Rows_lay σ x1 x2 x3) := by
  unfold m_Rows_lay
  refine s_aload_n C e_Rows_lay_0 rfl ?_
  refine s_get C fc_5 zx_lt_1 (zx_1 _ _ _) 0 (by decide) e_Rows_lay_1 g_6 rfl ?_
  refine s_iload_n C e_Rows_lay_4 rfl ?_
  refine s_iload_n C e_Rows_lay_5 rfl ?_
  refine s_iast C zx_lt_2 zx_2 e_Rows_lay_6 (fun σ1 => ?_)
  refine s_aload_n C e_Rows_lay_7 rfl ?_
  refine s_get C fc_5 zx_lt_1 (zx_1 _ _ _) 1 (by decide) e_Rows_lay_8 g_7 rfl ?_
  refine s_iload_n C e_Rows_lay_11 rfl ?_
  refine s_iload_n C e_Rows_lay_12 rfl ?_
  refine s_iast C zx_lt_3 zx_3 e_Rows_lay_13 (fun σ2 => ?_)
  refine s_iconst C e_Rows_lay_14 (v := (0 : Int32)) ic_0 ?_
  refine s_istore C e_Rows_lay_15 (by decide) ?_
  exact s_cut (w_Rows_lay_L17 C FU _ _ _) ⟨rfl, rfl, rfl, trivial⟩
theorem c_Rows_lay {l : Launch} {D : va_G} {k : Nat → ClassId} {q : Nat → Nat} (hq : Inj ZX q)  (σ : St) (x1 : Int32) (x2 : Int32) (x3 : Int32) : Ct l ZX D k q yX5_lay cX5_lay 5 none 0 0 [.ref (q 1), .int x1, .int x2, .int x3] σ (m_Rows_lay σ x1 x2 x3) :=
  Ct_of hq lcX (by decide) (Nat.le_of_ble_eq_true rfl) (fun _ _ _ _ _ _ _ _ _ _ C => w_Rows_lay C σ x1 x2 x3)
set_option maxRecDepth 100000 in
theorem w_P_foundNothing {X : CX} (C : Cx X ZX RX6 cX6_foundNothing 2 (some .int) 0 0)  (σ : St) (x1 : Int32) : Sm X ZX 2 (some .int) σ [(0, .ref (cq X 0)), (1, .int x1)] 0 [] (m_P_foundNothing σ x1) := by
  unfold m_P_foundNothing
  refine s_aload_n C e_P_foundNothing_0 rfl ?_
  refine s_iconst C e_P_foundNothing_1 (v := (0 : Int32)) ic_0 ?_
  refine s_put C fc_6 zx_lt_0 (zx_0 _ _ _) 7 (by decide) (zxp_0_7 _ _ _ _) (Nat.le_of_ble_eq_true rfl) e_P_foundNothing_2 g_4 rfl rfl (fun σ1 => ?_)
  refine s_iload_n C e_P_foundNothing_5 rfl ?_
  exact s_iret C e_P_foundNothing_6
theorem c_P_foundNothing {l : Launch} {D : va_G} {k : Nat → ClassId} {q : Nat → Nat} (hq : Inj ZX q)  (σ : St) (x1 : Int32) : Ct l ZX D k q yX6_foundNothing cX6_foundNothing 2 (some .int) 0 0 [.ref (q 0), .int x1] σ (m_P_foundNothing σ x1) :=
  Ct_of hq lcX (by decide) (Nat.le_of_ble_eq_true rfl) (fun _ _ _ _ _ _ _ _ _ _ C => w_P_foundNothing C σ x1)
set_option maxRecDepth 100000 in
theorem w_P_row {X : CX} (C : Cx X ZX RX6 cX6_row 4 (some .int) 2 43)  (σ : St) (x1 : Int32) (x2 : Int32) (x3 : Int32) : Sm X ZX 4 (some .int) σ [(0, .ref (cq X 0)), (1, .int x1), (2, .int x2), (3, .int x3)] 0 [] (m_P_row σ x1 x2 x3) := by
  unfold m_P_row
  refine s_aload_n C e_P_row_0 rfl ?_
  refine s_get C fc_6 zx_lt_0 (zx_0 _ _ _) 0 (by decide) e_P_row_1 g_9 rfl ?_
  refine s_iload_n C e_P_row_4 rfl ?_
  refine s_callV_1 C (c_Rows_isRow C.inj _ _) wv_Rows_isRow g_25 ⟨by decide, by decide⟩ fc_5 rfl zx_lt_1 (zx_1 _ _ _) rfl (Nat.le_of_ble_eq_true rfl) e_P_row_5 (fun v1 σ2 => ?_)
  refine s_if_eq (tgt := 26) C e_P_row_8 rfl ?_ ?_
  · refine s_ldc C e_P_row_26 g_10 ?_
    exact s_iret C e_P_row_28
  · refine s_iload_n C e_P_row_11 rfl ?_
    refine s_iconst C e_P_row_12 (v := (0 : Int32)) ic_0 ?_
    refine s_iconst C e_P_row_13 (v := (2 : Int32)) ic_2 ?_
    refine s_callS_3 C (c_P_within C.inj _ _ _ _) wv_P_within g_24 ⟨by decide, by decide⟩ rfl (Nat.le_of_ble_eq_true rfl) e_P_row_14 (fun v3 σ4 => ?_)
    refine s_if_eq (tgt := 26) C e_P_row_17 rfl ?_ ?_
    · refine s_ldc C e_P_row_26 g_10 ?_
      exact s_iret C e_P_row_28
    · refine s_iload_n C e_P_row_20 rfl ?_
      refine s_bipush C e_P_row_21 (v := (40 : Int32)) bp_40 ?_
      refine s_icmp_le (tgt := 29) C e_P_row_23 rfl ?_ ?_
      · refine s_iload_n C e_P_row_29 rfl ?_
        refine s_if_ge (tgt := 39) C e_P_row_30 rfl ?_ ?_
        · refine s_aload_n C e_P_row_39 rfl ?_
          refine s_get C fc_6 zx_lt_0 (zx_0 _ _ _) 0 (by decide) e_P_row_40 g_9 rfl ?_
          refine s_iload_n C e_P_row_43 rfl ?_
          refine s_iload_n C e_P_row_44 rfl ?_
          refine s_iload_n C e_P_row_45 rfl ?_
          refine s_callVv_3 C (c_Rows_lay C.inj _ _ _ _) wv_Rows_lay g_15 ⟨by decide, by decide⟩ fc_5 rfl zx_lt_1 (zx_1 _ _ _) rfl (Nat.le_of_ble_eq_true rfl) e_P_row_46 (fun v5 σ6 => ?_)
          refine s_aload_n C e_P_row_49 rfl ?_
          refine s_iload_n C e_P_row_50 rfl ?_
          refine s_callV_1 C (c_P_foundNothing C.inj _ _) wv_P_foundNothing g_11 ⟨by decide, by decide⟩ fc_6 rfl zx_lt_0 (zx_0 _ _ _) rfl (Nat.le_of_ble_eq_true rfl) e_P_row_51 (fun v7 σ8 => ?_)
          exact s_iret C e_P_row_54
        · refine s_aload_n C e_P_row_33 rfl ?_
          refine s_iconst C e_P_row_34 (v := (4 : Int32)) ic_4 ?_
          refine s_callV_1 C (c_P_finding C.inj _ _) wv_P_finding g_20 ⟨by decide, by decide⟩ fc_6 rfl zx_lt_0 (zx_0 _ _ _) rfl (Nat.le_of_ble_eq_true rfl) e_P_row_35 (fun v9 σ10 => ?_)
          exact s_iret C e_P_row_38
      · refine s_ldc C e_P_row_26 g_10 ?_
        exact s_iret C e_P_row_28
theorem c_P_row {l : Launch} {D : va_G} {k : Nat → ClassId} {q : Nat → Nat} (hq : Inj ZX q)  (σ : St) (x1 : Int32) (x2 : Int32) (x3 : Int32) : Ct l ZX D k q yX6_row cX6_row 4 (some .int) 2 43 [.ref (q 0), .int x1, .int x2, .int x3] σ (m_P_row σ x1 x2 x3) :=
  Ct_of hq lcX (by decide) (Nat.le_of_ble_eq_true rfl) (fun _ _ _ _ _ _ _ _ _ _ C => w_P_row C σ x1 x2 x3)
set_option maxRecDepth 100000 in
theorem w_Rows_isMissing {X : CX} (C : Cx X ZX RX5 cX5_isMissing 2 (some .boolean) 0 0)  (σ : St) (x1 : Int32) : Sm X ZX 2 (some .boolean) σ [(0, .ref (cq X 1)), (1, .int x1)] 0 [] (m_Rows_isMissing σ x1) := by
  unfold m_Rows_isMissing
  refine s_aload_n C e_Rows_isMissing_0 rfl ?_
  refine s_get C fc_5 zx_lt_1 (zx_1 _ _ _) 0 (by decide) e_Rows_isMissing_1 g_6 rfl ?_
  refine s_iload_n C e_Rows_isMissing_4 rfl ?_
  refine s_iald C zx_lt_2 zx_2 e_Rows_isMissing_5 ?_
  refine s_iconst C e_Rows_isMissing_6 (v := (-1 : Int32)) ic_m1 ?_
  refine s_icmp_ne (tgt := 14) C e_Rows_isMissing_7 rfl ?_ ?_
  · refine s_iconst C e_Rows_isMissing_10 (v := (1 : Int32)) ic_1 ?_
    refine s_goto (tgt := 15) C e_Rows_isMissing_11 rfl ?_
    exact s_zret C e_Rows_isMissing_15
  · refine s_iconst C e_Rows_isMissing_14 (v := (0 : Int32)) ic_0 ?_
    exact s_zret C e_Rows_isMissing_15
theorem c_Rows_isMissing {l : Launch} {D : va_G} {k : Nat → ClassId} {q : Nat → Nat} (hq : Inj ZX q)  (σ : St) (x1 : Int32) : Ct l ZX D k q yX5_isMissing cX5_isMissing 2 (some .boolean) 0 0 [.ref (q 1), .int x1] σ (m_Rows_isMissing σ x1) :=
  Ct_of hq lcX (by decide) (Nat.le_of_ble_eq_true rfl) (fun _ _ _ _ _ _ _ _ _ _ C => w_Rows_isMissing C σ x1)
set_option maxRecDepth 100000 in
theorem w_Rows_hasPlaces {X : CX} (C : Cx X ZX RX5 cX5_hasPlaces 4 (some .boolean) 0 0)  (σ : St) (x1 : Int32) (x2 : Int32) (x3 : Int32) : Sm X ZX 4 (some .boolean) σ [(0, .ref (cq X 1)), (1, .int x1), (2, .int x2), (3, .int x3)] 0 [] (m_Rows_hasPlaces σ x1 x2 x3) := by
  unfold m_Rows_hasPlaces
  refine s_iload_n C e_Rows_hasPlaces_0 rfl ?_
  refine s_if_lt (tgt := 24) C e_Rows_hasPlaces_1 rfl ?_ ?_
  · refine s_iconst C e_Rows_hasPlaces_24 (v := (0 : Int32)) ic_0 ?_
    exact s_zret C e_Rows_hasPlaces_25
  · refine s_iload_n C e_Rows_hasPlaces_4 rfl ?_
    refine s_if_lt (tgt := 24) C e_Rows_hasPlaces_5 rfl ?_ ?_
    · refine s_iconst C e_Rows_hasPlaces_24 (v := (0 : Int32)) ic_0 ?_
      exact s_zret C e_Rows_hasPlaces_25
    · refine s_iload_n C e_Rows_hasPlaces_8 rfl ?_
      refine s_aload_n C e_Rows_hasPlaces_9 rfl ?_
      refine s_get C fc_5 zx_lt_1 (zx_1 _ _ _) 1 (by decide) e_Rows_hasPlaces_10 g_7 rfl ?_
      refine s_iload_n C e_Rows_hasPlaces_13 rfl ?_
      refine s_iald C zx_lt_3 zx_3 e_Rows_hasPlaces_14 ?_
      refine s_iload_n C e_Rows_hasPlaces_15 rfl ?_
      refine s_isub C e_Rows_hasPlaces_16 ?_
      refine s_icmp_gt (tgt := 24) C e_Rows_hasPlaces_17 rfl ?_ ?_
      · refine s_iconst C e_Rows_hasPlaces_24 (v := (0 : Int32)) ic_0 ?_
        exact s_zret C e_Rows_hasPlaces_25
      · refine s_iconst C e_Rows_hasPlaces_20 (v := (1 : Int32)) ic_1 ?_
        refine s_goto (tgt := 25) C e_Rows_hasPlaces_21 rfl ?_
        exact s_zret C e_Rows_hasPlaces_25
theorem c_Rows_hasPlaces {l : Launch} {D : va_G} {k : Nat → ClassId} {q : Nat → Nat} (hq : Inj ZX q)  (σ : St) (x1 : Int32) (x2 : Int32) (x3 : Int32) : Ct l ZX D k q yX5_hasPlaces cX5_hasPlaces 4 (some .boolean) 0 0 [.ref (q 1), .int x1, .int x2, .int x3] σ (m_Rows_hasPlaces σ x1 x2 x3) :=
  Ct_of hq lcX (by decide) (Nat.le_of_ble_eq_true rfl) (fun _ _ _ _ _ _ _ _ _ _ C => w_Rows_hasPlaces C σ x1 x2 x3)
set_option maxRecDepth 100000 in
theorem w_Rows_put_B33 {X : CX} (C : Cx X ZX RX5 cX5_put 5 (some .int) 0 0)   (σ : St) (x1 : Int32) (x2 : Int32) (x4 : Int32) : Sm X ZX 5 (some .int) σ [(0, .ref (cq X 1)), (1, .int x1), (2, .int x2), (4, .int x4)] 33 [] (m_Rows_put_B33 σ x1 x2 x4) := by
  unfold m_Rows_put_B33
  refine s_aload_n C e_Rows_put_33 rfl ?_
  refine s_get C fc_5 zx_lt_1 (zx_1 _ _ _) 2 (by decide) e_Rows_put_34 g_8 rfl ?_
  refine s_iload_n C e_Rows_put_37 rfl ?_
  refine s_aald (c := 3) (ty := .array .int) C gIt zx_lt_4 (zx_4 _ _ _) rfl rfl zxf_4 e_Rows_put_38 (fun hi38 => ?_)
  refine s_iload_n C e_Rows_put_39 rfl ?_
  refine s_iload C e_Rows_put_40 rfl ?_
  refine s_iast C (zi_lt (isI_g hi38)) (zi (isI_g hi38)) e_Rows_put_42 (fun σ1 => ?_)
  refine s_iload C e_Rows_put_43 rfl ?_
  exact s_iret C e_Rows_put_45
set_option maxRecDepth 100000 in
theorem w_Rows_put {X : CX} (C : Cx X ZX RX5 cX5_put 5 (some .int) 0 0)  (σ : St) (x1 : Int32) (x2 : Int32) (x3 : Int32) : Sm X ZX 5 (some .int) σ [(0, .ref (cq X 1)), (1, .int x1), (2, .int x2), (3, .int x3)] 0 [] (m_Rows_put σ x1 x2 x3) := by
  unfold m_Rows_put
  refine s_iload_n C e_Rows_put_0 rfl ?_
  refine s_istore C e_Rows_put_1 (by decide) ?_
  refine s_aload_n C e_Rows_put_3 rfl ?_
  refine s_get C fc_5 zx_lt_1 (zx_1 _ _ _) 0 (by decide) e_Rows_put_4 g_6 rfl ?_
  refine s_iload_n C e_Rows_put_7 rfl ?_
  refine s_iald C zx_lt_2 zx_2 e_Rows_put_8 ?_
  refine s_if_ne (tgt := 19) C e_Rows_put_9 rfl ?_ ?_
  · refine s_iload_n C e_Rows_put_12 rfl ?_
    refine s_i2b C e_Rows_put_13 ?_
    refine s_nm (fun y2 => ?_)
    refine s_istore C e_Rows_put_14 (by decide) ?_
    refine s_goto (tgt := 33) C e_Rows_put_16 rfl ?_
    exact s_cut (w_Rows_put_B33 C _ _ _ _) ⟨rfl, rfl, rfl, rfl, trivial⟩
  · refine s_aload_n C e_Rows_put_19 rfl ?_
    refine s_get C fc_5 zx_lt_1 (zx_1 _ _ _) 0 (by decide) e_Rows_put_20 g_6 rfl ?_
    refine s_iload_n C e_Rows_put_23 rfl ?_
    refine s_iald C zx_lt_2 zx_2 e_Rows_put_24 ?_
    refine s_iconst C e_Rows_put_25 (v := (1 : Int32)) ic_1 ?_
    refine s_icmp_ne (tgt := 33) C e_Rows_put_26 rfl ?_ ?_
    · refine s_iload_n C e_Rows_put_29 rfl ?_
      refine s_i2s C e_Rows_put_30 ?_
      refine s_nm (fun y1 => ?_)
      refine s_istore C e_Rows_put_31 (by decide) ?_
      exact s_cut (w_Rows_put_B33 C _ _ _ _) ⟨rfl, rfl, rfl, rfl, trivial⟩
    · exact s_cut (w_Rows_put_B33 C _ _ _ _) ⟨rfl, rfl, rfl, rfl, trivial⟩
theorem c_Rows_put {l : Launch} {D : va_G} {k : Nat → ClassId} {q : Nat → Nat} (hq : Inj ZX q)  (σ : St) (x1 : Int32) (x2 : Int32) (x3 : Int32) : Ct l ZX D k q yX5_put cX5_put 5 (some .int) 0 0 [.ref (q 1), .int x1, .int x2, .int x3] σ (m_Rows_put σ x1 x2 x3) :=
  Ct_of hq lcX (by decide) (Nat.le_of_ble_eq_true rfl) (fun _ _ _ _ _ _ _ _ _ _ C => w_Rows_put C σ x1 x2 x3)
set_option maxRecDepth 100000 in
theorem w_P_set {X : CX} (C : Cx X ZX RX6 cX6_set 4 (some .int) 2 43)  (σ : St) (x1 : Int32) (x2 : Int32) (x3 : Int32) : Sm X ZX 4 (some .int) σ [(0, .ref (cq X 0)), (1, .int x1), (2, .int x2), (3, .int x3)] 0 [] (m_P_set σ x1 x2 x3) := by
  unfold m_P_set
  refine s_aload_n C e_P_set_0 rfl ?_
  refine s_get C fc_6 zx_lt_0 (zx_0 _ _ _) 0 (by decide) e_P_set_1 g_9 rfl ?_
  refine s_iload_n C e_P_set_4 rfl ?_
  refine s_callV_1 C (c_Rows_isRow C.inj _ _) wv_Rows_isRow g_25 ⟨by decide, by decide⟩ fc_5 rfl zx_lt_1 (zx_1 _ _ _) rfl (Nat.le_of_ble_eq_true rfl) e_P_set_5 (fun v1 σ2 => ?_)
  refine s_if_ne (tgt := 14) C e_P_set_8 rfl ?_ ?_
  · refine s_ldc C e_P_set_11 g_10 ?_
    exact s_iret C e_P_set_13
  · refine s_aload_n C e_P_set_14 rfl ?_
    refine s_get C fc_6 zx_lt_0 (zx_0 _ _ _) 0 (by decide) e_P_set_15 g_9 rfl ?_
    refine s_iload_n C e_P_set_18 rfl ?_
    refine s_callV_1 C (c_Rows_isMissing C.inj _ _) wv_Rows_isMissing g_37 ⟨by decide, by decide⟩ fc_5 rfl zx_lt_1 (zx_1 _ _ _) rfl (Nat.le_of_ble_eq_true rfl) e_P_set_19 (fun v3 σ4 => ?_)
    refine s_if_eq (tgt := 31) C e_P_set_22 rfl ?_ ?_
    · refine s_aload_n C e_P_set_31 rfl ?_
      refine s_get C fc_6 zx_lt_0 (zx_0 _ _ _) 0 (by decide) e_P_set_32 g_9 rfl ?_
      refine s_iload_n C e_P_set_35 rfl ?_
      refine s_iload_n C e_P_set_36 rfl ?_
      refine s_iconst C e_P_set_37 (v := (1 : Int32)) ic_1 ?_
      refine s_callV_3 C (c_Rows_hasPlaces C.inj _ _ _ _) wv_Rows_hasPlaces g_33 ⟨by decide, by decide⟩ fc_5 rfl zx_lt_1 (zx_1 _ _ _) rfl (Nat.le_of_ble_eq_true rfl) e_P_set_38 (fun v5 σ6 => ?_)
      refine s_if_ne (tgt := 50) C e_P_set_41 rfl ?_ ?_
      · refine s_aload_n C e_P_set_44 rfl ?_
        refine s_iconst C e_P_set_45 (v := (2 : Int32)) ic_2 ?_
        refine s_callV_1 C (c_P_finding C.inj _ _) wv_P_finding g_20 ⟨by decide, by decide⟩ fc_6 rfl zx_lt_0 (zx_0 _ _ _) rfl (Nat.le_of_ble_eq_true rfl) e_P_set_46 (fun v11 σ12 => ?_)
        exact s_iret C e_P_set_49
      · refine s_aload_n C e_P_set_50 rfl ?_
        refine s_aload_n C e_P_set_51 rfl ?_
        refine s_get C fc_6 zx_lt_0 (zx_0 _ _ _) 0 (by decide) e_P_set_52 g_9 rfl ?_
        refine s_iload_n C e_P_set_55 rfl ?_
        refine s_iload_n C e_P_set_56 rfl ?_
        refine s_iload_n C e_P_set_57 rfl ?_
        refine s_callV_3 C (c_Rows_put C.inj _ _ _ _) wv_Rows_put g_29 ⟨by decide, by decide⟩ fc_5 rfl zx_lt_1 (zx_1 _ _ _) rfl (Nat.le_of_ble_eq_true rfl) e_P_set_58 (fun v7 σ8 => ?_)
        refine s_callV_1 C (c_P_foundNothing C.inj _ _) wv_P_foundNothing g_11 ⟨by decide, by decide⟩ fc_6 rfl zx_lt_0 (zx_0 _ _ _) rfl (Nat.le_of_ble_eq_true rfl) e_P_set_61 (fun v9 σ10 => ?_)
        exact s_iret C e_P_set_64
    · refine s_aload_n C e_P_set_25 rfl ?_
      refine s_iconst C e_P_set_26 (v := (1 : Int32)) ic_1 ?_
      refine s_callV_1 C (c_P_finding C.inj _ _) wv_P_finding g_20 ⟨by decide, by decide⟩ fc_6 rfl zx_lt_0 (zx_0 _ _ _) rfl (Nat.le_of_ble_eq_true rfl) e_P_set_27 (fun v13 σ14 => ?_)
      exact s_iret C e_P_set_30
theorem c_P_set {l : Launch} {D : va_G} {k : Nat → ClassId} {q : Nat → Nat} (hq : Inj ZX q)  (σ : St) (x1 : Int32) (x2 : Int32) (x3 : Int32) : Ct l ZX D k q yX6_set cX6_set 4 (some .int) 2 43 [.ref (q 0), .int x1, .int x2, .int x3] σ (m_P_set σ x1 x2 x3) :=
  Ct_of hq lcX (by decide) (Nat.le_of_ble_eq_true rfl) (fun _ _ _ _ _ _ _ _ _ _ C => w_P_set C σ x1 x2 x3)
set_option maxRecDepth 100000 in
theorem w_P_copy_B47 {X : CX} (C : Cx X ZX RX6 cX6_copy 6 (some .int) 2 43)   (σ : St)  : Sm X ZX 6 (some .int) σ [(0, .ref (cq X 0))] 47 [] (m_P_copy_B47 σ) := by
  unfold m_P_copy_B47
  refine s_aload_n C e_P_copy_47 rfl ?_
  refine s_iconst C e_P_copy_48 (v := (1 : Int32)) ic_1 ?_
  refine s_callV_1 C (c_P_finding C.inj _ _) wv_P_finding g_20 ⟨by decide, by decide⟩ fc_6 rfl zx_lt_0 (zx_0 _ _ _) rfl (Nat.le_of_ble_eq_true rfl) e_P_copy_49 (fun v1 σ2 => ?_)
  exact s_iret C e_P_copy_52
set_option maxRecDepth 100000 in
theorem w_P_copy_B109 {X : CX} (C : Cx X ZX RX6 cX6_copy 6 (some .int) 2 43)   (σ : St)  : Sm X ZX 6 (some .int) σ [(0, .ref (cq X 0))] 109 [] (m_P_copy_B109 σ) := by
  unfold m_P_copy_B109
  refine s_aload_n C e_P_copy_109 rfl ?_
  refine s_iconst C e_P_copy_110 (v := (2 : Int32)) ic_2 ?_
  refine s_callV_1 C (c_P_finding C.inj _ _) wv_P_finding g_20 ⟨by decide, by decide⟩ fc_6 rfl zx_lt_0 (zx_0 _ _ _) rfl (Nat.le_of_ble_eq_true rfl) e_P_copy_111 (fun v1 σ2 => ?_)
  exact s_iret C e_P_copy_114
set_option maxRecDepth 100000 in
theorem w_P_copy {X : CX} (C : Cx X ZX RX6 cX6_copy 6 (some .int) 2 43)  (σ : St) (x1 : Int32) (x2 : Int32) (x3 : Int32) (x4 : Int32) (x5 : Int32) : Sm X ZX 6 (some .int) σ [(0, .ref (cq X 0)), (1, .int x1), (2, .int x2), (3, .int x3), (4, .int x4), (5, .int x5)] 0 [] (m_P_copy σ x1 x2 x3 x4 x5) := by
  unfold m_P_copy
  refine s_aload_n C e_P_copy_0 rfl ?_
  refine s_get C fc_6 zx_lt_0 (zx_0 _ _ _) 0 (by decide) e_P_copy_1 g_9 rfl ?_
  refine s_iload_n C e_P_copy_4 rfl ?_
  refine s_callV_1 C (c_Rows_isRow C.inj _ _) wv_Rows_isRow g_25 ⟨by decide, by decide⟩ fc_5 rfl zx_lt_1 (zx_1 _ _ _) rfl (Nat.le_of_ble_eq_true rfl) e_P_copy_5 (fun v1 σ2 => ?_)
  refine s_if_eq (tgt := 22) C e_P_copy_8 rfl ?_ ?_
  · refine s_ldc C e_P_copy_22 g_10 ?_
    exact s_iret C e_P_copy_24
  · refine s_aload_n C e_P_copy_11 rfl ?_
    refine s_get C fc_6 zx_lt_0 (zx_0 _ _ _) 0 (by decide) e_P_copy_12 g_9 rfl ?_
    refine s_iload_n C e_P_copy_15 rfl ?_
    refine s_callV_1 C (c_Rows_isRow C.inj _ _) wv_Rows_isRow g_25 ⟨by decide, by decide⟩ fc_5 rfl zx_lt_1 (zx_1 _ _ _) rfl (Nat.le_of_ble_eq_true rfl) e_P_copy_16 (fun v3 σ4 => ?_)
    refine s_if_ne (tgt := 25) C e_P_copy_19 rfl ?_ ?_
    · refine s_ldc C e_P_copy_22 g_10 ?_
      exact s_iret C e_P_copy_24
    · refine s_aload_n C e_P_copy_25 rfl ?_
      refine s_get C fc_6 zx_lt_0 (zx_0 _ _ _) 0 (by decide) e_P_copy_26 g_9 rfl ?_
      refine s_iload_n C e_P_copy_29 rfl ?_
      refine s_callV_1 C (c_Rows_isMissing C.inj _ _) wv_Rows_isMissing g_37 ⟨by decide, by decide⟩ fc_5 rfl zx_lt_1 (zx_1 _ _ _) rfl (Nat.le_of_ble_eq_true rfl) e_P_copy_30 (fun v5 σ6 => ?_)
      refine s_if_ne (tgt := 47) C e_P_copy_33 rfl ?_ ?_
      · refine s_aload_n C e_P_copy_36 rfl ?_
        refine s_get C fc_6 zx_lt_0 (zx_0 _ _ _) 0 (by decide) e_P_copy_37 g_9 rfl ?_
        refine s_iload_n C e_P_copy_40 rfl ?_
        refine s_callV_1 C (c_Rows_isMissing C.inj _ _) wv_Rows_isMissing g_37 ⟨by decide, by decide⟩ fc_5 rfl zx_lt_1 (zx_1 _ _ _) rfl (Nat.le_of_ble_eq_true rfl) e_P_copy_41 (fun v7 σ8 => ?_)
        refine s_if_eq (tgt := 53) C e_P_copy_44 rfl ?_ ?_
        · refine s_aload_n C e_P_copy_53 rfl ?_
          refine s_get C fc_6 zx_lt_0 (zx_0 _ _ _) 0 (by decide) e_P_copy_54 g_9 rfl ?_
          refine s_get C fc_5 zx_lt_1 (zx_1 _ _ _) 0 (by decide) e_P_copy_57 g_41 rfl ?_
          refine s_iload_n C e_P_copy_60 rfl ?_
          refine s_iald C zx_lt_2 zx_2 e_P_copy_61 ?_
          refine s_aload_n C e_P_copy_62 rfl ?_
          refine s_get C fc_6 zx_lt_0 (zx_0 _ _ _) 0 (by decide) e_P_copy_63 g_9 rfl ?_
          refine s_get C fc_5 zx_lt_1 (zx_1 _ _ _) 0 (by decide) e_P_copy_66 g_41 rfl ?_
          refine s_iload_n C e_P_copy_69 rfl ?_
          refine s_iald C zx_lt_2 zx_2 e_P_copy_70 ?_
          refine s_icmp_eq (tgt := 80) C e_P_copy_71 rfl ?_ ?_
          · refine s_aload_n C e_P_copy_80 rfl ?_
            refine s_get C fc_6 zx_lt_0 (zx_0 _ _ _) 0 (by decide) e_P_copy_81 g_9 rfl ?_
            refine s_iload_n C e_P_copy_84 rfl ?_
            refine s_iload_n C e_P_copy_85 rfl ?_
            refine s_iload C e_P_copy_86 rfl ?_
            refine s_callV_3 C (c_Rows_hasPlaces C.inj _ _ _ _) wv_Rows_hasPlaces g_33 ⟨by decide, by decide⟩ fc_5 rfl zx_lt_1 (zx_1 _ _ _) rfl (Nat.le_of_ble_eq_true rfl) e_P_copy_88 (fun v9 σ10 => ?_)
            refine s_if_eq (tgt := 109) C e_P_copy_91 rfl ?_ ?_
            · exact s_cut (w_P_copy_B109 C _) ⟨rfl, trivial⟩
            · refine s_aload_n C e_P_copy_94 rfl ?_
              refine s_get C fc_6 zx_lt_0 (zx_0 _ _ _) 0 (by decide) e_P_copy_95 g_9 rfl ?_
              refine s_iload_n C e_P_copy_98 rfl ?_
              refine s_iload C e_P_copy_99 rfl ?_
              refine s_iload C e_P_copy_101 rfl ?_
              refine s_callV_3 C (c_Rows_hasPlaces C.inj _ _ _ _) wv_Rows_hasPlaces g_33 ⟨by decide, by decide⟩ fc_5 rfl zx_lt_1 (zx_1 _ _ _) rfl (Nat.le_of_ble_eq_true rfl) e_P_copy_103 (fun v11 σ12 => ?_)
              refine s_if_ne (tgt := 115) C e_P_copy_106 rfl ?_ ?_
              · exact s_cut (w_P_copy_B109 C _) ⟨rfl, trivial⟩
              · refine s_aload_n C e_P_copy_115 rfl ?_
                refine s_get C fc_6 zx_lt_0 (zx_0 _ _ _) 0 (by decide) e_P_copy_116 g_9 rfl ?_
                refine s_get C fc_5 zx_lt_1 (zx_1 _ _ _) 2 (by decide) e_P_copy_119 g_42 rfl ?_
                refine s_iload_n C e_P_copy_122 rfl ?_
                refine s_aald (c := 3) (ty := .array .int) C gIt zx_lt_4 (zx_4 _ _ _) rfl rfl zxf_4 e_P_copy_123 (fun hi123 => ?_)
                refine s_iload_n C e_P_copy_124 rfl ?_
                refine s_aload_n C e_P_copy_125 rfl ?_
                refine s_get C fc_6 zx_lt_0 (zx_0 _ _ _) 0 (by decide) e_P_copy_126 g_9 rfl ?_
                refine s_get C fc_5 zx_lt_1 (zx_1 _ _ _) 2 (by decide) e_P_copy_129 g_42 rfl ?_
                refine s_iload_n C e_P_copy_132 rfl ?_
                refine s_aald (c := 3) (ty := .array .int) C gIt zx_lt_4 (zx_4 _ _ _) rfl rfl zxf_4 e_P_copy_133 (fun hi133 => ?_)
                refine s_iload C e_P_copy_134 rfl ?_
                refine s_iload C e_P_copy_136 rfl ?_
                refine s_copy C (zi_lt (isI_g hi123)) (zi_lt (isI_g hi133)) (zi (isI_g hi123)) (zi (isI_g hi133)) g_43 ws_copy ⟨by decide, by decide⟩ e_P_copy_138 (fun σ13 => ?_)
                refine s_aload_n C e_P_copy_141 rfl ?_
                refine s_iload C e_P_copy_142 rfl ?_
                refine s_callV_1 C (c_P_foundNothing C.inj _ _) wv_P_foundNothing g_11 ⟨by decide, by decide⟩ fc_6 rfl zx_lt_0 (zx_0 _ _ _) rfl (Nat.le_of_ble_eq_true rfl) e_P_copy_144 (fun v14 σ15 => ?_)
                exact s_iret C e_P_copy_147
          · refine s_aload_n C e_P_copy_74 rfl ?_
            refine s_iconst C e_P_copy_75 (v := (5 : Int32)) ic_5 ?_
            refine s_callV_1 C (c_P_finding C.inj _ _) wv_P_finding g_20 ⟨by decide, by decide⟩ fc_6 rfl zx_lt_0 (zx_0 _ _ _) rfl (Nat.le_of_ble_eq_true rfl) e_P_copy_76 (fun v16 σ17 => ?_)
            exact s_iret C e_P_copy_79
        · exact s_cut (w_P_copy_B47 C _) ⟨rfl, trivial⟩
      · exact s_cut (w_P_copy_B47 C _) ⟨rfl, trivial⟩
theorem c_P_copy {l : Launch} {D : va_G} {k : Nat → ClassId} {q : Nat → Nat} (hq : Inj ZX q)  (σ : St) (x1 : Int32) (x2 : Int32) (x3 : Int32) (x4 : Int32) (x5 : Int32) : Ct l ZX D k q yX6_copy cX6_copy 6 (some .int) 2 43 [.ref (q 0), .int x1, .int x2, .int x3, .int x4, .int x5] σ (m_P_copy σ x1 x2 x3 x4 x5) :=
  Ct_of hq lcX (by decide) (Nat.le_of_ble_eq_true rfl) (fun _ _ _ _ _ _ _ _ _ _ C => w_P_copy C σ x1 x2 x3 x4 x5)
set_option maxRecDepth 100000 in
theorem w_Rows_remove {X : CX} (C : Cx X ZX RX5 cX5_remove 2 (some .int) 0 0)  (σ : St) (x1 : Int32) : Sm X ZX 2 (some .int) σ [(0, .ref (cq X 1)), (1, .int x1)] 0 [] (m_Rows_remove σ x1) := by
  unfold m_Rows_remove
  refine s_aload_n C e_Rows_remove_0 rfl ?_
  refine s_get C fc_5 zx_lt_1 (zx_1 _ _ _) 0 (by decide) e_Rows_remove_1 g_6 rfl ?_
  refine s_iload_n C e_Rows_remove_4 rfl ?_
  refine s_iconst C e_Rows_remove_5 (v := (-1 : Int32)) ic_m1 ?_
  refine s_iast C zx_lt_2 zx_2 e_Rows_remove_6 (fun σ1 => ?_)
  refine s_aload_n C e_Rows_remove_7 rfl ?_
  refine s_get C fc_5 zx_lt_1 (zx_1 _ _ _) 1 (by decide) e_Rows_remove_8 g_7 rfl ?_
  refine s_iload_n C e_Rows_remove_11 rfl ?_
  refine s_iald C zx_lt_3 zx_3 e_Rows_remove_12 ?_
  exact s_iret C e_Rows_remove_13
theorem c_Rows_remove {l : Launch} {D : va_G} {k : Nat → ClassId} {q : Nat → Nat} (hq : Inj ZX q)  (σ : St) (x1 : Int32) : Ct l ZX D k q yX5_remove cX5_remove 2 (some .int) 0 0 [.ref (q 1), .int x1] σ (m_Rows_remove σ x1) :=
  Ct_of hq lcX (by decide) (Nat.le_of_ble_eq_true rfl) (fun _ _ _ _ _ _ _ _ _ _ C => w_Rows_remove C σ x1)
set_option maxRecDepth 100000 in
theorem w_P_drop {X : CX} (C : Cx X ZX RX6 cX6_drop 2 (some .int) 2 43)  (σ : St) (x1 : Int32) : Sm X ZX 2 (some .int) σ [(0, .ref (cq X 0)), (1, .int x1)] 0 [] (m_P_drop σ x1) := by
  unfold m_P_drop
  refine s_aload_n C e_P_drop_0 rfl ?_
  refine s_get C fc_6 zx_lt_0 (zx_0 _ _ _) 0 (by decide) e_P_drop_1 g_9 rfl ?_
  refine s_iload_n C e_P_drop_4 rfl ?_
  refine s_callV_1 C (c_Rows_isRow C.inj _ _) wv_Rows_isRow g_25 ⟨by decide, by decide⟩ fc_5 rfl zx_lt_1 (zx_1 _ _ _) rfl (Nat.le_of_ble_eq_true rfl) e_P_drop_5 (fun v1 σ2 => ?_)
  refine s_if_ne (tgt := 14) C e_P_drop_8 rfl ?_ ?_
  · refine s_ldc C e_P_drop_11 g_10 ?_
    exact s_iret C e_P_drop_13
  · refine s_aload_n C e_P_drop_14 rfl ?_
    refine s_get C fc_6 zx_lt_0 (zx_0 _ _ _) 0 (by decide) e_P_drop_15 g_9 rfl ?_
    refine s_iload_n C e_P_drop_18 rfl ?_
    refine s_callV_1 C (c_Rows_isMissing C.inj _ _) wv_Rows_isMissing g_37 ⟨by decide, by decide⟩ fc_5 rfl zx_lt_1 (zx_1 _ _ _) rfl (Nat.le_of_ble_eq_true rfl) e_P_drop_19 (fun v3 σ4 => ?_)
    refine s_if_eq (tgt := 31) C e_P_drop_22 rfl ?_ ?_
    · refine s_aload_n C e_P_drop_31 rfl ?_
      refine s_aload_n C e_P_drop_32 rfl ?_
      refine s_get C fc_6 zx_lt_0 (zx_0 _ _ _) 0 (by decide) e_P_drop_33 g_9 rfl ?_
      refine s_iload_n C e_P_drop_36 rfl ?_
      refine s_callV_1 C (c_Rows_remove C.inj _ _) wv_Rows_remove g_44 ⟨by decide, by decide⟩ fc_5 rfl zx_lt_1 (zx_1 _ _ _) rfl (Nat.le_of_ble_eq_true rfl) e_P_drop_37 (fun v5 σ6 => ?_)
      refine s_callV_1 C (c_P_foundNothing C.inj _ _) wv_P_foundNothing g_11 ⟨by decide, by decide⟩ fc_6 rfl zx_lt_0 (zx_0 _ _ _) rfl (Nat.le_of_ble_eq_true rfl) e_P_drop_40 (fun v7 σ8 => ?_)
      exact s_iret C e_P_drop_43
    · refine s_aload_n C e_P_drop_25 rfl ?_
      refine s_iconst C e_P_drop_26 (v := (1 : Int32)) ic_1 ?_
      refine s_callV_1 C (c_P_finding C.inj _ _) wv_P_finding g_20 ⟨by decide, by decide⟩ fc_6 rfl zx_lt_0 (zx_0 _ _ _) rfl (Nat.le_of_ble_eq_true rfl) e_P_drop_27 (fun v9 σ10 => ?_)
      exact s_iret C e_P_drop_30
theorem c_P_drop {l : Launch} {D : va_G} {k : Nat → ClassId} {q : Nat → Nat} (hq : Inj ZX q)  (σ : St) (x1 : Int32) : Ct l ZX D k q yX6_drop cX6_drop 2 (some .int) 2 43 [.ref (q 0), .int x1] σ (m_P_drop σ x1) :=
  Ct_of hq lcX (by decide) (Nat.le_of_ble_eq_true rfl) (fun _ _ _ _ _ _ _ _ _ _ C => w_P_drop C σ x1)
set_option maxRecDepth 100000 in
theorem w_Reader_append {X : CX} (C : Cx X ZX RX4 cX4_append 2 (some .int) 0 0)  (σ : St) (x1 : Int32) : Sm X ZX 2 (some .int) σ [(0, .ref (cq X 13)), (1, .int x1)] 0 [] (m_Reader_append σ x1) := by
  unfold m_Reader_append
  refine s_aload_n C e_Reader_append_0 rfl ?_
  refine s_get C fc_4 zx_lt_13 (zx_13 _ _ _) 1 (by decide) e_Reader_append_1 g_48 rfl ?_
  refine s_sipush C e_Reader_append_4 (v := (130 : Int32)) sp_130 ?_
  refine s_icmp_ge (tgt := 30) C e_Reader_append_7 rfl ?_ ?_
  · refine s_aload_n C e_Reader_append_30 rfl ?_
    refine s_get C fc_4 zx_lt_13 (zx_13 _ _ _) 1 (by decide) e_Reader_append_31 g_48 rfl ?_
    exact s_iret C e_Reader_append_34
  · refine s_aload_n C e_Reader_append_10 rfl ?_
    refine s_get C fc_4 zx_lt_13 (zx_13 _ _ _) 0 (by decide) e_Reader_append_11 g_49 rfl ?_
    refine s_aload_n C e_Reader_append_14 rfl ?_
    refine s_get C fc_4 zx_lt_13 (zx_13 _ _ _) 1 (by decide) e_Reader_append_15 g_48 rfl ?_
    refine s_iload_n C e_Reader_append_18 rfl ?_
    refine s_iast C zx_lt_14 zx_14 e_Reader_append_19 (fun σ1 => ?_)
    refine s_aload_n C e_Reader_append_20 rfl ?_
    refine s_dup C e_Reader_append_21 rfl ?_
    refine s_get C fc_4 zx_lt_13 (zx_13 _ _ _) 1 (by decide) e_Reader_append_22 g_48 rfl ?_
    refine s_iconst C e_Reader_append_25 (v := (1 : Int32)) ic_1 ?_
    refine s_iadd C e_Reader_append_26 ?_
    refine s_put C fc_4 zx_lt_13 (zx_13 _ _ _) 1 (by decide) (zxp_13_1 _ _ _ _) (Nat.le_of_ble_eq_true rfl) e_Reader_append_27 g_48 rfl rfl (fun σ2 => ?_)
    refine s_aload_n C e_Reader_append_30 rfl ?_
    refine s_get C fc_4 zx_lt_13 (zx_13 _ _ _) 1 (by decide) e_Reader_append_31 g_48 rfl ?_
    exact s_iret C e_Reader_append_34
theorem c_Reader_append {l : Launch} {D : va_G} {k : Nat → ClassId} {q : Nat → Nat} (hq : Inj ZX q)  (σ : St) (x1 : Int32) : Ct l ZX D k q yX4_append cX4_append 2 (some .int) 0 0 [.ref (q 13), .int x1] σ (m_Reader_append σ x1) :=
  Ct_of hq lcX (by decide) (Nat.le_of_ble_eq_true rfl) (fun _ _ _ _ _ _ _ _ _ _ C => w_Reader_append C σ x1)
set_option maxRecDepth 100000 in
theorem w_P_feed {X : CX} (C : Cx X ZX RX6 cX6_feed 2 (some .int) 1 22)  (σ : St) (x1 : Int32) : Sm X ZX 2 (some .int) σ [(0, .ref (cq X 0)), (1, .int x1)] 0 [] (m_P_feed σ x1) := by
  unfold m_P_feed
  refine s_iload_n C e_P_feed_0 rfl ?_
  refine s_iconst C e_P_feed_1 (v := (0 : Int32)) ic_0 ?_
  refine s_sipush C e_P_feed_2 (v := (255 : Int32)) sp_255 ?_
  refine s_callS_3 C (c_P_within C.inj _ _ _ _) wv_P_within g_24 ⟨by decide, by decide⟩ rfl (Nat.le_of_ble_eq_true rfl) e_P_feed_5 (fun v1 σ2 => ?_)
  refine s_if_ne (tgt := 14) C e_P_feed_8 rfl ?_ ?_
  · refine s_ldc C e_P_feed_11 g_10 ?_
    exact s_iret C e_P_feed_13
  · refine s_aload_n C e_P_feed_14 rfl ?_
    refine s_get C fc_6 zx_lt_0 (zx_0 _ _ _) 1 (by decide) e_P_feed_15 g_50 rfl ?_
    refine s_get C fc_4 zx_lt_13 (zx_13 _ _ _) 1 (by decide) e_P_feed_18 g_51 rfl ?_
    refine s_sipush C e_P_feed_21 (v := (130 : Int32)) sp_130 ?_
    refine s_icmp_lt (tgt := 30) C e_P_feed_24 rfl ?_ ?_
    · refine s_aload_n C e_P_feed_30 rfl ?_
      refine s_get C fc_6 zx_lt_0 (zx_0 _ _ _) 1 (by decide) e_P_feed_31 g_50 rfl ?_
      refine s_iload_n C e_P_feed_34 rfl ?_
      refine s_callV_1 C (c_Reader_append C.inj _ _) wv_Reader_append g_52 ⟨by decide, by decide⟩ fc_4 rfl zx_lt_13 (zx_13 _ _ _) rfl (Nat.le_of_ble_eq_true rfl) e_P_feed_35 (fun v3 σ4 => ?_)
      exact s_iret C e_P_feed_38
    · refine s_ldc C e_P_feed_27 g_57 ?_
      exact s_iret C e_P_feed_29
theorem c_P_feed {l : Launch} {D : va_G} {k : Nat → ClassId} {q : Nat → Nat} (hq : Inj ZX q)  (σ : St) (x1 : Int32) : Ct l ZX D k q yX6_feed cX6_feed 2 (some .int) 1 22 [.ref (q 0), .int x1] σ (m_P_feed σ x1) :=
  Ct_of hq lcX (by decide) (Nat.le_of_ble_eq_true rfl) (fun _ _ _ _ _ _ _ _ _ _ C => w_P_feed C σ x1)
set_option maxRecDepth 100000 in
theorem w_Board_makeEmpty {X : CX} (C : Cx X ZX RX1 cX1_makeEmpty 1 none 0 0) {b : Nat} (hb : isB b) (σ : St)  : Sm X ZX 1 none σ [(0, .ref (cq X b))] 0 [] (m_Board_makeEmpty b σ) := by
  unfold m_Board_makeEmpty
  refine s_aload_n C e_Board_makeEmpty_0 rfl ?_
  refine s_iconst C e_Board_makeEmpty_1 (v := (0 : Int32)) ic_0 ?_
  refine s_put C fc_1 (zb_lt hb) (zb hb _ _ _) 0 (by decide) (zbp_0 hb _ _ _ _) (Nat.le_of_ble_eq_true rfl) e_Board_makeEmpty_2 g_58 rfl rfl (fun σ1 => ?_)
  refine s_aload_n C e_Board_makeEmpty_5 rfl ?_
  refine s_iconst C e_Board_makeEmpty_6 (v := (0 : Int32)) ic_0 ?_
  refine s_put C fc_1 (zb_lt hb) (zb hb _ _ _) 1 (by decide) (zbp_1 hb _ _ _ _) (Nat.le_of_ble_eq_true rfl) e_Board_makeEmpty_7 g_59 rfl rfl (fun σ2 => ?_)
  refine s_aload_n C e_Board_makeEmpty_10 rfl ?_
  refine s_iconst C e_Board_makeEmpty_11 (v := (0 : Int32)) ic_0 ?_
  refine s_put C fc_1 (zb_lt hb) (zb hb _ _ _) 2 (by decide) (zbp_2 hb _ _ _ _) (Nat.le_of_ble_eq_true rfl) e_Board_makeEmpty_12 g_60 rfl rfl (fun σ3 => ?_)
  refine s_aload_n C e_Board_makeEmpty_15 rfl ?_
  refine s_iconst C e_Board_makeEmpty_16 (v := (0 : Int32)) ic_0 ?_
  refine s_put C fc_1 (zb_lt hb) (zb hb _ _ _) 3 (by decide) (zbp_3 hb _ _ _ _) (Nat.le_of_ble_eq_true rfl) e_Board_makeEmpty_17 g_61 rfl rfl (fun σ4 => ?_)
  refine s_aload_n C e_Board_makeEmpty_20 rfl ?_
  refine s_iconst C e_Board_makeEmpty_21 (v := (0 : Int32)) ic_0 ?_
  refine s_put C fc_1 (zb_lt hb) (zb hb _ _ _) 4 (by decide) (zbp_4 hb _ _ _ _) (Nat.le_of_ble_eq_true rfl) e_Board_makeEmpty_22 g_62 rfl rfl (fun σ5 => ?_)
  refine s_aload_n C e_Board_makeEmpty_25 rfl ?_
  refine s_iconst C e_Board_makeEmpty_26 (v := (1 : Int32)) ic_1 ?_
  refine s_putZ C fc_1 (zb_lt hb) (zb hb _ _ _) 5 (by decide) (zbp_5 hb _ _ _ _) (Nat.le_of_ble_eq_true rfl) e_Board_makeEmpty_27 g_63 rfl rfl (fun σ6 => ?_)
  exact s_vret C e_Board_makeEmpty_30
theorem c_Board_makeEmpty {l : Launch} {D : va_G} {k : Nat → ClassId} {q : Nat → Nat} (hq : Inj ZX q) {b : Nat} (hb : isB b) (σ : St)  : Ct l ZX D k q yX1_makeEmpty cX1_makeEmpty 1 none 0 0 [.ref (q b)] σ (m_Board_makeEmpty b σ) :=
  Ct_of hq lcX (by decide) (Nat.le_of_ble_eq_true rfl) (fun _ _ _ _ _ _ _ _ _ _ C => w_Board_makeEmpty C hb σ)
set_option maxRecDepth 100000 in
theorem w_Reader_isNext {X : CX} (C : Cx X ZX RX4 cX4_isNext 2 (some .boolean) 0 0)  (σ : St) (x1 : Int32) : Sm X ZX 2 (some .boolean) σ [(0, .ref (cq X 13)), (1, .int x1)] 0 [] (m_Reader_isNext σ x1) := by
  unfold m_Reader_isNext
  refine s_aload_n C e_Reader_isNext_0 rfl ?_
  refine s_get C fc_4 zx_lt_13 (zx_13 _ _ _) 4 (by decide) e_Reader_isNext_1 g_64 rfl ?_
  refine s_aload_n C e_Reader_isNext_4 rfl ?_
  refine s_get C fc_4 zx_lt_13 (zx_13 _ _ _) 1 (by decide) e_Reader_isNext_5 g_48 rfl ?_
  refine s_icmp_ge (tgt := 28) C e_Reader_isNext_8 rfl ?_ ?_
  · refine s_iconst C e_Reader_isNext_28 (v := (0 : Int32)) ic_0 ?_
    exact s_zret C e_Reader_isNext_29
  · refine s_aload_n C e_Reader_isNext_11 rfl ?_
    refine s_get C fc_4 zx_lt_13 (zx_13 _ _ _) 0 (by decide) e_Reader_isNext_12 g_49 rfl ?_
    refine s_aload_n C e_Reader_isNext_15 rfl ?_
    refine s_get C fc_4 zx_lt_13 (zx_13 _ _ _) 4 (by decide) e_Reader_isNext_16 g_64 rfl ?_
    refine s_iald C zx_lt_14 zx_14 e_Reader_isNext_19 ?_
    refine s_iload_n C e_Reader_isNext_20 rfl ?_
    refine s_icmp_ne (tgt := 28) C e_Reader_isNext_21 rfl ?_ ?_
    · refine s_iconst C e_Reader_isNext_24 (v := (1 : Int32)) ic_1 ?_
      refine s_goto (tgt := 29) C e_Reader_isNext_25 rfl ?_
      exact s_zret C e_Reader_isNext_29
    · refine s_iconst C e_Reader_isNext_28 (v := (0 : Int32)) ic_0 ?_
      exact s_zret C e_Reader_isNext_29
theorem c_Reader_isNext {l : Launch} {D : va_G} {k : Nat → ClassId} {q : Nat → Nat} (hq : Inj ZX q)  (σ : St) (x1 : Int32) : Ct l ZX D k q yX4_isNext cX4_isNext 2 (some .boolean) 0 0 [.ref (q 13), .int x1] σ (m_Reader_isNext σ x1) :=
  Ct_of hq lcX (by decide) (Nat.le_of_ble_eq_true rfl) (fun _ _ _ _ _ _ _ _ _ _ C => w_Reader_isNext C σ x1)
set_option maxRecDepth 100000 in
theorem w_Reader_faultAt {X : CX} (C : Cx X ZX RX4 cX4_faultAt 3 (some .boolean) 0 0)  (σ : St) (x1 : Int32) (x2 : Int32) : Sm X ZX 3 (some .boolean) σ [(0, .ref (cq X 13)), (1, .int x1), (2, .int x2)] 0 [] (m_Reader_faultAt σ x1 x2) := by
  unfold m_Reader_faultAt
  refine s_aload_n C e_Reader_faultAt_0 rfl ?_
  refine s_iload_n C e_Reader_faultAt_1 rfl ?_
  refine s_put C fc_4 zx_lt_13 (zx_13 _ _ _) 3 (by decide) (zxp_13_3 _ _ _ _) (Nat.le_of_ble_eq_true rfl) e_Reader_faultAt_2 g_65 rfl rfl (fun σ1 => ?_)
  refine s_aload_n C e_Reader_faultAt_5 rfl ?_
  refine s_iload_n C e_Reader_faultAt_6 rfl ?_
  refine s_put C fc_4 zx_lt_13 (zx_13 _ _ _) 2 (by decide) (zxp_13_2 _ _ _ _) (Nat.le_of_ble_eq_true rfl) e_Reader_faultAt_7 g_66 rfl rfl (fun σ2 => ?_)
  refine s_iconst C e_Reader_faultAt_10 (v := (0 : Int32)) ic_0 ?_
  exact s_zret C e_Reader_faultAt_11
theorem c_Reader_faultAt {l : Launch} {D : va_G} {k : Nat → ClassId} {q : Nat → Nat} (hq : Inj ZX q)  (σ : St) (x1 : Int32) (x2 : Int32) : Ct l ZX D k q yX4_faultAt cX4_faultAt 3 (some .boolean) 0 0 [.ref (q 13), .int x1, .int x2] σ (m_Reader_faultAt σ x1 x2) :=
  Ct_of hq lcX (by decide) (Nat.le_of_ble_eq_true rfl) (fun _ _ _ _ _ _ _ _ _ _ C => w_Reader_faultAt C σ x1 x2)
set_option maxRecDepth 100000 in
theorem w_Reader_takes {X : CX} (C : Cx X ZX RX4 cX4_takes 2 (some .boolean) 1 22)  (σ : St) (x1 : Int32) : Sm X ZX 2 (some .boolean) σ [(0, .ref (cq X 13)), (1, .int x1)] 0 [] (m_Reader_takes σ x1) := by
  unfold m_Reader_takes
  refine s_aload_n C e_Reader_takes_0 rfl ?_
  refine s_iload_n C e_Reader_takes_1 rfl ?_
  refine s_callV_1 C (c_Reader_isNext C.inj _ _) wv_Reader_isNext g_71 ⟨by decide, by decide⟩ fc_4 rfl zx_lt_13 (zx_13 _ _ _) rfl (Nat.le_of_ble_eq_true rfl) e_Reader_takes_2 (fun v1 σ2 => ?_)
  refine s_if_ne (tgt := 18) C e_Reader_takes_5 rfl ?_ ?_
  · refine s_aload_n C e_Reader_takes_8 rfl ?_
    refine s_aload_n C e_Reader_takes_9 rfl ?_
    refine s_get C fc_4 zx_lt_13 (zx_13 _ _ _) 4 (by decide) e_Reader_takes_10 g_64 rfl ?_
    refine s_iconst C e_Reader_takes_13 (v := (1 : Int32)) ic_1 ?_
    refine s_callV_2 C (c_Reader_faultAt C.inj _ _ _) wv_Reader_faultAt g_67 ⟨by decide, by decide⟩ fc_4 rfl zx_lt_13 (zx_13 _ _ _) rfl (Nat.le_of_ble_eq_true rfl) e_Reader_takes_14 (fun v4 σ5 => ?_)
    exact s_zret C e_Reader_takes_17
  · refine s_aload_n C e_Reader_takes_18 rfl ?_
    refine s_dup C e_Reader_takes_19 rfl ?_
    refine s_get C fc_4 zx_lt_13 (zx_13 _ _ _) 4 (by decide) e_Reader_takes_20 g_64 rfl ?_
    refine s_iconst C e_Reader_takes_23 (v := (1 : Int32)) ic_1 ?_
    refine s_iadd C e_Reader_takes_24 ?_
    refine s_put C fc_4 zx_lt_13 (zx_13 _ _ _) 4 (by decide) (zxp_13_4 _ _ _ _) (Nat.le_of_ble_eq_true rfl) e_Reader_takes_25 g_64 rfl rfl (fun σ3 => ?_)
    refine s_iconst C e_Reader_takes_28 (v := (1 : Int32)) ic_1 ?_
    exact s_zret C e_Reader_takes_29
theorem c_Reader_takes {l : Launch} {D : va_G} {k : Nat → ClassId} {q : Nat → Nat} (hq : Inj ZX q)  (σ : St) (x1 : Int32) : Ct l ZX D k q yX4_takes cX4_takes 2 (some .boolean) 1 22 [.ref (q 13), .int x1] σ (m_Reader_takes σ x1) :=
  Ct_of hq lcX (by decide) (Nat.le_of_ble_eq_true rfl) (fun _ _ _ _ _ _ _ _ _ _ C => w_Reader_takes C σ x1)
set_option maxRecDepth 100000 in
theorem w_Reader_takesNumber_B109 {X : CX} (C : Cx X ZX RX4 cX4_takesNumber 5 (some .boolean) 1 22)   (σ : St) (x3 : Int32) : Sm X ZX 5 (some .boolean) σ [(0, .ref (cq X 13)), (3, .int x3)] 109 [] (m_Reader_takesNumber_B109 σ x3) := by
  unfold m_Reader_takesNumber_B109
  refine s_aload_n C e_Reader_takesNumber_109 rfl ?_
  refine s_iload_n C e_Reader_takesNumber_110 rfl ?_
  refine s_iconst C e_Reader_takesNumber_111 (v := (1 : Int32)) ic_1 ?_
  refine s_callV_2 C (c_Reader_faultAt C.inj _ _ _) wv_Reader_faultAt g_67 ⟨by decide, by decide⟩ fc_4 rfl zx_lt_13 (zx_13 _ _ _) rfl (Nat.le_of_ble_eq_true rfl) e_Reader_takesNumber_112 (fun v1 σ2 => ?_)
  exact s_zret C e_Reader_takesNumber_115
set_option maxRecDepth 100000 in
theorem w_Reader_takesNumber_B89 {X : CX} (C : Cx X ZX RX4 cX4_takesNumber 5 (some .boolean) 1 22)   (σ : St) (x1 : Int32) (x2 : Int32) (x3 : Int32) : Sm X ZX 5 (some .boolean) σ [(0, .ref (cq X 13)), (1, .int x1), (2, .int x2), (3, .int x3)] 89 [] (m_Reader_takesNumber_B89 σ x1 x2 x3) := by
  unfold m_Reader_takesNumber_B89
  refine s_aload_n C e_Reader_takesNumber_89 rfl ?_
  refine s_get C fc_4 zx_lt_13 (zx_13 _ _ _) 4 (by decide) e_Reader_takesNumber_90 g_64 rfl ?_
  refine s_iload_n C e_Reader_takesNumber_93 rfl ?_
  refine s_isub C e_Reader_takesNumber_94 ?_
  refine s_nm (fun y1 => ?_)
  refine s_istore C e_Reader_takesNumber_95 (by decide) ?_
  refine s_iload C e_Reader_takesNumber_97 rfl ?_
  refine s_iconst C e_Reader_takesNumber_99 (v := (1 : Int32)) ic_1 ?_
  refine s_icmp_lt (tgt := 109) C e_Reader_takesNumber_100 rfl ?_ ?_
  · exact s_cut (w_Reader_takesNumber_B109 C _ _) ⟨rfl, rfl, trivial⟩
  · refine s_iload C e_Reader_takesNumber_103 rfl ?_
    refine s_iconst C e_Reader_takesNumber_105 (v := (2 : Int32)) ic_2 ?_
    refine s_icmp_le (tgt := 116) C e_Reader_takesNumber_106 rfl ?_ ?_
    · refine s_aload_n C e_Reader_takesNumber_116 rfl ?_
      refine s_get C fc_4 zx_lt_13 (zx_13 _ _ _) 5 (by decide) e_Reader_takesNumber_117 g_75 rfl ?_
      refine s_iload_n C e_Reader_takesNumber_120 rfl ?_
      refine s_iload_n C e_Reader_takesNumber_121 rfl ?_
      refine s_callN_3 C (c_P_within C.inj _ _ _ _) wv_P_within g_76 ⟨by decide, by decide⟩ rfl (Nat.le_of_ble_eq_true rfl) e_Reader_takesNumber_122 (fun v2 σ3 => ?_)
      refine s_if_ne (tgt := 137) C e_Reader_takesNumber_125 rfl ?_ ?_
      · refine s_aload_n C e_Reader_takesNumber_128 rfl ?_
        refine s_iload_n C e_Reader_takesNumber_129 rfl ?_
        refine s_iconst C e_Reader_takesNumber_130 (v := (2 : Int32)) ic_2 ?_
        refine s_callV_2 C (c_Reader_faultAt C.inj _ _ _) wv_Reader_faultAt g_67 ⟨by decide, by decide⟩ fc_4 rfl zx_lt_13 (zx_13 _ _ _) rfl (Nat.le_of_ble_eq_true rfl) e_Reader_takesNumber_131 (fun v4 σ5 => ?_)
        refine s_if_eq (tgt := 141) C e_Reader_takesNumber_134 rfl ?_ ?_
        · refine s_iconst C e_Reader_takesNumber_141 (v := (0 : Int32)) ic_0 ?_
          exact s_zret C e_Reader_takesNumber_142
        · refine s_iconst C e_Reader_takesNumber_137 (v := (1 : Int32)) ic_1 ?_
          refine s_goto (tgt := 142) C e_Reader_takesNumber_138 rfl ?_
          exact s_zret C e_Reader_takesNumber_142
      · refine s_iconst C e_Reader_takesNumber_137 (v := (1 : Int32)) ic_1 ?_
        refine s_goto (tgt := 142) C e_Reader_takesNumber_138 rfl ?_
        exact s_zret C e_Reader_takesNumber_142
    · exact s_cut (w_Reader_takesNumber_B109 C _ _) ⟨rfl, rfl, trivial⟩
set_option maxRecDepth 100000 in
theorem w_Reader_takesNumber_B13 {X : CX} (C : Cx X ZX RX4 cX4_takesNumber 5 (some .boolean) 1 22)  (r13 : St → Int32 → Int32 → Int32 → Int32 → Rt) (hr13 : ∀ (σ : St) (x1 : Int32) (x2 : Int32) (x3 : Int32) (x4 : Int32), Sm X ZX 5 (some .boolean) σ [(0, .ref (cq X 13)), (1, .int x1), (2, .int x2), (3, .int x3), (4, .int x4)] 13 [] (r13 σ x1 x2 x3 x4)) (σ : St) (x1 : Int32) (x2 : Int32) (x3 : Int32) (x4 : Int32) : Sm X ZX 5 (some .boolean) σ [(0, .ref (cq X 13)), (1, .int x1), (2, .int x2), (3, .int x3), (4, .int x4)] 13 [] (m_Reader_takesNumber_B13 r13 σ x1 x2 x3 x4) := by
  unfold m_Reader_takesNumber_B13
  refine s_iload C e_Reader_takesNumber_13 rfl ?_
  refine s_iconst C e_Reader_takesNumber_15 (v := (3 : Int32)) ic_3 ?_
  refine s_icmp_ge (tgt := 89) C e_Reader_takesNumber_16 rfl ?_ ?_
  · exact s_cut (w_Reader_takesNumber_B89 C _ _ _ _) ⟨rfl, rfl, rfl, rfl, trivial⟩
  · refine s_aload_n C e_Reader_takesNumber_19 rfl ?_
    refine s_get C fc_4 zx_lt_13 (zx_13 _ _ _) 4 (by decide) e_Reader_takesNumber_20 g_64 rfl ?_
    refine s_aload_n C e_Reader_takesNumber_23 rfl ?_
    refine s_get C fc_4 zx_lt_13 (zx_13 _ _ _) 1 (by decide) e_Reader_takesNumber_24 g_48 rfl ?_
    refine s_icmp_ge (tgt := 89) C e_Reader_takesNumber_27 rfl ?_ ?_
    · exact s_cut (w_Reader_takesNumber_B89 C _ _ _ _) ⟨rfl, rfl, rfl, rfl, trivial⟩
    · refine s_aload_n C e_Reader_takesNumber_30 rfl ?_
      refine s_get C fc_4 zx_lt_13 (zx_13 _ _ _) 0 (by decide) e_Reader_takesNumber_31 g_49 rfl ?_
      refine s_aload_n C e_Reader_takesNumber_34 rfl ?_
      refine s_get C fc_4 zx_lt_13 (zx_13 _ _ _) 4 (by decide) e_Reader_takesNumber_35 g_64 rfl ?_
      refine s_iald C zx_lt_14 zx_14 e_Reader_takesNumber_38 ?_
      refine s_bipush C e_Reader_takesNumber_39 (v := (48 : Int32)) bp_48 ?_
      refine s_bipush C e_Reader_takesNumber_41 (v := (57 : Int32)) bp_57 ?_
      refine s_callN_3 C (c_P_within C.inj _ _ _ _) wv_P_within g_76 ⟨by decide, by decide⟩ rfl (Nat.le_of_ble_eq_true rfl) e_Reader_takesNumber_43 (fun v1 σ2 => ?_)
      refine s_if_eq (tgt := 89) C e_Reader_takesNumber_46 rfl ?_ ?_
      · exact s_cut (w_Reader_takesNumber_B89 C _ _ _ _) ⟨rfl, rfl, rfl, rfl, trivial⟩
      · refine s_aload_n C e_Reader_takesNumber_49 rfl ?_
        refine s_aload_n C e_Reader_takesNumber_50 rfl ?_
        refine s_get C fc_4 zx_lt_13 (zx_13 _ _ _) 5 (by decide) e_Reader_takesNumber_51 g_75 rfl ?_
        refine s_bipush C e_Reader_takesNumber_54 (v := (10 : Int32)) bp_10 ?_
        refine s_imul C e_Reader_takesNumber_56 ?_
        refine s_aload_n C e_Reader_takesNumber_57 rfl ?_
        refine s_get C fc_4 zx_lt_13 (zx_13 _ _ _) 0 (by decide) e_Reader_takesNumber_58 g_49 rfl ?_
        refine s_aload_n C e_Reader_takesNumber_61 rfl ?_
        refine s_get C fc_4 zx_lt_13 (zx_13 _ _ _) 4 (by decide) e_Reader_takesNumber_62 g_64 rfl ?_
        refine s_iald C zx_lt_14 zx_14 e_Reader_takesNumber_65 ?_
        refine s_iadd C e_Reader_takesNumber_66 ?_
        refine s_bipush C e_Reader_takesNumber_67 (v := (48 : Int32)) bp_48 ?_
        refine s_isub C e_Reader_takesNumber_69 ?_
        refine s_put C fc_4 zx_lt_13 (zx_13 _ _ _) 5 (by decide) (zxp_13_5 _ _ _ _) (Nat.le_of_ble_eq_true rfl) e_Reader_takesNumber_70 g_75 rfl rfl (fun σ3 => ?_)
        refine s_aload_n C e_Reader_takesNumber_73 rfl ?_
        refine s_dup C e_Reader_takesNumber_74 rfl ?_
        refine s_get C fc_4 zx_lt_13 (zx_13 _ _ _) 4 (by decide) e_Reader_takesNumber_75 g_64 rfl ?_
        refine s_iconst C e_Reader_takesNumber_78 (v := (1 : Int32)) ic_1 ?_
        refine s_iadd C e_Reader_takesNumber_79 ?_
        refine s_put C fc_4 zx_lt_13 (zx_13 _ _ _) 4 (by decide) (zxp_13_4 _ _ _ _) (Nat.le_of_ble_eq_true rfl) e_Reader_takesNumber_80 g_64 rfl rfl (fun σ4 => ?_)
        refine s_iinc C e_Reader_takesNumber_83 (v := (1 : Int32)) rfl (by decide) ii_1 ?_
        refine s_goto (tgt := 13) C e_Reader_takesNumber_86 rfl ?_
        exact s_cut (hr13 _ _ _ _ _) ⟨rfl, rfl, rfl, rfl, rfl, trivial⟩
theorem w_Reader_takesNumber_L13 {X : CX} (C : Cx X ZX RX4 cX4_takesNumber 5 (some .boolean) 1 22)   : ∀ (n : Nat) (σ : St) (x1 : Int32) (x2 : Int32) (x3 : Int32) (x4 : Int32), Sm X ZX 5 (some .boolean) σ [(0, .ref (cq X 13)), (1, .int x1), (2, .int x2), (3, .int x3), (4, .int x4)] 13 [] (m_Reader_takesNumber_L13 n σ x1 x2 x3 x4)
  | 0, _, _, _, _, _ => s_none
  | n + 1, σ, x1, x2, x3, x4 => w_Reader_takesNumber_B13 C (m_Reader_takesNumber_L13 n) (w_Reader_takesNumber_L13 C n) σ x1 x2 x3 x4
set_option maxRecDepth 100000 in
theorem w_Reader_takesNumber {X : CX} (C : Cx X ZX RX4 cX4_takesNumber 5 (some .boolean) 1 22)  (σ : St) (x1 : Int32) (x2 : Int32) : Sm X ZX 5 (some .boolean) σ [(0, .ref (cq X 13)), (1, .int x1), (2, .int x2)] 0 [] (m_Reader_takesNumber σ x1 x2) := by
  unfold m_Reader_takesNumber
  refine s_aload_n C e_Reader_takesNumber_0 rfl ?_
  refine s_get C fc_4 zx_lt_13 (zx_13 _ _ _) 4 (by decide) e_Reader_takesNumber_1 g_64 rfl ?_
  refine s_nm (fun y1 => ?_)
  refine s_istore_n C e_Reader_takesNumber_4 (by decide) ?_
  refine s_aload_n C e_Reader_takesNumber_5 rfl ?_
  refine s_iconst C e_Reader_takesNumber_6 (v := (0 : Int32)) ic_0 ?_
  refine s_put C fc_4 zx_lt_13 (zx_13 _ _ _) 5 (by decide) (zxp_13_5 _ _ _ _) (Nat.le_of_ble_eq_true rfl) e_Reader_takesNumber_7 g_75 rfl rfl (fun σ2 => ?_)
  refine s_iconst C e_Reader_takesNumber_10 (v := (0 : Int32)) ic_0 ?_
  refine s_istore C e_Reader_takesNumber_11 (by decide) ?_
  exact s_cut (w_Reader_takesNumber_L13 C FU _ _ _ _ _) ⟨rfl, rfl, rfl, rfl, rfl, trivial⟩
theorem c_Reader_takesNumber {l : Launch} {D : va_G} {k : Nat → ClassId} {q : Nat → Nat} (hq : Inj ZX q)  (σ : St) (x1 : Int32) (x2 : Int32) : Ct l ZX D k q yX4_takesNumber cX4_takesNumber 5 (some .boolean) 1 22 [.ref (q 13), .int x1, .int x2] σ (m_Reader_takesNumber σ x1 x2) :=
  Ct_of hq lcX (by decide) (Nat.le_of_ble_eq_true rfl) (fun _ _ _ _ _ _ _ _ _ _ C => w_Reader_takesNumber C σ x1 x2)
set_option maxRecDepth 100000 in
theorem w_Reader_readLaw {X : CX} (C : Cx X ZX RX4 cX4_readLaw 2 (some .boolean) 2 46) {o : Nat} (ho : isB o) (σ : St)  : Sm X ZX 2 (some .boolean) σ [(0, .ref (cq X 13)), (1, .ref (cq X o))] 0 [] (m_Reader_readLaw o σ) := by
  unfold m_Reader_readLaw
  refine s_aload_n C e_Reader_readLaw_0 rfl ?_
  refine s_bipush C e_Reader_readLaw_1 (v := (109 : Int32)) bp_109 ?_
  refine s_callV_1 C (c_Reader_takes C.inj _ _) wv_Reader_takes g_78 ⟨by decide, by decide⟩ fc_4 rfl zx_lt_13 (zx_13 _ _ _) rfl (Nat.le_of_ble_eq_true rfl) e_Reader_readLaw_3 (fun v1 σ2 => ?_)
  refine s_if_eq (tgt := 19) C e_Reader_readLaw_6 rfl ?_ ?_
  · refine s_iconst C e_Reader_readLaw_19 (v := (0 : Int32)) ic_0 ?_
    exact s_zret C e_Reader_readLaw_20
  · refine s_aload_n C e_Reader_readLaw_9 rfl ?_
    refine s_iconst C e_Reader_readLaw_10 (v := (0 : Int32)) ic_0 ?_
    refine s_bipush C e_Reader_readLaw_11 (v := (15 : Int32)) bp_15 ?_
    refine s_callV_2 C (c_Reader_takesNumber C.inj _ _ _) wv_Reader_takesNumber g_82 ⟨by decide, by decide⟩ fc_4 rfl zx_lt_13 (zx_13 _ _ _) rfl (Nat.le_of_ble_eq_true rfl) e_Reader_readLaw_13 (fun v3 σ4 => ?_)
    refine s_if_ne (tgt := 21) C e_Reader_readLaw_16 rfl ?_ ?_
    · refine s_iconst C e_Reader_readLaw_19 (v := (0 : Int32)) ic_0 ?_
      exact s_zret C e_Reader_readLaw_20
    · refine s_aload_n C e_Reader_readLaw_21 rfl ?_
      refine s_aload_n C e_Reader_readLaw_22 rfl ?_
      refine s_get C fc_4 zx_lt_13 (zx_13 _ _ _) 5 (by decide) e_Reader_readLaw_23 g_75 rfl ?_
      refine s_put C fc_1 (zb_lt ho) (zb ho _ _ _) 2 (by decide) (zbp_2 ho _ _ _ _) (Nat.le_of_ble_eq_true rfl) e_Reader_readLaw_26 g_77 rfl rfl (fun σ5 => ?_)
      refine s_aload_n C e_Reader_readLaw_29 rfl ?_
      refine s_bipush C e_Reader_readLaw_30 (v := (59 : Int32)) bp_59 ?_
      refine s_callV_1 C (c_Reader_takes C.inj _ _) wv_Reader_takes g_78 ⟨by decide, by decide⟩ fc_4 rfl zx_lt_13 (zx_13 _ _ _) rfl (Nat.le_of_ble_eq_true rfl) e_Reader_readLaw_32 (fun v6 σ7 => ?_)
      exact s_zret C e_Reader_readLaw_35
theorem c_Reader_readLaw {l : Launch} {D : va_G} {k : Nat → ClassId} {q : Nat → Nat} (hq : Inj ZX q) {o : Nat} (ho : isB o) (σ : St)  : Ct l ZX D k q yX4_readLaw cX4_readLaw 2 (some .boolean) 2 46 [.ref (q 13), .ref (q o)] σ (m_Reader_readLaw o σ) :=
  Ct_of hq lcX (by decide) (Nat.le_of_ble_eq_true rfl) (fun _ _ _ _ _ _ _ _ _ _ C => w_Reader_readLaw C ho σ)
set_option maxRecDepth 100000 in
theorem w_Reader_readCell {X : CX} (C : Cx X ZX RX4 cX4_readCell 2 (some .boolean) 2 46) {o : Nat} (ho : isB o) (σ : St)  : Sm X ZX 2 (some .boolean) σ [(0, .ref (cq X 13)), (1, .ref (cq X o))] 0 [] (m_Reader_readCell o σ) := by
  unfold m_Reader_readCell
  refine s_aload_n C e_Reader_readCell_0 rfl ?_
  refine s_get C fc_1 (zb_lt ho) (zb ho _ _ _) 0 (by decide) e_Reader_readCell_1 g_86 rfl ?_
  refine s_bipush C e_Reader_readCell_4 (v := (16 : Int32)) bp_16 ?_
  refine s_icmp_lt (tgt := 19) C e_Reader_readCell_6 rfl ?_ ?_
  · refine s_aload_n C e_Reader_readCell_19 rfl ?_
    refine s_bipush C e_Reader_readCell_20 (v := (99 : Int32)) bp_99 ?_
    refine s_callV_1 C (c_Reader_takes C.inj _ _) wv_Reader_takes g_78 ⟨by decide, by decide⟩ fc_4 rfl zx_lt_13 (zx_13 _ _ _) rfl (Nat.le_of_ble_eq_true rfl) e_Reader_readCell_22 (fun v1 σ2 => ?_)
    refine s_if_eq (tgt := 38) C e_Reader_readCell_25 rfl ?_ ?_
    · refine s_iconst C e_Reader_readCell_38 (v := (0 : Int32)) ic_0 ?_
      exact s_zret C e_Reader_readCell_39
    · refine s_aload_n C e_Reader_readCell_28 rfl ?_
      refine s_iconst C e_Reader_readCell_29 (v := (0 : Int32)) ic_0 ?_
      refine s_bipush C e_Reader_readCell_30 (v := (9 : Int32)) bp_9 ?_
      refine s_callV_2 C (c_Reader_takesNumber C.inj _ _ _) wv_Reader_takesNumber g_82 ⟨by decide, by decide⟩ fc_4 rfl zx_lt_13 (zx_13 _ _ _) rfl (Nat.le_of_ble_eq_true rfl) e_Reader_readCell_32 (fun v3 σ4 => ?_)
      refine s_if_ne (tgt := 40) C e_Reader_readCell_35 rfl ?_ ?_
      · refine s_iconst C e_Reader_readCell_38 (v := (0 : Int32)) ic_0 ?_
        exact s_zret C e_Reader_readCell_39
      · refine s_aload_n C e_Reader_readCell_40 rfl ?_
        refine s_get C fc_1 (zb_lt ho) (zb ho _ _ _) 6 (by decide) e_Reader_readCell_41 g_87 rfl ?_
        refine s_aload_n C e_Reader_readCell_44 rfl ?_
        refine s_get C fc_1 (zb_lt ho) (zb ho _ _ _) 0 (by decide) e_Reader_readCell_45 g_86 rfl ?_
        refine s_aload_n C e_Reader_readCell_48 rfl ?_
        refine s_get C fc_4 zx_lt_13 (zx_13 _ _ _) 5 (by decide) e_Reader_readCell_49 g_75 rfl ?_
        refine s_iast C (zb1_lt ho) (zb1 ho) e_Reader_readCell_52 (fun σ5 => ?_)
        refine s_aload_n C e_Reader_readCell_53 rfl ?_
        refine s_dup C e_Reader_readCell_54 rfl ?_
        refine s_get C fc_1 (zb_lt ho) (zb ho _ _ _) 0 (by decide) e_Reader_readCell_55 g_86 rfl ?_
        refine s_iconst C e_Reader_readCell_58 (v := (1 : Int32)) ic_1 ?_
        refine s_iadd C e_Reader_readCell_59 ?_
        refine s_put C fc_1 (zb_lt ho) (zb ho _ _ _) 0 (by decide) (zbp_0 ho _ _ _ _) (Nat.le_of_ble_eq_true rfl) e_Reader_readCell_60 g_86 rfl rfl (fun σ6 => ?_)
        refine s_aload_n C e_Reader_readCell_63 rfl ?_
        refine s_bipush C e_Reader_readCell_64 (v := (59 : Int32)) bp_59 ?_
        refine s_callV_1 C (c_Reader_takes C.inj _ _) wv_Reader_takes g_78 ⟨by decide, by decide⟩ fc_4 rfl zx_lt_13 (zx_13 _ _ _) rfl (Nat.le_of_ble_eq_true rfl) e_Reader_readCell_66 (fun v7 σ8 => ?_)
        exact s_zret C e_Reader_readCell_69
  · refine s_aload_n C e_Reader_readCell_9 rfl ?_
    refine s_aload_n C e_Reader_readCell_10 rfl ?_
    refine s_get C fc_4 zx_lt_13 (zx_13 _ _ _) 4 (by decide) e_Reader_readCell_11 g_64 rfl ?_
    refine s_iconst C e_Reader_readCell_14 (v := (3 : Int32)) ic_3 ?_
    refine s_callV_2 C (c_Reader_faultAt C.inj _ _ _) wv_Reader_faultAt g_67 ⟨by decide, by decide⟩ fc_4 rfl zx_lt_13 (zx_13 _ _ _) rfl (Nat.le_of_ble_eq_true rfl) e_Reader_readCell_15 (fun v9 σ10 => ?_)
    exact s_zret C e_Reader_readCell_18
theorem c_Reader_readCell {l : Launch} {D : va_G} {k : Nat → ClassId} {q : Nat → Nat} (hq : Inj ZX q) {o : Nat} (ho : isB o) (σ : St)  : Ct l ZX D k q yX4_readCell cX4_readCell 2 (some .boolean) 2 46 [.ref (q 13), .ref (q o)] σ (m_Reader_readCell o σ) :=
  Ct_of hq lcX (by decide) (Nat.le_of_ble_eq_true rfl) (fun _ _ _ _ _ _ _ _ _ _ C => w_Reader_readCell C ho σ)
set_option maxRecDepth 100000 in
theorem w_Reader_readCells_B33 {X : CX} (C : Cx X ZX RX4 cX4_readCells 3 (some .boolean) 3 67) {o : Nat} (ho : isB o)  (σ : St)  : Sm X ZX 3 (some .boolean) σ [(0, .ref (cq X 13)), (1, .ref (cq X o))] 33 [] (m_Reader_readCells_B33 o σ) := by
  unfold m_Reader_readCells_B33
  refine s_aload_n C e_Reader_readCells_33 rfl ?_
  refine s_get C fc_1 (zb_lt ho) (zb ho _ _ _) 0 (by decide) e_Reader_readCells_34 g_86 rfl ?_
  refine s_iconst C e_Reader_readCells_37 (v := (4 : Int32)) ic_4 ?_
  refine s_icmp_ge (tgt := 53) C e_Reader_readCells_38 rfl ?_ ?_
  · refine s_iconst C e_Reader_readCells_53 (v := (1 : Int32)) ic_1 ?_
    refine s_goto (tgt := 58) C e_Reader_readCells_54 rfl ?_
    exact s_zret C e_Reader_readCells_58
  · refine s_aload_n C e_Reader_readCells_41 rfl ?_
    refine s_aload_n C e_Reader_readCells_42 rfl ?_
    refine s_get C fc_4 zx_lt_13 (zx_13 _ _ _) 4 (by decide) e_Reader_readCells_43 g_64 rfl ?_
    refine s_iconst C e_Reader_readCells_46 (v := (1 : Int32)) ic_1 ?_
    refine s_callV_2 C (c_Reader_faultAt C.inj _ _ _) wv_Reader_faultAt g_67 ⟨by decide, by decide⟩ fc_4 rfl zx_lt_13 (zx_13 _ _ _) rfl (Nat.le_of_ble_eq_true rfl) e_Reader_readCells_47 (fun v1 σ2 => ?_)
    refine s_if_eq (tgt := 57) C e_Reader_readCells_50 rfl ?_ ?_
    · refine s_iconst C e_Reader_readCells_57 (v := (0 : Int32)) ic_0 ?_
      exact s_zret C e_Reader_readCells_58
    · refine s_iconst C e_Reader_readCells_53 (v := (1 : Int32)) ic_1 ?_
      refine s_goto (tgt := 58) C e_Reader_readCells_54 rfl ?_
      exact s_zret C e_Reader_readCells_58
set_option maxRecDepth 100000 in
theorem w_Reader_readCells_B2 {X : CX} (C : Cx X ZX RX4 cX4_readCells 3 (some .boolean) 3 67) {o : Nat} (ho : isB o) (r2 : St → Int32 → Rt) (hr2 : ∀ (σ : St) (x2 : Int32), Sm X ZX 3 (some .boolean) σ [(0, .ref (cq X 13)), (1, .ref (cq X o)), (2, .int x2)] 2 [] (r2 σ x2)) (σ : St) (x2 : Int32) : Sm X ZX 3 (some .boolean) σ [(0, .ref (cq X 13)), (1, .ref (cq X o)), (2, .int x2)] 2 [] (m_Reader_readCells_B2 o r2 σ x2) := by
  unfold m_Reader_readCells_B2
  refine s_iload_n C e_Reader_readCells_2 rfl ?_
  refine s_bipush C e_Reader_readCells_3 (v := (16 : Int32)) bp_16 ?_
  refine s_icmp_gt (tgt := 33) C e_Reader_readCells_5 rfl ?_ ?_
  · exact s_cut (w_Reader_readCells_B33 C ho _) ⟨rfl, rfl, trivial⟩
  · refine s_aload_n C e_Reader_readCells_8 rfl ?_
    refine s_bipush C e_Reader_readCells_9 (v := (99 : Int32)) bp_99 ?_
    refine s_callV_1 C (c_Reader_isNext C.inj _ _) wv_Reader_isNext g_71 ⟨by decide, by decide⟩ fc_4 rfl zx_lt_13 (zx_13 _ _ _) rfl (Nat.le_of_ble_eq_true rfl) e_Reader_readCells_11 (fun v1 σ2 => ?_)
    refine s_if_eq (tgt := 33) C e_Reader_readCells_14 rfl ?_ ?_
    · exact s_cut (w_Reader_readCells_B33 C ho _) ⟨rfl, rfl, trivial⟩
    · refine s_aload_n C e_Reader_readCells_17 rfl ?_
      refine s_aload_n C e_Reader_readCells_18 rfl ?_
      refine s_callV_1 C (c_Reader_readCell C.inj ho _) wv_Reader_readCell g_88 ⟨by decide, by decide⟩ fc_4 rfl zx_lt_13 (zx_13 _ _ _) rfl (Nat.le_of_ble_eq_true rfl) e_Reader_readCells_19 (fun v3 σ4 => ?_)
      refine s_if_ne (tgt := 27) C e_Reader_readCells_22 rfl ?_ ?_
      · refine s_iconst C e_Reader_readCells_25 (v := (0 : Int32)) ic_0 ?_
        exact s_zret C e_Reader_readCells_26
      · refine s_iinc C e_Reader_readCells_27 (v := (1 : Int32)) rfl (by decide) ii_1 ?_
        refine s_goto (tgt := 2) C e_Reader_readCells_30 rfl ?_
        exact s_cut (hr2 _ _) ⟨rfl, rfl, rfl, trivial⟩
theorem w_Reader_readCells_L2 {X : CX} (C : Cx X ZX RX4 cX4_readCells 3 (some .boolean) 3 67) {o : Nat} (ho : isB o)  : ∀ (n : Nat) (σ : St) (x2 : Int32), Sm X ZX 3 (some .boolean) σ [(0, .ref (cq X 13)), (1, .ref (cq X o)), (2, .int x2)] 2 [] (m_Reader_readCells_L2 o n σ x2)
  | 0, _, _ => s_none
  | n + 1, σ, x2 => w_Reader_readCells_B2 C ho (m_Reader_readCells_L2 o n) (w_Reader_readCells_L2 C ho n) σ x2
set_option maxRecDepth 100000 in
theorem w_Reader_readCells {X : CX} (C : Cx X ZX RX4 cX4_readCells 3 (some .boolean) 3 67) {o : Nat} (ho : isB o) (σ : St)  : Sm X ZX 3 (some .boolean) σ [(0, .ref (cq X 13)), (1, .ref (cq X o))] 0 [] (m_Reader_readCells o σ) := by
  unfold m_Reader_readCells
  refine s_iconst C e_Reader_readCells_0 (v := (0 : Int32)) ic_0 ?_
  refine s_istore_n C e_Reader_readCells_1 (by decide) ?_
  exact s_cut (w_Reader_readCells_L2 C ho FU _ _) ⟨rfl, rfl, rfl, trivial⟩
theorem c_Reader_readCells {l : Launch} {D : va_G} {k : Nat → ClassId} {q : Nat → Nat} (hq : Inj ZX q) {o : Nat} (ho : isB o) (σ : St)  : Ct l ZX D k q yX4_readCells cX4_readCells 3 (some .boolean) 3 67 [.ref (q 13), .ref (q o)] σ (m_Reader_readCells o σ) :=
  Ct_of hq lcX (by decide) (Nat.le_of_ble_eq_true rfl) (fun _ _ _ _ _ _ _ _ _ _ C => w_Reader_readCells C ho σ)
set_option maxRecDepth 100000 in
theorem w_Reader_kindOf {X : CX} (C : Cx X ZX RX4 cX4_kindOf 1 (some .int) 0 0)  (σ : St) (x0 : Int32) : Sm X ZX 1 (some .int) σ [(0, .int x0)] 0 [] (m_Reader_kindOf σ x0) := by
  unfold m_Reader_kindOf
  refine s_iload_n C e_Reader_kindOf_0 rfl ?_
  refine s_split (fun h1_97 => ?_) (fun h1_97 => ?_)
  · refine s_look (off := 51) (tgt := 52) C e_Reader_kindOf_1 rfl (by rw [h1_97]; rfl) rfl ?_
    refine s_iconst C e_Reader_kindOf_52 (v := (1 : Int32)) ic_1 ?_
    exact s_iret C e_Reader_kindOf_53
  · skip
    refine s_split (fun h1_111 => ?_) (fun h1_111 => ?_)
    · refine s_look (off := 57) (tgt := 58) C e_Reader_kindOf_1 rfl (by rw [h1_111]; rfl) rfl ?_
      refine s_iconst C e_Reader_kindOf_58 (v := (4 : Int32)) ic_4 ?_
      exact s_iret C e_Reader_kindOf_59
    · skip
      refine s_split (fun h1_114 => ?_) (fun h1_114 => ?_)
      · refine s_look (off := 55) (tgt := 56) C e_Reader_kindOf_1 rfl (by rw [h1_114]; rfl) rfl ?_
        refine s_iconst C e_Reader_kindOf_56 (v := (3 : Int32)) ic_3 ?_
        exact s_iret C e_Reader_kindOf_57
      · skip
        refine s_split (fun h1_115 => ?_) (fun h1_115 => ?_)
        · refine s_look (off := 53) (tgt := 54) C e_Reader_kindOf_1 rfl (by rw [h1_115]; rfl) rfl ?_
          refine s_iconst C e_Reader_kindOf_54 (v := (2 : Int32)) ic_2 ?_
          exact s_iret C e_Reader_kindOf_55
        · skip
          refine s_split (fun h1_119 => ?_) (fun h1_119 => ?_)
          · refine s_look (off := 59) (tgt := 60) C e_Reader_kindOf_1 rfl (by rw [h1_119]; rfl) rfl ?_
            refine s_iconst C e_Reader_kindOf_60 (v := (5 : Int32)) ic_5 ?_
            exact s_iret C e_Reader_kindOf_61
          · skip
            refine s_look (off := 61) (tgt := 62) C e_Reader_kindOf_1 rfl (by simp [Op.lookupswitch.offset, Ne.symm (ne_i (z := 97) rfl h1_97), Ne.symm (ne_i (z := 111) rfl h1_111), Ne.symm (ne_i (z := 114) rfl h1_114), Ne.symm (ne_i (z := 115) rfl h1_115), Ne.symm (ne_i (z := 119) rfl h1_119)]) rfl ?_
            refine s_iconst C e_Reader_kindOf_62 (v := (0 : Int32)) ic_0 ?_
            exact s_iret C e_Reader_kindOf_63
theorem c_Reader_kindOf {l : Launch} {D : va_G} {k : Nat → ClassId} {q : Nat → Nat} (hq : Inj ZX q)  (σ : St) (x0 : Int32) : Ct l ZX D k q yX4_kindOf cX4_kindOf 1 (some .int) 0 0 [.int x0] σ (m_Reader_kindOf σ x0) :=
  Ct_of hq lcX (by decide) (Nat.le_of_ble_eq_true rfl) (fun _ _ _ _ _ _ _ _ _ _ C => w_Reader_kindOf C σ x0)
set_option maxRecDepth 100000 in
theorem w_Board_owner_B2 {X : CX} (C : Cx X ZX RX1 cX1_owner 3 (some .int) 0 0) {b : Nat} (hb : isB b) (r2 : St → Int32 → Int32 → Rt) (hr2 : ∀ (σ : St) (x1 : Int32) (x2 : Int32), Sm X ZX 3 (some .int) σ [(0, .ref (cq X b)), (1, .int x1), (2, .int x2)] 2 [] (r2 σ x1 x2)) (σ : St) (x1 : Int32) (x2 : Int32) : Sm X ZX 3 (some .int) σ [(0, .ref (cq X b)), (1, .int x1), (2, .int x2)] 2 [] (m_Board_owner_B2 b r2 σ x1 x2) := by
  unfold m_Board_owner_B2
  refine s_iload_n C e_Board_owner_2 rfl ?_
  refine s_aload_n C e_Board_owner_3 rfl ?_
  refine s_get C fc_1 (zb_lt hb) (zb hb _ _ _) 1 (by decide) e_Board_owner_4 g_59 rfl ?_
  refine s_icmp_ge (tgt := 28) C e_Board_owner_7 rfl ?_ ?_
  · refine s_ldc C e_Board_owner_28 g_92 ?_
    exact s_iret C e_Board_owner_30
  · refine s_aload_n C e_Board_owner_10 rfl ?_
    refine s_get C fc_1 (zb_lt hb) (zb hb _ _ _) 7 (by decide) e_Board_owner_11 g_93 rfl ?_
    refine s_iload_n C e_Board_owner_14 rfl ?_
    refine s_iald C (zb2_lt hb) (zb2 hb) e_Board_owner_15 ?_
    refine s_iload_n C e_Board_owner_16 rfl ?_
    refine s_icmp_ne (tgt := 22) C e_Board_owner_17 rfl ?_ ?_
    · refine s_iload_n C e_Board_owner_20 rfl ?_
      exact s_iret C e_Board_owner_21
    · refine s_iinc C e_Board_owner_22 (v := (1 : Int32)) rfl (by decide) ii_1 ?_
      refine s_goto (tgt := 2) C e_Board_owner_25 rfl ?_
      exact s_cut (hr2 _ _ _) ⟨rfl, rfl, rfl, trivial⟩
theorem w_Board_owner_L2 {X : CX} (C : Cx X ZX RX1 cX1_owner 3 (some .int) 0 0) {b : Nat} (hb : isB b)  : ∀ (n : Nat) (σ : St) (x1 : Int32) (x2 : Int32), Sm X ZX 3 (some .int) σ [(0, .ref (cq X b)), (1, .int x1), (2, .int x2)] 2 [] (m_Board_owner_L2 b n σ x1 x2)
  | 0, _, _, _ => s_none
  | n + 1, σ, x1, x2 => w_Board_owner_B2 C hb (m_Board_owner_L2 b n) (w_Board_owner_L2 C hb n) σ x1 x2
set_option maxRecDepth 100000 in
theorem w_Board_owner {X : CX} (C : Cx X ZX RX1 cX1_owner 3 (some .int) 0 0) {b : Nat} (hb : isB b) (σ : St) (x1 : Int32) : Sm X ZX 3 (some .int) σ [(0, .ref (cq X b)), (1, .int x1)] 0 [] (m_Board_owner b σ x1) := by
  unfold m_Board_owner
  refine s_iconst C e_Board_owner_0 (v := (0 : Int32)) ic_0 ?_
  refine s_istore_n C e_Board_owner_1 (by decide) ?_
  exact s_cut (w_Board_owner_L2 C hb FU _ _ _) ⟨rfl, rfl, rfl, trivial⟩
theorem c_Board_owner {l : Launch} {D : va_G} {k : Nat → ClassId} {q : Nat → Nat} (hq : Inj ZX q) {b : Nat} (hb : isB b) (σ : St) (x1 : Int32) : Ct l ZX D k q yX1_owner cX1_owner 3 (some .int) 0 0 [.ref (q b), .int x1] σ (m_Board_owner b σ x1) :=
  Ct_of hq lcX (by decide) (Nat.le_of_ble_eq_true rfl) (fun _ _ _ _ _ _ _ _ _ _ C => w_Board_owner C hb σ x1)
set_option maxRecDepth 100000 in
theorem w_Reader_readHome {X : CX} (C : Cx X ZX RX4 cX4_readHome 3 (some .boolean) 2 46) {o : Nat} (ho : isB o) (σ : St)  : Sm X ZX 3 (some .boolean) σ [(0, .ref (cq X 13)), (1, .ref (cq X o))] 0 [] (m_Reader_readHome o σ) := by
  unfold m_Reader_readHome
  refine s_aload_n C e_Reader_readHome_0 rfl ?_
  refine s_get C fc_4 zx_lt_13 (zx_13 _ _ _) 4 (by decide) e_Reader_readHome_1 g_64 rfl ?_
  refine s_nm (fun y1 => ?_)
  refine s_istore_n C e_Reader_readHome_4 (by decide) ?_
  refine s_aload_n C e_Reader_readHome_5 rfl ?_
  refine s_iconst C e_Reader_readHome_6 (v := (0 : Int32)) ic_0 ?_
  refine s_aload_n C e_Reader_readHome_7 rfl ?_
  refine s_get C fc_1 (zb_lt ho) (zb ho _ _ _) 0 (by decide) e_Reader_readHome_8 g_86 rfl ?_
  refine s_iconst C e_Reader_readHome_11 (v := (1 : Int32)) ic_1 ?_
  refine s_isub C e_Reader_readHome_12 ?_
  refine s_callV_2 C (c_Reader_takesNumber C.inj _ _ _) wv_Reader_takesNumber g_82 ⟨by decide, by decide⟩ fc_4 rfl zx_lt_13 (zx_13 _ _ _) rfl (Nat.le_of_ble_eq_true rfl) e_Reader_readHome_13 (fun v2 σ3 => ?_)
  refine s_if_ne (tgt := 21) C e_Reader_readHome_16 rfl ?_ ?_
  · refine s_iconst C e_Reader_readHome_19 (v := (0 : Int32)) ic_0 ?_
    exact s_zret C e_Reader_readHome_20
  · refine s_aload_n C e_Reader_readHome_21 rfl ?_
    refine s_aload_n C e_Reader_readHome_22 rfl ?_
    refine s_get C fc_4 zx_lt_13 (zx_13 _ _ _) 5 (by decide) e_Reader_readHome_23 g_75 rfl ?_
    refine s_callV_1 C (c_Board_owner C.inj ho _ _) wv_Board_owner g_98 ⟨by decide, by decide⟩ fc_1 rfl (zb_lt ho) (zb ho _ _ _) rfl (Nat.le_of_ble_eq_true rfl) e_Reader_readHome_26 (fun v4 σ5 => ?_)
    refine s_ldc C e_Reader_readHome_29 g_94 ?_
    refine s_icmp_eq (tgt := 41) C e_Reader_readHome_31 rfl ?_ ?_
    · refine s_aload_n C e_Reader_readHome_41 rfl ?_
      refine s_get C fc_1 (zb_lt ho) (zb ho _ _ _) 7 (by decide) e_Reader_readHome_42 g_95 rfl ?_
      refine s_aload_n C e_Reader_readHome_45 rfl ?_
      refine s_get C fc_1 (zb_lt ho) (zb ho _ _ _) 1 (by decide) e_Reader_readHome_46 g_96 rfl ?_
      refine s_aload_n C e_Reader_readHome_49 rfl ?_
      refine s_get C fc_4 zx_lt_13 (zx_13 _ _ _) 5 (by decide) e_Reader_readHome_50 g_75 rfl ?_
      refine s_iast C (zb2_lt ho) (zb2 ho) e_Reader_readHome_53 (fun σ6 => ?_)
      refine s_aload_n C e_Reader_readHome_54 rfl ?_
      refine s_get C fc_1 (zb_lt ho) (zb ho _ _ _) 11 (by decide) e_Reader_readHome_55 g_97 rfl ?_
      refine s_aload_n C e_Reader_readHome_58 rfl ?_
      refine s_get C fc_1 (zb_lt ho) (zb ho _ _ _) 1 (by decide) e_Reader_readHome_59 g_96 rfl ?_
      refine s_aload_n C e_Reader_readHome_62 rfl ?_
      refine s_get C fc_4 zx_lt_13 (zx_13 _ _ _) 5 (by decide) e_Reader_readHome_63 g_75 rfl ?_
      refine s_iast C (zb6_lt ho) (zb6 ho) e_Reader_readHome_66 (fun σ7 => ?_)
      refine s_iconst C e_Reader_readHome_67 (v := (1 : Int32)) ic_1 ?_
      exact s_zret C e_Reader_readHome_68
    · refine s_aload_n C e_Reader_readHome_34 rfl ?_
      refine s_iload_n C e_Reader_readHome_35 rfl ?_
      refine s_iconst C e_Reader_readHome_36 (v := (2 : Int32)) ic_2 ?_
      refine s_callV_2 C (c_Reader_faultAt C.inj _ _ _) wv_Reader_faultAt g_67 ⟨by decide, by decide⟩ fc_4 rfl zx_lt_13 (zx_13 _ _ _) rfl (Nat.le_of_ble_eq_true rfl) e_Reader_readHome_37 (fun v8 σ9 => ?_)
      exact s_zret C e_Reader_readHome_40
theorem c_Reader_readHome {l : Launch} {D : va_G} {k : Nat → ClassId} {q : Nat → Nat} (hq : Inj ZX q) {o : Nat} (ho : isB o) (σ : St)  : Ct l ZX D k q yX4_readHome cX4_readHome 3 (some .boolean) 2 46 [.ref (q 13), .ref (q o)] σ (m_Reader_readHome o σ) :=
  Ct_of hq lcX (by decide) (Nat.le_of_ble_eq_true rfl) (fun _ _ _ _ _ _ _ _ _ _ C => w_Reader_readHome C ho σ)
set_option maxRecDepth 100000 in
theorem w_Reader_readPin_B27 {X : CX} (C : Cx X ZX RX4 cX4_readPin 4 (some .boolean) 3 68) {o : Nat} (ho : isB o)  (σ : St) (s0 : Int32) : Sm X ZX 4 (some .boolean) σ [(0, .ref (cq X 13)), (1, .ref (cq X o))] 27 [.int s0] (m_Reader_readPin_B27 o σ s0) := by
  unfold m_Reader_readPin_B27
  refine s_istore_n C e_Reader_readPin_27 (by decide) ?_
  refine s_iload_n C e_Reader_readPin_28 rfl ?_
  refine s_if_ne (tgt := 42) C e_Reader_readPin_29 rfl ?_ ?_
  · refine s_aload_n C e_Reader_readPin_32 rfl ?_
    refine s_aload_n C e_Reader_readPin_33 rfl ?_
    refine s_get C fc_4 zx_lt_13 (zx_13 _ _ _) 4 (by decide) e_Reader_readPin_34 g_64 rfl ?_
    refine s_iconst C e_Reader_readPin_37 (v := (1 : Int32)) ic_1 ?_
    refine s_callV_2 C (c_Reader_faultAt C.inj _ _ _) wv_Reader_faultAt g_67 ⟨by decide, by decide⟩ fc_4 rfl zx_lt_13 (zx_13 _ _ _) rfl (Nat.le_of_ble_eq_true rfl) e_Reader_readPin_38 (fun v21 σ22 => ?_)
    exact s_zret C e_Reader_readPin_41
  · refine s_aload_n C e_Reader_readPin_42 rfl ?_
    refine s_get C fc_1 (zb_lt ho) (zb ho _ _ _) 1 (by decide) e_Reader_readPin_43 g_96 rfl ?_
    refine s_bipush C e_Reader_readPin_46 (v := (7 : Int32)) bp_7 ?_
    refine s_icmp_lt (tgt := 61) C e_Reader_readPin_48 rfl ?_ ?_
    · refine s_aload_n C e_Reader_readPin_61 rfl ?_
      refine s_dup C e_Reader_readPin_62 rfl ?_
      refine s_get C fc_4 zx_lt_13 (zx_13 _ _ _) 4 (by decide) e_Reader_readPin_63 g_64 rfl ?_
      refine s_iconst C e_Reader_readPin_66 (v := (1 : Int32)) ic_1 ?_
      refine s_iadd C e_Reader_readPin_67 ?_
      refine s_put C fc_4 zx_lt_13 (zx_13 _ _ _) 4 (by decide) (zxp_13_4 _ _ _ _) (Nat.le_of_ble_eq_true rfl) e_Reader_readPin_68 g_64 rfl rfl (fun σ1 => ?_)
      refine s_aload_n C e_Reader_readPin_71 rfl ?_
      refine s_get C fc_1 (zb_lt ho) (zb ho _ _ _) 1 (by decide) e_Reader_readPin_72 g_96 rfl ?_
      refine s_nm (fun y2 => ?_)
      refine s_istore_n C e_Reader_readPin_75 (by decide) ?_
      refine s_aload_n C e_Reader_readPin_76 rfl ?_
      refine s_get C fc_1 (zb_lt ho) (zb ho _ _ _) 10 (by decide) e_Reader_readPin_77 g_106 rfl ?_
      refine s_iload_n C e_Reader_readPin_80 rfl ?_
      refine s_iload_n C e_Reader_readPin_81 rfl ?_
      refine s_iast C (zb5_lt ho) (zb5 ho) e_Reader_readPin_82 (fun σ3 => ?_)
      refine s_aload_n C e_Reader_readPin_83 rfl ?_
      refine s_aload_n C e_Reader_readPin_84 rfl ?_
      refine s_callV_1 C (c_Reader_readHome C.inj ho _) wv_Reader_readHome g_109 ⟨by decide, by decide⟩ fc_4 rfl zx_lt_13 (zx_13 _ _ _) rfl (Nat.le_of_ble_eq_true rfl) e_Reader_readPin_85 (fun v4 σ5 => ?_)
      refine s_if_eq (tgt := 110) C e_Reader_readPin_88 rfl ?_ ?_
      · refine s_iconst C e_Reader_readPin_110 (v := (0 : Int32)) ic_0 ?_
        exact s_zret C e_Reader_readPin_111
      · refine s_aload_n C e_Reader_readPin_91 rfl ?_
        refine s_bipush C e_Reader_readPin_92 (v := (44 : Int32)) bp_44 ?_
        refine s_callV_1 C (c_Reader_takes C.inj _ _) wv_Reader_takes g_78 ⟨by decide, by decide⟩ fc_4 rfl zx_lt_13 (zx_13 _ _ _) rfl (Nat.le_of_ble_eq_true rfl) e_Reader_readPin_94 (fun v6 σ7 => ?_)
        refine s_if_eq (tgt := 110) C e_Reader_readPin_97 rfl ?_ ?_
        · refine s_iconst C e_Reader_readPin_110 (v := (0 : Int32)) ic_0 ?_
          exact s_zret C e_Reader_readPin_111
        · refine s_aload_n C e_Reader_readPin_100 rfl ?_
          refine s_iconst C e_Reader_readPin_101 (v := (1 : Int32)) ic_1 ?_
          refine s_bipush C e_Reader_readPin_102 (v := (9 : Int32)) bp_9 ?_
          refine s_callV_2 C (c_Reader_takesNumber C.inj _ _ _) wv_Reader_takesNumber g_82 ⟨by decide, by decide⟩ fc_4 rfl zx_lt_13 (zx_13 _ _ _) rfl (Nat.le_of_ble_eq_true rfl) e_Reader_readPin_104 (fun v8 σ9 => ?_)
          refine s_if_ne (tgt := 112) C e_Reader_readPin_107 rfl ?_ ?_
          · refine s_iconst C e_Reader_readPin_110 (v := (0 : Int32)) ic_0 ?_
            exact s_zret C e_Reader_readPin_111
          · refine s_aload_n C e_Reader_readPin_112 rfl ?_
            refine s_get C fc_1 (zb_lt ho) (zb ho _ _ _) 8 (by decide) e_Reader_readPin_113 g_107 rfl ?_
            refine s_iload_n C e_Reader_readPin_116 rfl ?_
            refine s_aload_n C e_Reader_readPin_117 rfl ?_
            refine s_get C fc_4 zx_lt_13 (zx_13 _ _ _) 5 (by decide) e_Reader_readPin_118 g_75 rfl ?_
            refine s_iast C (zb3_lt ho) (zb3 ho) e_Reader_readPin_121 (fun σ10 => ?_)
            refine s_aload_n C e_Reader_readPin_122 rfl ?_
            refine s_bipush C e_Reader_readPin_123 (v := (44 : Int32)) bp_44 ?_
            refine s_callV_1 C (c_Reader_takes C.inj _ _) wv_Reader_takes g_78 ⟨by decide, by decide⟩ fc_4 rfl zx_lt_13 (zx_13 _ _ _) rfl (Nat.le_of_ble_eq_true rfl) e_Reader_readPin_125 (fun v11 σ12 => ?_)
            refine s_if_eq (tgt := 140) C e_Reader_readPin_128 rfl ?_ ?_
            · refine s_iconst C e_Reader_readPin_140 (v := (0 : Int32)) ic_0 ?_
              exact s_zret C e_Reader_readPin_141
            · refine s_aload_n C e_Reader_readPin_131 rfl ?_
              refine s_iconst C e_Reader_readPin_132 (v := (0 : Int32)) ic_0 ?_
              refine s_iconst C e_Reader_readPin_133 (v := (3 : Int32)) ic_3 ?_
              refine s_callV_2 C (c_Reader_takesNumber C.inj _ _ _) wv_Reader_takesNumber g_82 ⟨by decide, by decide⟩ fc_4 rfl zx_lt_13 (zx_13 _ _ _) rfl (Nat.le_of_ble_eq_true rfl) e_Reader_readPin_134 (fun v13 σ14 => ?_)
              refine s_if_ne (tgt := 142) C e_Reader_readPin_137 rfl ?_ ?_
              · refine s_iconst C e_Reader_readPin_140 (v := (0 : Int32)) ic_0 ?_
                exact s_zret C e_Reader_readPin_141
              · refine s_aload_n C e_Reader_readPin_142 rfl ?_
                refine s_get C fc_1 (zb_lt ho) (zb ho _ _ _) 9 (by decide) e_Reader_readPin_143 g_108 rfl ?_
                refine s_iload_n C e_Reader_readPin_146 rfl ?_
                refine s_aload_n C e_Reader_readPin_147 rfl ?_
                refine s_get C fc_4 zx_lt_13 (zx_13 _ _ _) 5 (by decide) e_Reader_readPin_148 g_75 rfl ?_
                refine s_iast C (zb4_lt ho) (zb4 ho) e_Reader_readPin_151 (fun σ15 => ?_)
                refine s_aload_n C e_Reader_readPin_152 rfl ?_
                refine s_dup C e_Reader_readPin_153 rfl ?_
                refine s_get C fc_1 (zb_lt ho) (zb ho _ _ _) 1 (by decide) e_Reader_readPin_154 g_96 rfl ?_
                refine s_iconst C e_Reader_readPin_157 (v := (1 : Int32)) ic_1 ?_
                refine s_iadd C e_Reader_readPin_158 ?_
                refine s_put C fc_1 (zb_lt ho) (zb ho _ _ _) 1 (by decide) (zbp_1 ho _ _ _ _) (Nat.le_of_ble_eq_true rfl) e_Reader_readPin_159 g_96 rfl rfl (fun σ16 => ?_)
                refine s_aload_n C e_Reader_readPin_162 rfl ?_
                refine s_bipush C e_Reader_readPin_163 (v := (59 : Int32)) bp_59 ?_
                refine s_callV_1 C (c_Reader_takes C.inj _ _) wv_Reader_takes g_78 ⟨by decide, by decide⟩ fc_4 rfl zx_lt_13 (zx_13 _ _ _) rfl (Nat.le_of_ble_eq_true rfl) e_Reader_readPin_165 (fun v17 σ18 => ?_)
                exact s_zret C e_Reader_readPin_168
    · refine s_aload_n C e_Reader_readPin_51 rfl ?_
      refine s_aload_n C e_Reader_readPin_52 rfl ?_
      refine s_get C fc_4 zx_lt_13 (zx_13 _ _ _) 4 (by decide) e_Reader_readPin_53 g_64 rfl ?_
      refine s_iconst C e_Reader_readPin_56 (v := (3 : Int32)) ic_3 ?_
      refine s_callV_2 C (c_Reader_faultAt C.inj _ _ _) wv_Reader_faultAt g_67 ⟨by decide, by decide⟩ fc_4 rfl zx_lt_13 (zx_13 _ _ _) rfl (Nat.le_of_ble_eq_true rfl) e_Reader_readPin_57 (fun v19 σ20 => ?_)
      exact s_zret C e_Reader_readPin_60
set_option maxRecDepth 100000 in
theorem w_Reader_readPin {X : CX} (C : Cx X ZX RX4 cX4_readPin 4 (some .boolean) 3 68) {o : Nat} (ho : isB o) (σ : St)  : Sm X ZX 4 (some .boolean) σ [(0, .ref (cq X 13)), (1, .ref (cq X o))] 0 [] (m_Reader_readPin o σ) := by
  unfold m_Reader_readPin
  refine s_aload_n C e_Reader_readPin_0 rfl ?_
  refine s_get C fc_4 zx_lt_13 (zx_13 _ _ _) 4 (by decide) e_Reader_readPin_1 g_64 rfl ?_
  refine s_aload_n C e_Reader_readPin_4 rfl ?_
  refine s_get C fc_4 zx_lt_13 (zx_13 _ _ _) 1 (by decide) e_Reader_readPin_5 g_48 rfl ?_
  refine s_icmp_ge (tgt := 26) C e_Reader_readPin_8 rfl ?_ ?_
  · refine s_iconst C e_Reader_readPin_26 (v := (0 : Int32)) ic_0 ?_
    exact s_cut (w_Reader_readPin_B27 C ho _ _) ⟨rfl, rfl, trivial⟩
  · refine s_aload_n C e_Reader_readPin_11 rfl ?_
    refine s_get C fc_4 zx_lt_13 (zx_13 _ _ _) 0 (by decide) e_Reader_readPin_12 g_49 rfl ?_
    refine s_aload_n C e_Reader_readPin_15 rfl ?_
    refine s_get C fc_4 zx_lt_13 (zx_13 _ _ _) 4 (by decide) e_Reader_readPin_16 g_64 rfl ?_
    refine s_iald C zx_lt_14 zx_14 e_Reader_readPin_19 ?_
    refine s_callS_1 C (c_Reader_kindOf C.inj _ _) wv_Reader_kindOf g_103 ⟨by decide, by decide⟩ rfl (Nat.le_of_ble_eq_true rfl) e_Reader_readPin_20 (fun v1 σ2 => ?_)
    refine s_goto (tgt := 27) C e_Reader_readPin_23 rfl ?_
    exact s_cut (w_Reader_readPin_B27 C ho _ _) ⟨rfl, rfl, trivial⟩
theorem c_Reader_readPin {l : Launch} {D : va_G} {k : Nat → ClassId} {q : Nat → Nat} (hq : Inj ZX q) {o : Nat} (ho : isB o) (σ : St)  : Ct l ZX D k q yX4_readPin cX4_readPin 4 (some .boolean) 3 68 [.ref (q 13), .ref (q o)] σ (m_Reader_readPin o σ) :=
  Ct_of hq lcX (by decide) (Nat.le_of_ble_eq_true rfl) (fun _ _ _ _ _ _ _ _ _ _ C => w_Reader_readPin C ho σ)
set_option maxRecDepth 100000 in
theorem w_Reader_readPins_B2 {X : CX} (C : Cx X ZX RX4 cX4_readPins 3 (some .boolean) 4 91) {o : Nat} (ho : isB o) (r2 : St → Int32 → Rt) (hr2 : ∀ (σ : St) (x2 : Int32), Sm X ZX 3 (some .boolean) σ [(0, .ref (cq X 13)), (1, .ref (cq X o)), (2, .int x2)] 2 [] (r2 σ x2)) (σ : St) (x2 : Int32) : Sm X ZX 3 (some .boolean) σ [(0, .ref (cq X 13)), (1, .ref (cq X o)), (2, .int x2)] 2 [] (m_Reader_readPins_B2 o r2 σ x2) := by
  unfold m_Reader_readPins_B2
  refine s_iload_n C e_Reader_readPins_2 rfl ?_
  refine s_bipush C e_Reader_readPins_3 (v := (7 : Int32)) bp_7 ?_
  refine s_icmp_gt (tgt := 35) C e_Reader_readPins_5 rfl ?_ ?_
  · refine s_iconst C e_Reader_readPins_35 (v := (1 : Int32)) ic_1 ?_
    exact s_zret C e_Reader_readPins_36
  · refine s_aload_n C e_Reader_readPins_8 rfl ?_
    refine s_get C fc_4 zx_lt_13 (zx_13 _ _ _) 4 (by decide) e_Reader_readPins_9 g_64 rfl ?_
    refine s_aload_n C e_Reader_readPins_12 rfl ?_
    refine s_get C fc_4 zx_lt_13 (zx_13 _ _ _) 1 (by decide) e_Reader_readPins_13 g_48 rfl ?_
    refine s_icmp_ge (tgt := 35) C e_Reader_readPins_16 rfl ?_ ?_
    · refine s_iconst C e_Reader_readPins_35 (v := (1 : Int32)) ic_1 ?_
      exact s_zret C e_Reader_readPins_36
    · refine s_aload_n C e_Reader_readPins_19 rfl ?_
      refine s_aload_n C e_Reader_readPins_20 rfl ?_
      refine s_callV_1 C (c_Reader_readPin C.inj ho _) wv_Reader_readPin g_113 ⟨by decide, by decide⟩ fc_4 rfl zx_lt_13 (zx_13 _ _ _) rfl (Nat.le_of_ble_eq_true rfl) e_Reader_readPins_21 (fun v1 σ2 => ?_)
      refine s_if_ne (tgt := 29) C e_Reader_readPins_24 rfl ?_ ?_
      · refine s_iconst C e_Reader_readPins_27 (v := (0 : Int32)) ic_0 ?_
        exact s_zret C e_Reader_readPins_28
      · refine s_iinc C e_Reader_readPins_29 (v := (1 : Int32)) rfl (by decide) ii_1 ?_
        refine s_goto (tgt := 2) C e_Reader_readPins_32 rfl ?_
        exact s_cut (hr2 _ _) ⟨rfl, rfl, rfl, trivial⟩
theorem w_Reader_readPins_L2 {X : CX} (C : Cx X ZX RX4 cX4_readPins 3 (some .boolean) 4 91) {o : Nat} (ho : isB o)  : ∀ (n : Nat) (σ : St) (x2 : Int32), Sm X ZX 3 (some .boolean) σ [(0, .ref (cq X 13)), (1, .ref (cq X o)), (2, .int x2)] 2 [] (m_Reader_readPins_L2 o n σ x2)
  | 0, _, _ => s_none
  | n + 1, σ, x2 => w_Reader_readPins_B2 C ho (m_Reader_readPins_L2 o n) (w_Reader_readPins_L2 C ho n) σ x2
set_option maxRecDepth 100000 in
theorem w_Reader_readPins {X : CX} (C : Cx X ZX RX4 cX4_readPins 3 (some .boolean) 4 91) {o : Nat} (ho : isB o) (σ : St)  : Sm X ZX 3 (some .boolean) σ [(0, .ref (cq X 13)), (1, .ref (cq X o))] 0 [] (m_Reader_readPins o σ) := by
  unfold m_Reader_readPins
  refine s_iconst C e_Reader_readPins_0 (v := (0 : Int32)) ic_0 ?_
  refine s_istore_n C e_Reader_readPins_1 (by decide) ?_
  exact s_cut (w_Reader_readPins_L2 C ho FU _ _) ⟨rfl, rfl, rfl, trivial⟩
theorem c_Reader_readPins {l : Launch} {D : va_G} {k : Nat → ClassId} {q : Nat → Nat} (hq : Inj ZX q) {o : Nat} (ho : isB o) (σ : St)  : Ct l ZX D k q yX4_readPins cX4_readPins 3 (some .boolean) 4 91 [.ref (q 13), .ref (q o)] σ (m_Reader_readPins o σ) :=
  Ct_of hq lcX (by decide) (Nat.le_of_ble_eq_true rfl) (fun _ _ _ _ _ _ _ _ _ _ C => w_Reader_readPins C ho σ)
set_option maxRecDepth 100000 in
theorem w_Reader_readInto {X : CX} (C : Cx X ZX RX4 cX4_readInto 2 (some .boolean) 5 113) {o : Nat} (ho : isB o) (σ : St)  : Sm X ZX 2 (some .boolean) σ [(0, .ref (cq X 13)), (1, .ref (cq X o))] 0 [] (m_Reader_readInto o σ) := by
  unfold m_Reader_readInto
  refine s_aload_n C e_Reader_readInto_0 rfl ?_
  refine s_iconst C e_Reader_readInto_1 (v := (0 : Int32)) ic_0 ?_
  refine s_put C fc_4 zx_lt_13 (zx_13 _ _ _) 4 (by decide) (zxp_13_4 _ _ _ _) (Nat.le_of_ble_eq_true rfl) e_Reader_readInto_2 g_64 rfl rfl (fun σ1 => ?_)
  refine s_aload_n C e_Reader_readInto_5 rfl ?_
  refine s_callVv_0 C (c_Board_makeEmpty C.inj ho _) wv_Board_makeEmpty g_129 ⟨by decide, by decide⟩ fc_1 rfl (zb_lt ho) (zb ho _ _ _) rfl (Nat.le_of_ble_eq_true rfl) e_Reader_readInto_6 (fun v2 σ3 => ?_)
  refine s_aload_n C e_Reader_readInto_9 rfl ?_
  refine s_aload_n C e_Reader_readInto_10 rfl ?_
  refine s_callV_1 C (c_Reader_readLaw C.inj ho _) wv_Reader_readLaw g_125 ⟨by decide, by decide⟩ fc_4 rfl zx_lt_13 (zx_13 _ _ _) rfl (Nat.le_of_ble_eq_true rfl) e_Reader_readInto_11 (fun v4 σ5 => ?_)
  refine s_if_eq (tgt := 37) C e_Reader_readInto_14 rfl ?_ ?_
  · refine s_iconst C e_Reader_readInto_37 (v := (0 : Int32)) ic_0 ?_
    exact s_zret C e_Reader_readInto_38
  · refine s_aload_n C e_Reader_readInto_17 rfl ?_
    refine s_aload_n C e_Reader_readInto_18 rfl ?_
    refine s_callV_1 C (c_Reader_readCells C.inj ho _) wv_Reader_readCells g_121 ⟨by decide, by decide⟩ fc_4 rfl zx_lt_13 (zx_13 _ _ _) rfl (Nat.le_of_ble_eq_true rfl) e_Reader_readInto_19 (fun v6 σ7 => ?_)
    refine s_if_eq (tgt := 37) C e_Reader_readInto_22 rfl ?_ ?_
    · refine s_iconst C e_Reader_readInto_37 (v := (0 : Int32)) ic_0 ?_
      exact s_zret C e_Reader_readInto_38
    · refine s_aload_n C e_Reader_readInto_25 rfl ?_
      refine s_aload_n C e_Reader_readInto_26 rfl ?_
      refine s_callV_1 C (c_Reader_readPins C.inj ho _) wv_Reader_readPins g_117 ⟨by decide, by decide⟩ fc_4 rfl zx_lt_13 (zx_13 _ _ _) rfl (Nat.le_of_ble_eq_true rfl) e_Reader_readInto_27 (fun v8 σ9 => ?_)
      refine s_if_eq (tgt := 37) C e_Reader_readInto_30 rfl ?_ ?_
      · refine s_iconst C e_Reader_readInto_37 (v := (0 : Int32)) ic_0 ?_
        exact s_zret C e_Reader_readInto_38
      · refine s_iconst C e_Reader_readInto_33 (v := (1 : Int32)) ic_1 ?_
        refine s_goto (tgt := 38) C e_Reader_readInto_34 rfl ?_
        exact s_zret C e_Reader_readInto_38
theorem c_Reader_readInto {l : Launch} {D : va_G} {k : Nat → ClassId} {q : Nat → Nat} (hq : Inj ZX q) {o : Nat} (ho : isB o) (σ : St)  : Ct l ZX D k q yX4_readInto cX4_readInto 2 (some .boolean) 5 113 [.ref (q 13), .ref (q o)] σ (m_Reader_readInto o σ) :=
  Ct_of hq lcX (by decide) (Nat.le_of_ble_eq_true rfl) (fun _ _ _ _ _ _ _ _ _ _ C => w_Reader_readInto C ho σ)
set_option maxRecDepth 100000 in
theorem w_Reader_clear {X : CX} (C : Cx X ZX RX4 cX4_clear 1 none 0 0)  (σ : St)  : Sm X ZX 1 none σ [(0, .ref (cq X 13))] 0 [] (m_Reader_clear σ) := by
  unfold m_Reader_clear
  refine s_aload_n C e_Reader_clear_0 rfl ?_
  refine s_iconst C e_Reader_clear_1 (v := (0 : Int32)) ic_0 ?_
  refine s_put C fc_4 zx_lt_13 (zx_13 _ _ _) 1 (by decide) (zxp_13_1 _ _ _ _) (Nat.le_of_ble_eq_true rfl) e_Reader_clear_2 g_48 rfl rfl (fun σ1 => ?_)
  exact s_vret C e_Reader_clear_5
theorem c_Reader_clear {l : Launch} {D : va_G} {k : Nat → ClassId} {q : Nat → Nat} (hq : Inj ZX q)  (σ : St)  : Ct l ZX D k q yX4_clear cX4_clear 1 none 0 0 [.ref (q 13)] σ (m_Reader_clear σ) :=
  Ct_of hq lcX (by decide) (Nat.le_of_ble_eq_true rfl) (fun _ _ _ _ _ _ _ _ _ _ C => w_Reader_clear C σ)
set_option maxRecDepth 100000 in
theorem w_Board_takeFrom {X : CX} (C : Cx X ZX RX1 cX1_takeFrom 2 none 1 26) {b : Nat} (hb : isB b) {o : Nat} (ho : isB o) (σ : St)  : Sm X ZX 2 none σ [(0, .ref (cq X b)), (1, .ref (cq X o))] 0 [] (m_Board_takeFrom b o σ) := by
  unfold m_Board_takeFrom
  refine s_aload_n C e_Board_takeFrom_0 rfl ?_
  refine s_aload_n C e_Board_takeFrom_1 rfl ?_
  refine s_get C fc_1 (zb_lt ho) (zb ho _ _ _) 0 (by decide) e_Board_takeFrom_2 g_58 rfl ?_
  refine s_put C fc_1 (zb_lt hb) (zb hb _ _ _) 0 (by decide) (zbp_0 hb _ _ _ _) (Nat.le_of_ble_eq_true rfl) e_Board_takeFrom_5 g_58 rfl rfl (fun σ1 => ?_)
  refine s_aload_n C e_Board_takeFrom_8 rfl ?_
  refine s_aload_n C e_Board_takeFrom_9 rfl ?_
  refine s_get C fc_1 (zb_lt ho) (zb ho _ _ _) 1 (by decide) e_Board_takeFrom_10 g_59 rfl ?_
  refine s_put C fc_1 (zb_lt hb) (zb hb _ _ _) 1 (by decide) (zbp_1 hb _ _ _ _) (Nat.le_of_ble_eq_true rfl) e_Board_takeFrom_13 g_59 rfl rfl (fun σ2 => ?_)
  refine s_aload_n C e_Board_takeFrom_16 rfl ?_
  refine s_aload_n C e_Board_takeFrom_17 rfl ?_
  refine s_get C fc_1 (zb_lt ho) (zb ho _ _ _) 2 (by decide) e_Board_takeFrom_18 g_60 rfl ?_
  refine s_put C fc_1 (zb_lt hb) (zb hb _ _ _) 2 (by decide) (zbp_2 hb _ _ _ _) (Nat.le_of_ble_eq_true rfl) e_Board_takeFrom_21 g_60 rfl rfl (fun σ3 => ?_)
  refine s_aload_n C e_Board_takeFrom_24 rfl ?_
  refine s_aload_n C e_Board_takeFrom_25 rfl ?_
  refine s_get C fc_1 (zb_lt ho) (zb ho _ _ _) 3 (by decide) e_Board_takeFrom_26 g_61 rfl ?_
  refine s_put C fc_1 (zb_lt hb) (zb hb _ _ _) 3 (by decide) (zbp_3 hb _ _ _ _) (Nat.le_of_ble_eq_true rfl) e_Board_takeFrom_29 g_61 rfl rfl (fun σ4 => ?_)
  refine s_aload_n C e_Board_takeFrom_32 rfl ?_
  refine s_aload_n C e_Board_takeFrom_33 rfl ?_
  refine s_get C fc_1 (zb_lt ho) (zb ho _ _ _) 4 (by decide) e_Board_takeFrom_34 g_62 rfl ?_
  refine s_put C fc_1 (zb_lt hb) (zb hb _ _ _) 4 (by decide) (zbp_4 hb _ _ _ _) (Nat.le_of_ble_eq_true rfl) e_Board_takeFrom_37 g_62 rfl rfl (fun σ5 => ?_)
  refine s_aload_n C e_Board_takeFrom_40 rfl ?_
  refine s_aload_n C e_Board_takeFrom_41 rfl ?_
  refine s_get C fc_1 (zb_lt ho) (zb ho _ _ _) 5 (by decide) e_Board_takeFrom_42 g_63 rfl ?_
  refine s_putZ C fc_1 (zb_lt hb) (zb hb _ _ _) 5 (by decide) (zbp_5 hb _ _ _ _) (Nat.le_of_ble_eq_true rfl) e_Board_takeFrom_45 g_63 rfl rfl (fun σ6 => ?_)
  refine s_aload_n C e_Board_takeFrom_48 rfl ?_
  refine s_get C fc_1 (zb_lt ho) (zb ho _ _ _) 6 (by decide) e_Board_takeFrom_49 g_133 rfl ?_
  refine s_iconst C e_Board_takeFrom_52 (v := (0 : Int32)) ic_0 ?_
  refine s_aload_n C e_Board_takeFrom_53 rfl ?_
  refine s_get C fc_1 (zb_lt hb) (zb hb _ _ _) 6 (by decide) e_Board_takeFrom_54 g_133 rfl ?_
  refine s_iconst C e_Board_takeFrom_57 (v := (0 : Int32)) ic_0 ?_
  refine s_bipush C e_Board_takeFrom_58 (v := (16 : Int32)) bp_16 ?_
  refine s_copy C (zb1_lt ho) (zb1_lt hb) (zb1 ho) (zb1 hb) g_134 ws_copy ⟨by decide, by decide⟩ e_Board_takeFrom_60 (fun σ7 => ?_)
  refine s_aload_n C e_Board_takeFrom_63 rfl ?_
  refine s_get C fc_1 (zb_lt ho) (zb ho _ _ _) 7 (by decide) e_Board_takeFrom_64 g_93 rfl ?_
  refine s_iconst C e_Board_takeFrom_67 (v := (0 : Int32)) ic_0 ?_
  refine s_aload_n C e_Board_takeFrom_68 rfl ?_
  refine s_get C fc_1 (zb_lt hb) (zb hb _ _ _) 7 (by decide) e_Board_takeFrom_69 g_93 rfl ?_
  refine s_iconst C e_Board_takeFrom_72 (v := (0 : Int32)) ic_0 ?_
  refine s_bipush C e_Board_takeFrom_73 (v := (7 : Int32)) bp_7 ?_
  refine s_copy C (zb2_lt ho) (zb2_lt hb) (zb2 ho) (zb2 hb) g_134 ws_copy ⟨by decide, by decide⟩ e_Board_takeFrom_75 (fun σ8 => ?_)
  refine s_aload_n C e_Board_takeFrom_78 rfl ?_
  refine s_get C fc_1 (zb_lt ho) (zb ho _ _ _) 8 (by decide) e_Board_takeFrom_79 g_135 rfl ?_
  refine s_iconst C e_Board_takeFrom_82 (v := (0 : Int32)) ic_0 ?_
  refine s_aload_n C e_Board_takeFrom_83 rfl ?_
  refine s_get C fc_1 (zb_lt hb) (zb hb _ _ _) 8 (by decide) e_Board_takeFrom_84 g_135 rfl ?_
  refine s_iconst C e_Board_takeFrom_87 (v := (0 : Int32)) ic_0 ?_
  refine s_bipush C e_Board_takeFrom_88 (v := (7 : Int32)) bp_7 ?_
  refine s_copy C (zb3_lt ho) (zb3_lt hb) (zb3 ho) (zb3 hb) g_134 ws_copy ⟨by decide, by decide⟩ e_Board_takeFrom_90 (fun σ9 => ?_)
  refine s_aload_n C e_Board_takeFrom_93 rfl ?_
  refine s_get C fc_1 (zb_lt ho) (zb ho _ _ _) 9 (by decide) e_Board_takeFrom_94 g_136 rfl ?_
  refine s_iconst C e_Board_takeFrom_97 (v := (0 : Int32)) ic_0 ?_
  refine s_aload_n C e_Board_takeFrom_98 rfl ?_
  refine s_get C fc_1 (zb_lt hb) (zb hb _ _ _) 9 (by decide) e_Board_takeFrom_99 g_136 rfl ?_
  refine s_iconst C e_Board_takeFrom_102 (v := (0 : Int32)) ic_0 ?_
  refine s_bipush C e_Board_takeFrom_103 (v := (7 : Int32)) bp_7 ?_
  refine s_copy C (zb4_lt ho) (zb4_lt hb) (zb4 ho) (zb4 hb) g_134 ws_copy ⟨by decide, by decide⟩ e_Board_takeFrom_105 (fun σ10 => ?_)
  refine s_aload_n C e_Board_takeFrom_108 rfl ?_
  refine s_get C fc_1 (zb_lt ho) (zb ho _ _ _) 10 (by decide) e_Board_takeFrom_109 g_137 rfl ?_
  refine s_iconst C e_Board_takeFrom_112 (v := (0 : Int32)) ic_0 ?_
  refine s_aload_n C e_Board_takeFrom_113 rfl ?_
  refine s_get C fc_1 (zb_lt hb) (zb hb _ _ _) 10 (by decide) e_Board_takeFrom_114 g_137 rfl ?_
  refine s_iconst C e_Board_takeFrom_117 (v := (0 : Int32)) ic_0 ?_
  refine s_bipush C e_Board_takeFrom_118 (v := (7 : Int32)) bp_7 ?_
  refine s_copy C (zb5_lt ho) (zb5_lt hb) (zb5 ho) (zb5 hb) g_134 ws_copy ⟨by decide, by decide⟩ e_Board_takeFrom_120 (fun σ11 => ?_)
  refine s_aload_n C e_Board_takeFrom_123 rfl ?_
  refine s_get C fc_1 (zb_lt ho) (zb ho _ _ _) 11 (by decide) e_Board_takeFrom_124 g_138 rfl ?_
  refine s_iconst C e_Board_takeFrom_127 (v := (0 : Int32)) ic_0 ?_
  refine s_aload_n C e_Board_takeFrom_128 rfl ?_
  refine s_get C fc_1 (zb_lt hb) (zb hb _ _ _) 11 (by decide) e_Board_takeFrom_129 g_138 rfl ?_
  refine s_iconst C e_Board_takeFrom_132 (v := (0 : Int32)) ic_0 ?_
  refine s_bipush C e_Board_takeFrom_133 (v := (7 : Int32)) bp_7 ?_
  refine s_copy C (zb6_lt ho) (zb6_lt hb) (zb6 ho) (zb6 hb) g_134 ws_copy ⟨by decide, by decide⟩ e_Board_takeFrom_135 (fun σ12 => ?_)
  exact s_vret C e_Board_takeFrom_138
theorem c_Board_takeFrom {l : Launch} {D : va_G} {k : Nat → ClassId} {q : Nat → Nat} (hq : Inj ZX q) {b : Nat} (hb : isB b) {o : Nat} (ho : isB o) (σ : St)  : Ct l ZX D k q yX1_takeFrom cX1_takeFrom 2 none 1 26 [.ref (q b), .ref (q o)] σ (m_Board_takeFrom b o σ) :=
  Ct_of hq lcX (by decide) (Nat.le_of_ble_eq_true rfl) (fun _ _ _ _ _ _ _ _ _ _ C => w_Board_takeFrom C hb ho σ)
set_option maxRecDepth 100000 in
theorem w_Past_forget {X : CX} (C : Cx X ZX RX3 cX3_forget 1 none 0 0)  (σ : St)  : Sm X ZX 1 none σ [(0, .ref (cq X 16))] 0 [] (m_Past_forget σ) := by
  unfold m_Past_forget
  refine s_aload_n C e_Past_forget_0 rfl ?_
  refine s_iconst C e_Past_forget_1 (v := (0 : Int32)) ic_0 ?_
  refine s_put C fc_3 zx_lt_16 (zx_16 _ _ _) 0 (by decide) (zxp_16_0 _ _ _ _) (Nat.le_of_ble_eq_true rfl) e_Past_forget_2 g_139 rfl rfl (fun σ1 => ?_)
  exact s_vret C e_Past_forget_5
theorem c_Past_forget {l : Launch} {D : va_G} {k : Nat → ClassId} {q : Nat → Nat} (hq : Inj ZX q)  (σ : St)  : Ct l ZX D k q yX3_forget cX3_forget 1 none 0 0 [.ref (q 16)] σ (m_Past_forget σ) :=
  Ct_of hq lcX (by decide) (Nat.le_of_ble_eq_true rfl) (fun _ _ _ _ _ _ _ _ _ _ C => w_Past_forget C σ)
set_option maxRecDepth 100000 in
theorem w_P_map {X : CX} (C : Cx X ZX RX6 cX6_map 2 (some .int) 6 134)  (σ : St)  : Sm X ZX 2 (some .int) σ [(0, .ref (cq X 0))] 0 [] (m_P_map σ) := by
  unfold m_P_map
  refine s_aload_n C e_P_map_0 rfl ?_
  refine s_get C fc_6 zx_lt_0 (zx_0 _ _ _) 1 (by decide) e_P_map_1 g_50 rfl ?_
  refine s_aload_n C e_P_map_4 rfl ?_
  refine s_get C fc_6 zx_lt_0 (zx_0 _ _ _) 3 (by decide) e_P_map_5 g_140 rfl ?_
  refine s_get C fc_2 zx_lt_15 (zx_15 _ _ _) 0 (by decide) e_P_map_8 g_141 rfl ?_
  refine s_callV_1 C (c_Reader_readInto C.inj hb28 _) wv_Reader_readInto g_160 ⟨by decide, by decide⟩ fc_4 rfl zx_lt_13 (zx_13 _ _ _) rfl (Nat.le_of_ble_eq_true rfl) e_P_map_11 (fun v1 σ2 => ?_)
  refine s_istore_n C e_P_map_14 (by decide) ?_
  refine s_aload_n C e_P_map_15 rfl ?_
  refine s_get C fc_6 zx_lt_0 (zx_0 _ _ _) 1 (by decide) e_P_map_16 g_50 rfl ?_
  refine s_callVv_0 C (c_Reader_clear C.inj _) wv_Reader_clear g_156 ⟨by decide, by decide⟩ fc_4 rfl zx_lt_13 (zx_13 _ _ _) rfl (Nat.le_of_ble_eq_true rfl) e_P_map_19 (fun v3 σ4 => ?_)
  refine s_iload_n C e_P_map_22 rfl ?_
  refine s_if_ne (tgt := 37) C e_P_map_23 rfl ?_ ?_
  · refine s_ldc C e_P_map_26 g_154 ?_
    refine s_aload_n C e_P_map_28 rfl ?_
    refine s_get C fc_6 zx_lt_0 (zx_0 _ _ _) 1 (by decide) e_P_map_29 g_50 rfl ?_
    refine s_get C fc_4 zx_lt_13 (zx_13 _ _ _) 3 (by decide) e_P_map_32 g_155 rfl ?_
    refine s_isub C e_P_map_35 ?_
    exact s_iret C e_P_map_36
  · refine s_aload_n C e_P_map_37 rfl ?_
    refine s_get C fc_6 zx_lt_0 (zx_0 _ _ _) 2 (by decide) e_P_map_38 g_142 rfl ?_
    refine s_aload_n C e_P_map_41 rfl ?_
    refine s_get C fc_6 zx_lt_0 (zx_0 _ _ _) 3 (by decide) e_P_map_42 g_140 rfl ?_
    refine s_get C fc_2 zx_lt_15 (zx_15 _ _ _) 0 (by decide) e_P_map_45 g_141 rfl ?_
    refine s_callVv_1 C (c_Board_takeFrom C.inj hb21 hb28 _) wv_Board_takeFrom g_150 ⟨by decide, by decide⟩ fc_1 rfl (zb_lt hb21) (zb hb21 _ _ _) rfl (Nat.le_of_ble_eq_true rfl) e_P_map_48 (fun v5 σ6 => ?_)
    refine s_aload_n C e_P_map_51 rfl ?_
    refine s_get C fc_6 zx_lt_0 (zx_0 _ _ _) 4 (by decide) e_P_map_52 g_143 rfl ?_
    refine s_callVv_0 C (c_Past_forget C.inj _) wv_Past_forget g_145 ⟨by decide, by decide⟩ fc_3 rfl zx_lt_16 (zx_16 _ _ _) rfl (Nat.le_of_ble_eq_true rfl) e_P_map_55 (fun v7 σ8 => ?_)
    refine s_aload_n C e_P_map_58 rfl ?_
    refine s_get C fc_6 zx_lt_0 (zx_0 _ _ _) 2 (by decide) e_P_map_59 g_142 rfl ?_
    refine s_get C fc_1 (zb_lt hb21) (zb hb21 _ _ _) 1 (by decide) e_P_map_62 g_144 rfl ?_
    exact s_iret C e_P_map_65
theorem c_P_map {l : Launch} {D : va_G} {k : Nat → ClassId} {q : Nat → Nat} (hq : Inj ZX q)  (σ : St)  : Ct l ZX D k q yX6_map cX6_map 2 (some .int) 6 134 [.ref (q 0)] σ (m_P_map σ) :=
  Ct_of hq lcX (by decide) (Nat.le_of_ble_eq_true rfl) (fun _ _ _ _ _ _ _ _ _ _ C => w_P_map C σ)
set_option maxRecDepth 100000 in
theorem w_P_fault {X : CX} (C : Cx X ZX RX6 cX6_fault 1 (some .int) 0 0)  (σ : St)  : Sm X ZX 1 (some .int) σ [(0, .ref (cq X 0))] 0 [] (m_P_fault σ) := by
  unfold m_P_fault
  refine s_aload_n C e_P_fault_0 rfl ?_
  refine s_get C fc_6 zx_lt_0 (zx_0 _ _ _) 1 (by decide) e_P_fault_1 g_50 rfl ?_
  refine s_get C fc_4 zx_lt_13 (zx_13 _ _ _) 2 (by decide) e_P_fault_4 g_164 rfl ?_
  exact s_iret C e_P_fault_7
theorem c_P_fault {l : Launch} {D : va_G} {k : Nat → ClassId} {q : Nat → Nat} (hq : Inj ZX q)  (σ : St)  : Ct l ZX D k q yX6_fault cX6_fault 1 (some .int) 0 0 [.ref (q 0)] σ (m_P_fault σ) :=
  Ct_of hq lcX (by decide) (Nat.le_of_ble_eq_true rfl) (fun _ _ _ _ _ _ _ _ _ _ C => w_P_fault C σ)
set_option maxRecDepth 100000 in
theorem w_Board_stands {X : CX} (C : Cx X ZX RX1 cX1_stands 1 (some .boolean) 0 0) {b : Nat} (hb : isB b) (σ : St)  : Sm X ZX 1 (some .boolean) σ [(0, .ref (cq X b))] 0 [] (m_Board_stands b σ) := by
  unfold m_Board_stands
  refine s_aload_n C e_Board_stands_0 rfl ?_
  refine s_get C fc_1 (zb_lt hb) (zb hb _ _ _) 0 (by decide) e_Board_stands_1 g_58 rfl ?_
  refine s_if_le (tgt := 11) C e_Board_stands_4 rfl ?_ ?_
  · refine s_iconst C e_Board_stands_11 (v := (0 : Int32)) ic_0 ?_
    exact s_zret C e_Board_stands_12
  · refine s_iconst C e_Board_stands_7 (v := (1 : Int32)) ic_1 ?_
    refine s_goto (tgt := 12) C e_Board_stands_8 rfl ?_
    exact s_zret C e_Board_stands_12
theorem c_Board_stands {l : Launch} {D : va_G} {k : Nat → ClassId} {q : Nat → Nat} (hq : Inj ZX q) {b : Nat} (hb : isB b) (σ : St)  : Ct l ZX D k q yX1_stands cX1_stands 1 (some .boolean) 0 0 [.ref (q b)] σ (m_Board_stands b σ) :=
  Ct_of hq lcX (by decide) (Nat.le_of_ble_eq_true rfl) (fun _ _ _ _ _ _ _ _ _ _ C => w_Board_stands C hb σ)
set_option maxRecDepth 100000 in
theorem w_Past_keep {X : CX} (C : Cx X ZX RX3 cX3_keep 2 none 2 47) {o : Nat} (ho : isB o) (σ : St)  : Sm X ZX 2 none σ [(0, .ref (cq X 16)), (1, .ref (cq X o))] 0 [] (m_Past_keep o σ) := by
  unfold m_Past_keep
  refine s_aload_n C e_Past_keep_0 rfl ?_
  refine s_get C fc_3 zx_lt_16 (zx_16 _ _ _) 2 (by decide) e_Past_keep_1 g_165 rfl ?_
  refine s_aload_n C e_Past_keep_4 rfl ?_
  refine s_get C fc_3 zx_lt_16 (zx_16 _ _ _) 1 (by decide) e_Past_keep_5 g_166 rfl ?_
  refine s_aload_n C e_Past_keep_8 rfl ?_
  refine s_get C fc_3 zx_lt_16 (zx_16 _ _ _) 0 (by decide) e_Past_keep_9 g_139 rfl ?_
  refine s_iadd C e_Past_keep_12 ?_
  refine s_bipush C e_Past_keep_13 (v := (24 : Int32)) bp_24 ?_
  refine s_irem C e_Past_keep_15 ?_
  refine s_aald (c := 2) (ty := .object "PinBoards$Board") C gPast zx_lt_17 (zx_17 _ _ _) rfl rfl zxf_17 e_Past_keep_16 (fun hi16 => ?_)
  refine s_aload_n C e_Past_keep_17 rfl ?_
  refine s_callVv_1 C (c_Board_takeFrom C.inj (hb_past hi16) ho _) wv_Board_takeFrom g_167 ⟨by decide, by decide⟩ fc_1 rfl (zb_lt (hb_past hi16)) (zb (hb_past hi16) _ _ _) rfl (Nat.le_of_ble_eq_true rfl) e_Past_keep_18 (fun v1 σ2 => ?_)
  refine s_aload_n C e_Past_keep_21 rfl ?_
  refine s_get C fc_3 zx_lt_16 (zx_16 _ _ _) 0 (by decide) e_Past_keep_22 g_139 rfl ?_
  refine s_bipush C e_Past_keep_25 (v := (24 : Int32)) bp_24 ?_
  refine s_icmp_ge (tgt := 43) C e_Past_keep_27 rfl ?_ ?_
  · refine s_aload_n C e_Past_keep_43 rfl ?_
    refine s_aload_n C e_Past_keep_44 rfl ?_
    refine s_get C fc_3 zx_lt_16 (zx_16 _ _ _) 1 (by decide) e_Past_keep_45 g_166 rfl ?_
    refine s_iconst C e_Past_keep_48 (v := (1 : Int32)) ic_1 ?_
    refine s_iadd C e_Past_keep_49 ?_
    refine s_bipush C e_Past_keep_50 (v := (24 : Int32)) bp_24 ?_
    refine s_irem C e_Past_keep_52 ?_
    refine s_put C fc_3 zx_lt_16 (zx_16 _ _ _) 1 (by decide) (zxp_16_1 _ _ _ _) (Nat.le_of_ble_eq_true rfl) e_Past_keep_53 g_166 rfl rfl (fun σ3 => ?_)
    exact s_vret C e_Past_keep_56
  · refine s_aload_n C e_Past_keep_30 rfl ?_
    refine s_dup C e_Past_keep_31 rfl ?_
    refine s_get C fc_3 zx_lt_16 (zx_16 _ _ _) 0 (by decide) e_Past_keep_32 g_139 rfl ?_
    refine s_iconst C e_Past_keep_35 (v := (1 : Int32)) ic_1 ?_
    refine s_iadd C e_Past_keep_36 ?_
    refine s_put C fc_3 zx_lt_16 (zx_16 _ _ _) 0 (by decide) (zxp_16_0 _ _ _ _) (Nat.le_of_ble_eq_true rfl) e_Past_keep_37 g_139 rfl rfl (fun σ4 => ?_)
    refine s_goto (tgt := 56) C e_Past_keep_40 rfl ?_
    exact s_vret C e_Past_keep_56
theorem c_Past_keep {l : Launch} {D : va_G} {k : Nat → ClassId} {q : Nat → Nat} (hq : Inj ZX q) {o : Nat} (ho : isB o) (σ : St)  : Ct l ZX D k q yX3_keep cX3_keep 2 none 2 47 [.ref (q 16), .ref (q o)] σ (m_Past_keep o σ) :=
  Ct_of hq lcX (by decide) (Nat.le_of_ble_eq_true rfl) (fun _ _ _ _ _ _ _ _ _ _ C => w_Past_keep C ho σ)
set_option maxRecDepth 100000 in
theorem w_P_isSet {X : CX} (C : Cx X ZX RX6 cX6_isSet 2 (some .boolean) 0 0)  (σ : St) (x0 : Int32) (x1 : Int32) : Sm X ZX 2 (some .boolean) σ [(0, .int x0), (1, .int x1)] 0 [] (m_P_isSet σ x0 x1) := by
  unfold m_P_isSet
  refine s_iload_n C e_P_isSet_0 rfl ?_
  refine s_iload_n C e_P_isSet_1 rfl ?_
  refine s_ishr C e_P_isSet_2 ?_
  refine s_iconst C e_P_isSet_3 (v := (1 : Int32)) ic_1 ?_
  refine s_iand C e_P_isSet_4 ?_
  refine s_iconst C e_P_isSet_5 (v := (1 : Int32)) ic_1 ?_
  refine s_icmp_ne (tgt := 13) C e_P_isSet_6 rfl ?_ ?_
  · refine s_iconst C e_P_isSet_9 (v := (1 : Int32)) ic_1 ?_
    refine s_goto (tgt := 14) C e_P_isSet_10 rfl ?_
    exact s_zret C e_P_isSet_14
  · refine s_iconst C e_P_isSet_13 (v := (0 : Int32)) ic_0 ?_
    exact s_zret C e_P_isSet_14
theorem c_P_isSet {l : Launch} {D : va_G} {k : Nat → ClassId} {q : Nat → Nat} (hq : Inj ZX q)  (σ : St) (x0 : Int32) (x1 : Int32) : Ct l ZX D k q yX6_isSet cX6_isSet 2 (some .boolean) 0 0 [.int x0, .int x1] σ (m_P_isSet σ x0 x1) :=
  Ct_of hq lcX (by decide) (Nat.le_of_ble_eq_true rfl) (fun _ _ _ _ _ _ _ _ _ _ C => w_P_isSet C σ x0 x1)
set_option maxRecDepth 100000 in
theorem w_Board_change {X : CX} (C : Cx X ZX RX1 cX1_change 4 none 0 0) {b : Nat} (hb : isB b) (σ : St) (x1 : Int32) (x2 : Int32) : Sm X ZX 4 none σ [(0, .ref (cq X b)), (1, .int x1), (2, .int x2)] 0 [] (m_Board_change b σ x1 x2) := by
  unfold m_Board_change
  refine s_aload_n C e_Board_change_0 rfl ?_
  refine s_get C fc_1 (zb_lt hb) (zb hb _ _ _) 11 (by decide) e_Board_change_1 g_138 rfl ?_
  refine s_iload_n C e_Board_change_4 rfl ?_
  refine s_iald C (zb6_lt hb) (zb6 hb) e_Board_change_5 ?_
  refine s_nm (fun y1 => ?_)
  refine s_istore_n C e_Board_change_6 (by decide) ?_
  refine s_aload_n C e_Board_change_7 rfl ?_
  refine s_get C fc_1 (zb_lt hb) (zb hb _ _ _) 11 (by decide) e_Board_change_8 g_138 rfl ?_
  refine s_iload_n C e_Board_change_11 rfl ?_
  refine s_aload_n C e_Board_change_12 rfl ?_
  refine s_get C fc_1 (zb_lt hb) (zb hb _ _ _) 11 (by decide) e_Board_change_13 g_138 rfl ?_
  refine s_iload_n C e_Board_change_16 rfl ?_
  refine s_iald C (zb6_lt hb) (zb6 hb) e_Board_change_17 ?_
  refine s_iast C (zb6_lt hb) (zb6 hb) e_Board_change_18 (fun σ2 => ?_)
  refine s_aload_n C e_Board_change_19 rfl ?_
  refine s_get C fc_1 (zb_lt hb) (zb hb _ _ _) 11 (by decide) e_Board_change_20 g_138 rfl ?_
  refine s_iload_n C e_Board_change_23 rfl ?_
  refine s_iload_n C e_Board_change_24 rfl ?_
  refine s_iast C (zb6_lt hb) (zb6 hb) e_Board_change_25 (fun σ3 => ?_)
  exact s_vret C e_Board_change_26
theorem c_Board_change {l : Launch} {D : va_G} {k : Nat → ClassId} {q : Nat → Nat} (hq : Inj ZX q) {b : Nat} (hb : isB b) (σ : St) (x1 : Int32) (x2 : Int32) : Ct l ZX D k q yX1_change cX1_change 4 none 0 0 [.ref (q b), .int x1, .int x2] σ (m_Board_change b σ x1 x2) :=
  Ct_of hq lcX (by decide) (Nat.le_of_ble_eq_true rfl) (fun _ _ _ _ _ _ _ _ _ _ C => w_Board_change C hb σ x1 x2)
set_option maxRecDepth 100000 in
theorem w_Board_mix_B37 {X : CX} (C : Cx X ZX RX1 cX1_mix 3 none 1 23) {b : Nat} (hb : isB b)  (σ : St) (x1 : Int32) (x2 : Int32) : Sm X ZX 3 none σ [(0, .ref (cq X b)), (1, .int x1), (2, .int x2)] 37 [] (m_Board_mix_B37 b σ x1 x2) := by
  unfold m_Board_mix_B37
  refine s_aload_n C e_Board_mix_37 rfl ?_
  refine s_iload_n C e_Board_mix_38 rfl ?_
  refine s_iload_n C e_Board_mix_39 rfl ?_
  refine s_callVv_2 C (c_Board_change C.inj hb _ _ _) wv_Board_change g_168 ⟨by decide, by decide⟩ fc_1 rfl (zb_lt hb) (zb hb _ _ _) rfl (Nat.le_of_ble_eq_true rfl) e_Board_mix_40 (fun v1 σ2 => ?_)
  exact s_vret C e_Board_mix_43
set_option maxRecDepth 100000 in
theorem w_Board_mix_B44 {X : CX} (C : Cx X ZX RX1 cX1_mix 3 none 1 23) {b : Nat} (hb : isB b) (r4 : St → Int32 → Int32 → Rt) (hr4 : ∀ (σ : St) (x1 : Int32) (x2 : Int32), Sm X ZX 3 none σ [(0, .ref (cq X b)), (1, .int x1), (2, .int x2)] 4 [] (r4 σ x1 x2)) (σ : St) (x1 : Int32) (x2 : Int32) : Sm X ZX 3 none σ [(0, .ref (cq X b)), (1, .int x1), (2, .int x2)] 44 [] (m_Board_mix_B44 b r4 σ x1 x2) := by
  unfold m_Board_mix_B44
  refine s_iinc C e_Board_mix_44 (v := (1 : Int32)) rfl (by decide) ii_1 ?_
  refine s_goto (tgt := 4) C e_Board_mix_47 rfl ?_
  exact s_cut (hr4 _ _ _) ⟨rfl, rfl, rfl, trivial⟩
set_option maxRecDepth 100000 in
theorem w_Board_mix_B4 {X : CX} (C : Cx X ZX RX1 cX1_mix 3 none 1 23) {b : Nat} (hb : isB b) (r4 : St → Int32 → Int32 → Rt) (hr4 : ∀ (σ : St) (x1 : Int32) (x2 : Int32), Sm X ZX 3 none σ [(0, .ref (cq X b)), (1, .int x1), (2, .int x2)] 4 [] (r4 σ x1 x2)) (σ : St) (x1 : Int32) (x2 : Int32) : Sm X ZX 3 none σ [(0, .ref (cq X b)), (1, .int x1), (2, .int x2)] 4 [] (m_Board_mix_B4 b r4 σ x1 x2) := by
  unfold m_Board_mix_B4
  refine s_iload_n C e_Board_mix_4 rfl ?_
  refine s_aload_n C e_Board_mix_5 rfl ?_
  refine s_get C fc_1 (zb_lt hb) (zb hb _ _ _) 1 (by decide) e_Board_mix_6 g_59 rfl ?_
  refine s_icmp_ge (tgt := 50) C e_Board_mix_9 rfl ?_ ?_
  · exact s_vret C e_Board_mix_50
  · refine s_aload_n C e_Board_mix_12 rfl ?_
    refine s_get C fc_1 (zb_lt hb) (zb hb _ _ _) 9 (by decide) e_Board_mix_13 g_136 rfl ?_
    refine s_iload_n C e_Board_mix_16 rfl ?_
    refine s_iald C (zb4_lt hb) (zb4 hb) e_Board_mix_17 ?_
    refine s_aload_n C e_Board_mix_18 rfl ?_
    refine s_get C fc_1 (zb_lt hb) (zb hb _ _ _) 9 (by decide) e_Board_mix_19 g_136 rfl ?_
    refine s_iload_n C e_Board_mix_22 rfl ?_
    refine s_iald C (zb4_lt hb) (zb4 hb) e_Board_mix_23 ?_
    refine s_icmp_ne (tgt := 44) C e_Board_mix_24 rfl ?_ ?_
    · refine s_aload_n C e_Board_mix_27 rfl ?_
      refine s_get C fc_1 (zb_lt hb) (zb hb _ _ _) 10 (by decide) e_Board_mix_28 g_137 rfl ?_
      refine s_iload_n C e_Board_mix_31 rfl ?_
      refine s_iald C (zb5_lt hb) (zb5 hb) e_Board_mix_32 ?_
      refine s_iconst C e_Board_mix_33 (v := (5 : Int32)) ic_5 ?_
      refine s_icmp_eq (tgt := 44) C e_Board_mix_34 rfl ?_ ?_
      · exact s_cut (w_Board_mix_B44 C hb r4 hr4 _ _ _) ⟨rfl, rfl, rfl, trivial⟩
      · exact s_cut (w_Board_mix_B37 C hb _ _ _) ⟨rfl, rfl, rfl, trivial⟩
    · exact s_cut (w_Board_mix_B44 C hb r4 hr4 _ _ _) ⟨rfl, rfl, rfl, trivial⟩
theorem w_Board_mix_L4 {X : CX} (C : Cx X ZX RX1 cX1_mix 3 none 1 23) {b : Nat} (hb : isB b)  : ∀ (n : Nat) (σ : St) (x1 : Int32) (x2 : Int32), Sm X ZX 3 none σ [(0, .ref (cq X b)), (1, .int x1), (2, .int x2)] 4 [] (m_Board_mix_L4 b n σ x1 x2)
  | 0, _, _, _ => s_none
  | n + 1, σ, x1, x2 => w_Board_mix_B4 C hb (m_Board_mix_L4 b n) (w_Board_mix_L4 C hb n) σ x1 x2
set_option maxRecDepth 100000 in
theorem w_Board_mix {X : CX} (C : Cx X ZX RX1 cX1_mix 3 none 1 23) {b : Nat} (hb : isB b) (σ : St) (x1 : Int32) : Sm X ZX 3 none σ [(0, .ref (cq X b)), (1, .int x1)] 0 [] (m_Board_mix b σ x1) := by
  unfold m_Board_mix
  refine s_iload_n C e_Board_mix_0 rfl ?_
  refine s_iconst C e_Board_mix_1 (v := (1 : Int32)) ic_1 ?_
  refine s_iadd C e_Board_mix_2 ?_
  refine s_nm (fun y1 => ?_)
  refine s_istore_n C e_Board_mix_3 (by decide) ?_
  exact s_cut (w_Board_mix_L4 C hb FU _ _ _) ⟨rfl, rfl, rfl, trivial⟩
theorem c_Board_mix {l : Launch} {D : va_G} {k : Nat → ClassId} {q : Nat → Nat} (hq : Inj ZX q) {b : Nat} (hb : isB b) (σ : St) (x1 : Int32) : Ct l ZX D k q yX1_mix cX1_mix 3 none 1 23 [.ref (q b), .int x1] σ (m_Board_mix b σ x1) :=
  Ct_of hq lcX (by decide) (Nat.le_of_ble_eq_true rfl) (fun _ _ _ _ _ _ _ _ _ _ C => w_Board_mix C hb σ x1)
set_option maxRecDepth 100000 in
theorem w_Board_open_B103 {X : CX} (C : Cx X ZX RX1 cX1_open 3 none 2 45) {b : Nat} (hb : isB b) (r2 : St → Int32 → Int32 → Rt) (hr2 : ∀ (σ : St) (x1 : Int32) (x2 : Int32), Sm X ZX 3 none σ [(0, .ref (cq X b)), (1, .int x1), (2, .int x2)] 2 [] (r2 σ x1 x2)) (σ : St) (x1 : Int32) (x2 : Int32) : Sm X ZX 3 none σ [(0, .ref (cq X b)), (1, .int x1), (2, .int x2)] 103 [] (m_Board_open_B103 b r2 σ x1 x2) := by
  unfold m_Board_open_B103
  refine s_iinc C e_Board_open_103 (v := (1 : Int32)) rfl (by decide) ii_1 ?_
  refine s_goto (tgt := 2) C e_Board_open_106 rfl ?_
  exact s_cut (hr2 _ _ _) ⟨rfl, rfl, rfl, trivial⟩
set_option maxRecDepth 100000 in
theorem w_Board_open_B81 {X : CX} (C : Cx X ZX RX1 cX1_open 3 none 2 45) {b : Nat} (hb : isB b) (r2 : St → Int32 → Int32 → Rt) (hr2 : ∀ (σ : St) (x1 : Int32) (x2 : Int32), Sm X ZX 3 none σ [(0, .ref (cq X b)), (1, .int x1), (2, .int x2)] 2 [] (r2 σ x1 x2)) (σ : St) (x1 : Int32) (x2 : Int32) : Sm X ZX 3 none σ [(0, .ref (cq X b)), (1, .int x1), (2, .int x2)] 81 [] (m_Board_open_B81 b r2 σ x1 x2) := by
  unfold m_Board_open_B81
  refine s_aload_n C e_Board_open_81 rfl ?_
  refine s_get C fc_1 (zb_lt hb) (zb hb _ _ _) 10 (by decide) e_Board_open_82 g_137 rfl ?_
  refine s_iload_n C e_Board_open_85 rfl ?_
  refine s_iald C (zb5_lt hb) (zb5 hb) e_Board_open_86 ?_
  refine s_iconst C e_Board_open_87 (v := (4 : Int32)) ic_4 ?_
  refine s_icmp_ne (tgt := 103) C e_Board_open_88 rfl ?_ ?_
  · refine s_aload_n C e_Board_open_91 rfl ?_
    refine s_get C fc_1 (zb_lt hb) (zb hb _ _ _) 11 (by decide) e_Board_open_92 g_138 rfl ?_
    refine s_iload_n C e_Board_open_95 rfl ?_
    refine s_aload_n C e_Board_open_96 rfl ?_
    refine s_get C fc_1 (zb_lt hb) (zb hb _ _ _) 7 (by decide) e_Board_open_97 g_93 rfl ?_
    refine s_iload_n C e_Board_open_100 rfl ?_
    refine s_iald C (zb2_lt hb) (zb2 hb) e_Board_open_101 ?_
    refine s_iast C (zb6_lt hb) (zb6 hb) e_Board_open_102 (fun σ1 => ?_)
    exact s_cut (w_Board_open_B103 C hb r2 hr2 _ _ _) ⟨rfl, rfl, rfl, trivial⟩
  · exact s_cut (w_Board_open_B103 C hb r2 hr2 _ _ _) ⟨rfl, rfl, rfl, trivial⟩
set_option maxRecDepth 100000 in
theorem w_Board_open_B2 {X : CX} (C : Cx X ZX RX1 cX1_open 3 none 2 45) {b : Nat} (hb : isB b) (r2 : St → Int32 → Int32 → Rt) (hr2 : ∀ (σ : St) (x1 : Int32) (x2 : Int32), Sm X ZX 3 none σ [(0, .ref (cq X b)), (1, .int x1), (2, .int x2)] 2 [] (r2 σ x1 x2)) (σ : St) (x1 : Int32) (x2 : Int32) : Sm X ZX 3 none σ [(0, .ref (cq X b)), (1, .int x1), (2, .int x2)] 2 [] (m_Board_open_B2 b r2 σ x1 x2) := by
  unfold m_Board_open_B2
  refine s_iload_n C e_Board_open_2 rfl ?_
  refine s_aload_n C e_Board_open_3 rfl ?_
  refine s_get C fc_1 (zb_lt hb) (zb hb _ _ _) 1 (by decide) e_Board_open_4 g_59 rfl ?_
  refine s_icmp_ge (tgt := 109) C e_Board_open_7 rfl ?_ ?_
  · refine s_aload_n C e_Board_open_109 rfl ?_
    refine s_iconst C e_Board_open_110 (v := (1 : Int32)) ic_1 ?_
    refine s_putZ C fc_1 (zb_lt hb) (zb hb _ _ _) 5 (by decide) (zbp_5 hb _ _ _ _) (Nat.le_of_ble_eq_true rfl) e_Board_open_111 g_63 rfl rfl (fun σ1 => ?_)
    exact s_vret C e_Board_open_114
  · refine s_iload_n C e_Board_open_10 rfl ?_
    refine s_iload_n C e_Board_open_11 rfl ?_
    refine s_callN_2 C (c_P_isSet C.inj _ _ _) wv_P_isSet g_176 ⟨by decide, by decide⟩ rfl (Nat.le_of_ble_eq_true rfl) e_Board_open_12 (fun v2 σ3 => ?_)
    refine s_if_eq (tgt := 21) C e_Board_open_15 rfl ?_ ?_
    · refine s_aload_n C e_Board_open_21 rfl ?_
      refine s_get C fc_1 (zb_lt hb) (zb hb _ _ _) 10 (by decide) e_Board_open_22 g_137 rfl ?_
      refine s_iload_n C e_Board_open_25 rfl ?_
      refine s_iald C (zb5_lt hb) (zb5 hb) e_Board_open_26 ?_
      refine s_iconst C e_Board_open_27 (v := (2 : Int32)) ic_2 ?_
      refine s_icmp_ne (tgt := 39) C e_Board_open_28 rfl ?_ ?_
      · refine s_aload_n C e_Board_open_31 rfl ?_
        refine s_iload_n C e_Board_open_32 rfl ?_
        refine s_callVv_1 C (c_Board_mix C.inj hb _ _) wv_Board_mix g_172 ⟨by decide, by decide⟩ fc_1 rfl (zb_lt hb) (zb hb _ _ _) rfl (Nat.le_of_ble_eq_true rfl) e_Board_open_33 (fun v5 σ6 => ?_)
        refine s_goto (tgt := 103) C e_Board_open_36 rfl ?_
        exact s_cut (w_Board_open_B103 C hb r2 hr2 _ _ _) ⟨rfl, rfl, rfl, trivial⟩
      · refine s_aload_n C e_Board_open_39 rfl ?_
        refine s_get C fc_1 (zb_lt hb) (zb hb _ _ _) 10 (by decide) e_Board_open_40 g_137 rfl ?_
        refine s_iload_n C e_Board_open_43 rfl ?_
        refine s_iald C (zb5_lt hb) (zb5 hb) e_Board_open_44 ?_
        refine s_iconst C e_Board_open_45 (v := (3 : Int32)) ic_3 ?_
        refine s_icmp_ne (tgt := 81) C e_Board_open_46 rfl ?_ ?_
        · refine s_aload_n C e_Board_open_49 rfl ?_
          refine s_get C fc_1 (zb_lt hb) (zb hb _ _ _) 0 (by decide) e_Board_open_50 g_58 rfl ?_
          refine s_if_le (tgt := 81) C e_Board_open_53 rfl ?_ ?_
          · exact s_cut (w_Board_open_B81 C hb r2 hr2 _ _ _) ⟨rfl, rfl, rfl, trivial⟩
          · refine s_aload_n C e_Board_open_56 rfl ?_
            refine s_get C fc_1 (zb_lt hb) (zb hb _ _ _) 11 (by decide) e_Board_open_57 g_138 rfl ?_
            refine s_iload_n C e_Board_open_60 rfl ?_
            refine s_aload_n C e_Board_open_61 rfl ?_
            refine s_get C fc_1 (zb_lt hb) (zb hb _ _ _) 11 (by decide) e_Board_open_62 g_138 rfl ?_
            refine s_iload_n C e_Board_open_65 rfl ?_
            refine s_iald C (zb6_lt hb) (zb6 hb) e_Board_open_66 ?_
            refine s_aload_n C e_Board_open_67 rfl ?_
            refine s_get C fc_1 (zb_lt hb) (zb hb _ _ _) 2 (by decide) e_Board_open_68 g_60 rfl ?_
            refine s_iadd C e_Board_open_71 ?_
            refine s_aload_n C e_Board_open_72 rfl ?_
            refine s_get C fc_1 (zb_lt hb) (zb hb _ _ _) 0 (by decide) e_Board_open_73 g_58 rfl ?_
            refine s_irem C e_Board_open_76 ?_
            refine s_iast C (zb6_lt hb) (zb6 hb) e_Board_open_77 (fun σ4 => ?_)
            refine s_goto (tgt := 103) C e_Board_open_78 rfl ?_
            exact s_cut (w_Board_open_B103 C hb r2 hr2 _ _ _) ⟨rfl, rfl, rfl, trivial⟩
        · exact s_cut (w_Board_open_B81 C hb r2 hr2 _ _ _) ⟨rfl, rfl, rfl, trivial⟩
    · refine s_goto (tgt := 103) C e_Board_open_18 rfl ?_
      exact s_cut (w_Board_open_B103 C hb r2 hr2 _ _ _) ⟨rfl, rfl, rfl, trivial⟩
theorem w_Board_open_L2 {X : CX} (C : Cx X ZX RX1 cX1_open 3 none 2 45) {b : Nat} (hb : isB b)  : ∀ (n : Nat) (σ : St) (x1 : Int32) (x2 : Int32), Sm X ZX 3 none σ [(0, .ref (cq X b)), (1, .int x1), (2, .int x2)] 2 [] (m_Board_open_L2 b n σ x1 x2)
  | 0, _, _, _ => s_none
  | n + 1, σ, x1, x2 => w_Board_open_B2 C hb (m_Board_open_L2 b n) (w_Board_open_L2 C hb n) σ x1 x2
set_option maxRecDepth 100000 in
theorem w_Board_open {X : CX} (C : Cx X ZX RX1 cX1_open 3 none 2 45) {b : Nat} (hb : isB b) (σ : St) (x1 : Int32) : Sm X ZX 3 none σ [(0, .ref (cq X b)), (1, .int x1)] 0 [] (m_Board_open b σ x1) := by
  unfold m_Board_open
  refine s_iconst C e_Board_open_0 (v := (0 : Int32)) ic_0 ?_
  refine s_istore_n C e_Board_open_1 (by decide) ?_
  exact s_cut (w_Board_open_L2 C hb FU _ _ _) ⟨rfl, rfl, rfl, trivial⟩
theorem c_Board_open {l : Launch} {D : va_G} {k : Nat → ClassId} {q : Nat → Nat} (hq : Inj ZX q) {b : Nat} (hb : isB b) (σ : St) (x1 : Int32) : Ct l ZX D k q yX1_open cX1_open 3 none 2 45 [.ref (q b), .int x1] σ (m_Board_open b σ x1) :=
  Ct_of hq lcX (by decide) (Nat.le_of_ble_eq_true rfl) (fun _ _ _ _ _ _ _ _ _ _ C => w_Board_open C hb σ x1)
